/-! the class's second mill: what stays, lines -/
section Sm1
variable {B h h' h0 : MH} {k0 md md' rp rp' : Nat} {tx : List Int} {n : Int} {s : S2} {P Q : Nat → Nat → Prop} {L : List LnT}
def GF (B h : MH) : Prop := (∀ b i, b < 86 ∨ (107 ≤ b ∧ b < 150) → mGi h b i = mGi B b i) ∧ (∀ b i, b < 86 ∨ (107 ≤ b ∧ b < 150) → mGl h b i = mGl B b i) ∧ (∀ b i, b < 150 → b ≠ 96 → mGr h b i = mGr B b i) ∧ h.1.length + 5 * nRows B ≤ B.1.length + 5 * nRows h ∧ mSlt h + 1412 * nRows B ≤ mSlt B + 1412 * nRows h ∧ mSc h = mSc B
theorem GF.rf : GF h h := ⟨fun _ _ _ => rfl, fun _ _ _ => rfl, fun _ _ _ _ => rfl, Nat.le_refl _, Nat.le_refl _, rfl⟩
theorem GF.fw (z : GF B h) (f : FW P Q h h') (hP : ∀ b i, P b i → 86 ≤ b ∧ b ≤ 106) (hQ : ∀ b i, Q b i → 86 ≤ b ∧ b ≤ 106) : GF B h' := by
  obtain ⟨z1, z2, z3, z4, z5, z6⟩ := z
  obtain ⟨f1, f2, f3, f4⟩ := f
  have gr : ∀ a i, mGr h' a i = mGr h a i := fun a i => by show h'.2.2.2.1 a i = h.2.2.2.1 a i; rw [f2]
  have hn : nRows h' = nRows h := nRows_c (fun i => gr 96 i)
  have hs : mSlt h' = mSlt h := by unfold mSlt; rw [f1]
  refine ⟨fun b i hb => (f3 b i (fun q => by have := hP b i q; omega)).trans (z1 b i hb), fun b i hb => (f4 b i (fun q => by have := hQ b i q; omega)).trans (z2 b i hb), fun b i h1 h2 => (gr b i).trans (z3 b i h1 h2), by rw [f1, hn]; exact z4, by rw [hs, hn]; exact z5, ?_⟩
  have : mSc h' = mSc h := by show h'.2.2.2.2 = h.2.2.2.2; rw [f2]
  rw [this, z6]
theorem GF.xf {d : Nat} (z : GF B h) (f : XF d md h h') (ok : rowsOK h) (hl : 150 ≤ h.1.length) : GF B h' := by
  obtain ⟨z1, z2, z3, z4, z5, z6⟩ := z
  refine ⟨fun b i hb => (f.i ok hl (by omega) (by unfold pZ; omega)).trans (z1 b i hb), fun b i hb => (f.l ok hl (by omega) i).trans (z2 b i hb), fun b i h1 h2 => (f.1.2.2 b i (by omega) h2).trans (z3 b i h1 h2), ?_, ?_, ?_⟩
  · have := f.2.2.2.2.2.1; omega
  · have := f.2.2.2.2.2.2.1; omega
  · rw [f.2.2.2.2.2.2.2, z6]
def LvC (h : MH) : List (Bool × Bool × Bool) → Prop
  | [] => True
  | (o, hd, t) :: r => mGi h 104 r.length = bI (o && hd) ∧ mGi h 106 r.length = bI (!o) ∧ mGi h 105 r.length = bI t ∧ LvC h r
theorem LvC.cg : ∀ {l : List (Bool × Bool × Bool)}, (∀ b j, b = 104 ∨ b = 105 ∨ b = 106 → j < l.length → mGi h' b j = mGi h b j) → LvC h l → LvC h' l
  | [], _, _ => trivial
  | (o, hd, t) :: r, e, z => ⟨(e 104 _ (by omega) (by rw [List.length_cons]; omega)).trans z.1, (e 106 _ (by omega) (by rw [List.length_cons]; omega)).trans z.2.1, (e 105 _ (by omega) (by rw [List.length_cons]; omega)).trans z.2.2.1, LvC.cg (fun b j hb hj => e b j hb (by rw [List.length_cons]; omega)) z.2.2.2⟩
def TxC (h : MH) (t : List Int) : Prop := Seg h 88 0 t ∧ t.length ≤ 400 ∧ mGi h 88 400 = 48 ∧ mGi h 88 401 = 49
theorem TxC.cg (z : TxC h tx) (e : ∀ j, j < 402 → mGi h' 88 j = mGi h 88 j) : TxC h' tx := ⟨Seg.cg (fun j _ hj => e j (by have := z.2.1; omega)) z.1, z.2.1, (e 400 (by decide)).trans z.2.2.1, (e 401 (by decide)).trans z.2.2.2⟩
def SC (B : MH) (k0 : Nat) (tx : List Int) (n : Int) (h : MH) (s : S2) : Prop :=
  GF B h ∧ Cm s.1 k0 h s.2.2.2.1 s.2.2.2.2 ∧ nmOK s.1 ∧ (mGi h 86 11 = (s.2.1.length : Int) ∧ s.2.1.length ≤ 6 ∧ LvC h s.2.1) ∧ (Let h 101 600 s.2.2.1 ∧ s.2.2.1.length ≤ 600) ∧ TxC h tx ∧ mGi h 86 7 = n
def SX (B : MH) (k0 : Nat) (n : Int) (h0 : MH) (s : S2) : Prop :=
  GF B h0 ∧ rowsOK h0 ∧ 150 ≤ h0.1.length ∧ (∀ k, k < 8 → (mGl h0 90 k = 0 ↔ s.1 k = none)) ∧ mGi h0 95 3 = (s.2.2.2.1 : Int) ∧ s.2.2.2.1 ≤ 400 ∧ (Let h0 101 600 s.2.2.1 ∧ s.2.2.1.length ≤ 600) ∧ mGi h0 86 7 = n ∧ Room k0 h0 ∧ k0 ≤ 600
def SO (B : MH) (k0 : Nat) (tx : List Int) (n : Int) (x : RS Unit) (q : S2 × Nat) : Prop :=
  (q.2 = 0 → ∃ h', x = some (.inl (), h') ∧ SC B k0 tx n h' q.1) ∧ (q.2 ≠ 0 → ∃ h0, x = some (.inr 13, mNew (mPi h0 87 2 (q.2 : Int)) 13 6) ∧ SX B k0 n h0 q.1)
theorem NmC.z {M : Nat} {nm : Nm} (z : NmC h M nm) {k : Nat} (hk : k < 8) : mGl h 90 k = 0 ↔ nm k = none := by
  have zk := z k hk
  cases e : nm k with
  | none => rw [e] at zk; exact ⟨fun _ => rfl, fun _ => zk⟩
  | some d =>
    obtain ⟨w, ps, b⟩ := d
    rw [e] at zk
    obtain ⟨s, g, z1, -⟩ := zk.1
    exact ⟨fun q => absurd q (z1.ne (by show (1 : Nat) ≠ 0; decide)), fun q => (by cases q)⟩
theorem SC.sx (z : SC B k0 tx n h s) : SX B k0 n h s := ⟨z.1, z.2.1.2.2.2.1, z.2.1.2.2.2.2.2.1, fun k hk => z.2.1.1.z hk, z.2.1.2.2.1, z.2.1.2.2.2.2.2.2.2, z.2.2.2.2.1, z.2.2.2.2.2.2, z.2.1.2.2.2.2.1, z.2.1.2.2.2.2.2.2.1⟩
theorem SC.fail {why : Nat} (z : SC B k0 tx n h s) (hw : why ≠ 0) (K : Unit → MH → RS Unit) : SO B k0 tx n (bnd (F_To_fail (why : Int) h) K) (s, why) := ⟨fun q => absurd q hw, fun _ => ⟨h, to_fail z.2.1.rm.1 K, z.sx⟩⟩
/-- a step on the mill's own cells -/
theorem SC.fwn {lv : List (Bool × Bool × Bool)} {res : List Int} (z : SC B k0 tx n h s) (f : FW P Q h h') (hP : ∀ b i, P b i → b = 86 ∨ (97 ≤ b ∧ b ≤ 106)) (hQ : ∀ b i, Q b i → b = 98 ∨ b = 103) (hlv : mGi h' 86 11 = (lv.length : Int) ∧ lv.length ≤ 6 ∧ LvC h' lv) (hres : Let h' 101 600 res ∧ res.length ≤ 600) : SC B k0 tx (mGi h' 86 7) h' (s.1, lv, res, s.2.2.2.1, s.2.2.2.2) := by
  obtain ⟨z1, z2, z3, z4, z5, z6, z7⟩ := z
  have gi : ∀ b i, b < 97 → b ≠ 86 → mGi h' b i = mGi h b i := fun b i h1 h2 => f.2.2.1 b i (fun q => by have := hP b i q; omega)
  have gl : ∀ b i, b ≠ 98 → b ≠ 103 → mGl h' b i = mGl h b i := fun b i h1 h2 => f.2.2.2 b i (fun q => by have := hQ b i q; omega)
  have gr : ∀ a i, mGr h' a i = mGr h a i := fun a i => by show h'.2.2.2.1 a i = h.2.2.2.1 a i; rw [f.2.1]
  obtain ⟨c1, c2, c3, c4, c5, c6, c7, c8⟩ := z2
  have hs : mSlt h' = mSlt h := by unfold mSlt; rw [f.1]
  have hm : 402 + s.2.2.2.2 ≤ 1302 := by have := c2.2; omega
  refine ⟨z1.fw f (fun b i q => by have := hP b i q; omega) (fun b i q => by have := hQ b i q; omega), ⟨c1.cg (fun j _ => gi 88 j (by omega) (by omega)) (Nat.le_refl _) hm (fun j => ⟨gi 91 j (by omega) (by omega), gi 93 j (by omega) (by omega)⟩) (fun b j hb => gl b j (by omega) (by omega)), ⟨(gi 87 1 (by omega) (by omega)).trans c2.1, c2.2⟩, (gi 95 3 (by omega) (by omega)).trans c3, ⟨fun j hj r hr => ?_, fun j j' hj hj' hne r r' hr hr' => ?_⟩, ?_, by rw [f.1]; exact c6, c7, c8⟩, z3, hlv, hres, z6.cg (fun j _ => gi 88 j (by omega) (by omega)), rfl⟩
  · rw [gr] at hr
    obtain ⟨⟨q1, q2, q3⟩, q4⟩ := c4.1 j hj r hr
    refine ⟨⟨by rw [f.1]; exact q1, ?_, by rw [f.1]; exact q3⟩, q4⟩
    rw [gr, gr, gr, gr]
    exact q2
  · rw [gr] at hr hr'
    exact c4.2 j j' hj hj' hne r r' hr hr'
  · unfold Room at c5 ⊢
    rw [hs, f.1, nRows_c (fun i => gr 96 i)]
    exact c5
theorem SC.fw {lv : List (Bool × Bool × Bool)} {res : List Int} (z : SC B k0 tx n h s) (f : FW P Q h h') (hP : ∀ b i, P b i → (b = 86 ∧ i ≠ 7) ∨ (97 ≤ b ∧ b ≤ 106)) (hQ : ∀ b i, Q b i → b = 98 ∨ b = 103) (hlv : mGi h' 86 11 = (lv.length : Int) ∧ lv.length ≤ 6 ∧ LvC h' lv) (hres : Let h' 101 600 res ∧ res.length ≤ 600) : SC B k0 tx n h' (s.1, lv, res, s.2.2.2.1, s.2.2.2.2) := by
  have q := z.fwn f (fun b i q => by have := hP b i q; omega) hQ hlv hres
  rw [(f.2.2.1 86 7 (fun q => by have := hP 86 7 q; omega)).trans z.2.2.2.2.2.2] at q
  exact q
theorem SC.fw' (z : SC B k0 tx n h s) (f : FW P Q h h') (hP : ∀ b i, P b i → (b = 86 ∧ i ≠ 7 ∧ i ≠ 11) ∨ (97 ≤ b ∧ b ≤ 100) ∨ b = 103) (hQ : ∀ b i, Q b i → b = 98 ∨ b = 103) : SC B k0 tx n h' s := by
  have gi : ∀ b i, (101 ≤ b ∧ b ≤ 106 ∧ b ≠ 103) ∨ (b = 86 ∧ i = 11) → mGi h' b i = mGi h b i := fun b i h1 => f.2.2.1 b i (fun q => by have := hP b i q; omega)
  obtain ⟨l1, l2, l3⟩ := z.2.2.2.1
  obtain ⟨⟨r1, r2, r3⟩, r4⟩ := z.2.2.2.2.1
  exact z.fw f (fun b i q => by have := hP b i q; omega) hQ ⟨(gi 86 11 (by omega)).trans l1, l2, LvC.cg (fun b j hb _ => gi b j (by omega)) l3⟩ ⟨⟨(gi 101 1 (by omega)).trans r1, Seg.cg (fun j _ _ => gi 102 j (by omega)) r2, (gi 101 2 (by omega)).trans r3⟩, r4⟩
/-- an expansion -/
theorem SC.xf (z : SC B k0 tx n h s) (f : XF 0 s.2.2.2.2 h h') (c : Cm s.1 k0 h' rp' md') : SC B k0 tx n h' (s.1, s.2.1, s.2.2.1, rp', md') := by
  obtain ⟨z1, z2, z3, z4, z5, z6, z7⟩ := z
  have ok := z2.2.2.2.1
  have hl := z2.2.2.2.2.2.1
  have gi : ∀ b i, b < 150 → b ≠ 88 → b ≠ 87 → b ≠ 95 → mGi h' b i = mGi h b i := fun b i h1 h2 h3 h4 => f.i ok hl h1 (by unfold pZ; omega)
  obtain ⟨l1, l2, l3⟩ := z4
  obtain ⟨⟨r1, r2, r3⟩, r4⟩ := z5
  exact ⟨z1.xf f ok hl, c, z3, ⟨(gi 86 11 (by omega) (by omega) (by omega) (by omega)).trans l1, l2, LvC.cg (fun b j hb _ => gi b j (by omega) (by omega) (by omega) (by omega)) l3⟩, ⟨⟨(gi 101 1 (by omega) (by omega) (by omega) (by omega)).trans r1, Seg.cg (fun j _ _ => gi 102 j (by omega) (by omega) (by omega) (by omega)) r2, (gi 101 2 (by omega) (by omega) (by omega) (by omega)).trans r3⟩, r4⟩, z6.cg (fun j hj => f.i ok hl (by omega) (by unfold pZ; omega)), (gi 86 7 (by omega) (by omega) (by omega) (by omega)).trans z7⟩
theorem SC.xx (z : SC B k0 tx n h s) (f : XF 0 s.2.2.2.2 h h') (e : mGi h' 95 3 = (rp' : Int)) (h4 : rp' ≤ 400) : SX B k0 n h' (s.1, s.2.1, s.2.2.1, rp', md') := by
  obtain ⟨z1, z2, z3, z4, z5, z6, z7⟩ := z
  have ok := z2.2.2.2.1
  have hl := z2.2.2.2.2.2.1
  have gi : ∀ b i, b < 150 → b ≠ 88 → b ≠ 87 → b ≠ 95 → mGi h' b i = mGi h b i := fun b i h1 h2 h3 h4 => f.i ok hl h1 (by unfold pZ; omega)
  obtain ⟨⟨r1, r2, r3⟩, r4⟩ := z5
  exact ⟨z1.xf f ok hl, f.2.2.2.2.1 ok, by have := f.1.2.1; omega, fun k hk => by rw [f.l ok hl (by decide) k]; exact z2.1.z hk, e, h4, ⟨⟨(gi 101 1 (by omega) (by omega) (by omega) (by omega)).trans r1, Seg.cg (fun j _ _ => gi 102 j (by omega) (by omega) (by omega) (by omega)) r2, (gi 101 2 (by omega) (by omega) (by omega) (by omega)).trans r3⟩, r4⟩, (gi 86 7 (by omega) (by omega) (by omega) (by omega)).trans z7, f.room z2.2.2.2.2.1, z2.2.2.2.2.2.2.1⟩
/-! a line -/
def LnC (h : MH) : Nat → List LnT → Prop
  | _, [] => True
  | j, l :: r => isC (mGl h 103 j) l.1 l.2.2 l.2.1.length 0 0 ∧ Seg h 88 l.2.2 l.2.1 ∧ l.2.2 + l.2.1.length ≤ 400 ∧ LnC h (j + 1) r
theorem LnC.cg (e : ∀ j, j < 402 → mGi h' 88 j = mGi h 88 j) : ∀ {l : List LnT} {p : Nat}, (∀ j, p ≤ j → j < p + l.length → mGl h' 103 j = mGl h 103 j) → LnC h p l → LnC h' p l
  | [], _, _, _ => trivial
  | x :: l, p, el, z => by
    refine ⟨?_, Seg.cg (fun j _ hj => e j (by have := z.2.2.1; omega)) z.2.1, z.2.2.1, LnC.cg e (fun j a b => el j (by omega) (by rw [List.length_cons]; omega)) z.2.2.2⟩
    rw [el p (Nat.le_refl _) (by rw [List.length_cons]; omega)]
    exact z.1
theorem LnC.app : ∀ {l1 : List LnT} {p : Nat} {l2 : List LnT}, LnC h p (l1 ++ l2) ↔ LnC h p l1 ∧ LnC h (p + l1.length) l2
  | [], p, l2 => ⟨fun z => ⟨trivial, z⟩, fun z => z.2⟩
  | x :: l, p, l2 => by
    have z := LnC.app (l1 := l) (p := p + 1) (l2 := l2)
    rw [List.length_cons, show p + (l.length + 1) = p + 1 + l.length by omega]
    exact ⟨fun q => ⟨⟨q.1, q.2.1, q.2.2.1, (z.mp q.2.2.2).1⟩, (z.mp q.2.2.2).2⟩, fun q => ⟨q.1.1, q.1.2.1, q.1.2.2.1, z.mpr ⟨q.1.2.2.2, q.2⟩⟩⟩
theorem LnC.get : ∀ {l : List LnT} {p : Nat} (_ : LnC h p l) {j : Nat} {x : LnT}, l[j]? = some x → isC (mGl h 103 (p + j)) x.1 x.2.2 x.2.1.length 0 0 ∧ Seg h 88 x.2.2 x.2.1 ∧ x.2.2 + x.2.1.length ≤ 400
  | [], _, _, j, x, e => by simp at e
  | y :: l, p, z, 0, x, e => by
    simp at e
    subst e
    exact ⟨z.1, z.2.1, z.2.2.1⟩
  | y :: l, p, z, j + 1, x, e => by
    rw [show p + (j + 1) = p + 1 + j by omega]
    exact LnC.get z.2.2.2 (by simpa using e)
theorem lnT {j : Nat} {x : LnT} {M : Nat} (hM : 402 ≤ M) (hM2 : M ≤ 1302) (z : isC (mGl h 103 j) x.1 x.2.2 x.2.1.length 0 0 ∧ Seg h 88 x.2.2 x.2.1 ∧ x.2.2 + x.2.1.length ≤ 400) : TC h M (mGl h 103 j) (ltk x) false := ⟨x.2.2, 0, z.1, noH_0, z.2.1, by show x.2.2 + x.2.1.length ≤ M; omega, hM2⟩
theorem LnC.ts {M : Nat} (hM : 402 ≤ M) (hM2 : M ≤ 1302) : ∀ {l : List LnT} {p : Nat}, LnC h p l → TSg h M 103 p (um (l.map ltk))
  | [], _, _ => trivial
  | x :: l, p, z => ⟨lnT hM hM2 ⟨z.1, z.2.1, z.2.2.1⟩, LnC.ts hM hM2 z.2.2.2⟩
def lnW (l : LnT) : Prop := l.2.1 ≠ [] ∧ (∀ c ∈ l.2.1, lgl c) ∧ (l.1 = 1 → cL (l.2.1.getD 0 0) = true)
def LnO (h : MH) (L : List LnT) : Prop := mGi h 86 6 = (L.length : Int) ∧ L.length ≤ 400 ∧ LnC h 0 L ∧ ∀ l ∈ L, lnW l
theorem lnW.ok {l : LnT} (z : lnW l) : okT (ltk l) := ⟨z.2.1, fun q => absurd q z.1⟩
theorem LnO.tc {M p : Nat} {x : LnT} (z : LnO h L) (hM : 402 ≤ M) (hM2 : M ≤ 1302) (e : L[p]? = some x) : TC h M (mGl h 103 p) (ltk x) false := by
  have q := z.2.2.1.get e
  rw [Nat.zero_add] at q
  exact lnT hM hM2 q
theorem ln_sign {p : Nat} {c : Int} (z : LnO h L) : F_Sm_isSignAt (p : Int) c h = some (.inl (bI (sgAt L p c)), h) := by
  have hl := z.2.1
  unfold F_Sm_isSignAt F_Sm_isSignAt_29 sgAt
  rw [z.1]
  by_cases q : L.length ≤ p
  · rw [if_pos (by omega), List.getElem?_eq_none q]; rfl
  · have e := List.getElem?_eq_getElem (l := L) (i := p) (by omega)
    rw [if_neg (by omega), gd_b (by omega) (by omega), Int.toNat_natCast, e, to_sign (z.tc (M := 402) (Nat.le_refl _) (by decide) e), bnd_l]
    dsimp only
    cases isSg (ltk L[p]) c <;> rfl
theorem ln_word {p : Nat} (z : LnO h L) : F_Sm_isWordAt (p : Int) h = some (.inl (bI (wdAt L p)), h) := by
  have hl := z.2.1
  unfold F_Sm_isWordAt F_Sm_isWordAt_25 wdAt
  rw [z.1]
  by_cases q : L.length ≤ p
  · rw [if_pos (by omega), List.getElem?_eq_none q]; rfl
  · have e := List.getElem?_eq_getElem (l := L) (i := p) (by omega)
    rw [if_neg (by omega), gd_b (by omega) (by omega), Int.toNat_natCast, e, to_kind (z.tc (M := 402) (Nat.le_refl _) (by decide) e), bnd_l]
    dsimp only
    by_cases c : L[p].1 = 1
    · rw [if_pos (show ((ltk L[p]).1 : Int) = 1 by show (L[p].1 : Int) = 1; omega), decide_eq_true c]; rfl
    · rw [if_neg (show ¬ ((ltk L[p]).1 : Int) = 1 by show ¬ (L[p].1 : Int) = 1; omega), decide_eq_false c]; rfl
/-! cutting a line -/
theorem scn_len {l : List Int} (hl : l ≠ []) : 1 ≤ (scn l).2 ∧ (scn l).2 ≤ l.length := by
  have h1 : 1 ≤ l.length := List.length_pos_iff.mpr hl
  have hs : 1 ≤ sgn l ∧ sgn l ≤ l.length := by
    unfold sgn
    split
    · next c => exact ⟨by decide, c.1⟩
    · exact ⟨by decide, h1⟩
  unfold scn
  split
  · next c => exact ⟨c, List.Sublist.length_le (List.takeWhile_sublist _)⟩
  · split
    · split
      · next k e =>
        have := qIdx_le e
        rw [List.length_drop] at this
        show 1 ≤ k + 2 ∧ k + 2 ≤ l.length
        omega
      · exact hs
    · exact hs
theorem scn_1 {l : List Int} (e : (scn l).1 = 1) : cL (l.getD 0 0) = true := by
  unfold scn at e
  split at e
  · next c =>
    have hP : cP (l.getD 0 0) = true := by
      cases l with
      | nil => exact absurd c (by decide)
      | cons x t =>
        rw [List.takeWhile_cons] at c
        by_cases d : cP x = true
        · exact d
        · rw [if_neg d] at c; exact absurd c (by decide)
    by_cases d : cD (l.getD 0 0) = true
    · rw [if_pos d] at e; cases e
    · unfold cP at hP
      unfold cD at d
      unfold cL
      rw [decide_eq_true_eq] at hP d ⊢
      omega
  · split at e
    · split at e <;> cases e
    · cases e
noncomputable def cuL (f : Nat) (v2 v3 : Int) (h : MH) : RS Unit := itr (fun self (q : Int × Int × MH) => F_Sm_cutLine_7_b (fun v2 v3 h => self (v2, v3, h)) q.1 q.2.1 q.2.2) f (v2, v3, h)
theorem cuL_s {f : Nat} {v2 v3 : Int} : cuL (f + 1) v2 v3 h = F_Sm_cutLine_7_b (cuL f) v2 v3 h := rfl
def pLn (b i : Nat) : Prop := b = 86 ∧ i = 6
def qLn (b _i : Nat) : Prop := b = 103
theorem cut_l {e : Nat} (he : e ≤ 400) : ∀ (N : Nat) (x : List Int) (f F p : Nat) (h : MH) (acc : List LnT), x.length ≤ N → N < f → x.length < F → p + x.length = e → acc.length ≤ p → Seg h 88 p x → (∀ c ∈ x, lgl c) → mGi h 86 6 = (acc.length : Int) → LnC h 0 acc → (∀ l ∈ acc, lnW l) →
    ∃ h', cuL f (e : Int) (p : Int) h = some (.inl (), h') ∧ FW pLn qLn h h' ∧ LnO h' (acc ++ cutL F p x) := by
  intro N
  induction N with
  | zero =>
    intro x f F p h acc hN hf hF hp ha z ok e6 lc lw
    obtain ⟨f, rfl⟩ : ∃ g, f = g + 1 := ⟨f - 1, by omega⟩
    obtain ⟨F, rfl⟩ : ∃ g, F = g + 1 := ⟨F - 1, by omega⟩
    have : x = [] := List.eq_nil_of_length_eq_zero (by omega)
    subst this
    rw [List.length_nil] at hp
    refine ⟨h, ?_, FW.rf, ?_⟩
    · rw [cuL_s, F_Sm_cutLine_7_b, if_pos (by omega)]
    · rw [cutL, List.append_nil]
      exact ⟨e6, by omega, lc, lw⟩
  | succ N ih =>
    intro x f F p h acc hN hf hF hp ha z ok e6 lc lw
    obtain ⟨f, rfl⟩ : ∃ g, f = g + 1 := ⟨f - 1, by omega⟩
    obtain ⟨F, rfl⟩ : ∃ g, F = g + 1 := ⟨F - 1, by omega⟩
    cases x with
    | nil =>
      rw [List.length_nil] at hp
      refine ⟨h, ?_, FW.rf, ?_⟩
      · rw [cuL_s, F_Sm_cutLine_7_b, if_pos (by omega)]
      · rw [cutL, List.append_nil]
        exact ⟨e6, by omega, lc, lw⟩
    | cons c t =>
      rw [List.length_cons] at hN hF hp
      rw [cuL_s, F_Sm_cutLine_7_b, if_neg (by omega), gd_b (by omega) (by omega), Int.toNat_natCast, z.1, cutL]
      by_cases c32 : c = 32
      · rw [if_pos c32, if_pos c32, gd_rg (by omega) (by omega), show (p : Int) + 1 = ((p + 1 : Nat) : Int) by omega]
        exact ih t f F (p + 1) h acc (by omega) (by omega) (by omega) (by omega) (by omega) z.2 (fun y hy => ok y (List.mem_cons_of_mem _ hy)) e6 lc lw
      · have hlc := ok c List.mem_cons_self
        have hr : 0 ≤ (c :: t).getD 0 0 ∧ (c :: t).getD 0 0 < 65536 := by show 0 ≤ c ∧ c < 65536; unfold lgl at hlc; omega
        obtain ⟨v, e1, e2⟩ := to_scan (h := h) (p := p) (l := c :: t) (by simp) (by rw [List.length_cons]; omega) z hr
        rw [List.length_cons, show p + (t.length + 1) = e by omega] at e1
        obtain ⟨k1, k2⟩ := scn_len (l := c :: t) (by simp)
        rw [List.length_cons] at k2
        rw [if_neg c32, if_neg c32, e1, bnd_l, e6, gd_b (by omega) (by omega), Int.toNat_natCast]
        simp only [sto_e]
        rw [gi_pl, e6, gd_b (by omega) (by omega), Int.toNat_natCast, gl_pl, if_pos ⟨rfl, rfl⟩]
        unfold F_To_length
        rw [e2.len, bnd_l]
        have em : (if (1 : Int) < ((scn (c :: t)).2 : Int) then ((scn (c :: t)).2 : Int) else 1) = ((scn (c :: t)).2 : Int) := by split <;> omega
        rw [em, gd_rg (by omega) (by omega), gi_pl, e6, gd_rg (by omega) (by omega), show (p : Int) + ((scn (c :: t)).2 : Int) = ((p + (scn (c :: t)).2 : Nat) : Int) by omega]
        have f1 : FW pLn qLn h (mPi (mPl h 103 acc.length v) 86 6 ((acc.length : Int) + 1)) := FW.pi (FW.pl FW.rf rfl) ⟨rfl, rfl⟩
        have hd := z.drop (scn (c :: t)).2 (by rw [List.length_cons]; omega)
        have htk := z.take (scn (c :: t)).2
        have hlen : ((c :: t).take (scn (c :: t)).2).length = (scn (c :: t)).2 := by rw [List.length_take, List.length_cons]; omega
        have e88 : ∀ j, mGi (mPi (mPl h 103 acc.length v) 86 6 ((acc.length : Int) + 1)) 88 j = mGi h 88 j := fun j => f1.2.2.1 88 j (by unfold pLn; omega)
        have lw1 : lnW ((scn (c :: t)).1, (c :: t).take (scn (c :: t)).2, p) := by
          refine ⟨fun q => ?_, fun y hy => ok y (List.mem_of_mem_take hy), fun q => ?_⟩
          · have q' : (c :: t).take (scn (c :: t)).2 = [] := q
            rw [q'] at hlen
            have : (0 : Nat) = (scn (c :: t)).2 := hlen
            omega
          · have := scn_1 q
            show cL (((c :: t).take (scn (c :: t)).2).getD 0 0) = true
            obtain ⟨m, hm⟩ : ∃ m, (scn (c :: t)).2 = m + 1 := ⟨(scn (c :: t)).2 - 1, by omega⟩
            rw [hm]
            exact this
        obtain ⟨h2, a1, a2, a3⟩ := ih ((c :: t).drop (scn (c :: t)).2) f F (p + (scn (c :: t)).2) (mPi (mPl h 103 acc.length v) 86 6 ((acc.length : Int) + 1)) (acc ++ [((scn (c :: t)).1, (c :: t).take (scn (c :: t)).2, p)]) (by rw [List.length_drop, List.length_cons]; omega) (by omega) (by rw [List.length_drop, List.length_cons]; omega) (by rw [List.length_drop, List.length_cons]; omega) (by rw [List.length_append, List.length_singleton]; omega) (Seg.cg (fun j _ _ => e88 j) hd) (fun y hy => ok y (List.mem_of_mem_drop hy)) (by rw [gi_s, List.length_append, List.length_singleton]; omega) (by
          rw [LnC.app]
          refine ⟨LnC.cg (h := h) (fun j _ => e88 j) (fun j _ hj => by rw [gl_pi, gl_pl, if_neg (by omega)]) lc, ?_, Seg.cg (fun j _ _ => e88 j) htk, by show p + ((c :: t).take (scn (c :: t)).2).length ≤ 400; omega, trivial⟩
          rw [Nat.zero_add, gl_pi, gl_pl, if_pos ⟨rfl, rfl⟩]
          show isC v _ p ((c :: t).take (scn (c :: t)).2).length 0 0
          rw [hlen]
          exact e2) (fun l hl => by
            rcases List.mem_append.mp hl with q | q
            · exact lw l q
            · rw [List.mem_singleton.mp q]; exact lw1)
        refine ⟨h2, a1, f1.tr a2, ?_⟩
        rw [List.append_assoc] at a3
        exact a3
theorem sm_cut {p : Nat} {x : List Int} (hp : p + x.length ≤ 400) (z : Seg h 88 p x) (ok : ∀ c ∈ x, lgl c) : ∃ h', F_Sm_cutLine (p : Int) ((p + x.length : Nat) : Int) h = some (.inl (), h') ∧ FW pLn qLn h h' ∧ LnO h' (cutL (x.length + 1) p x) := by
  have f1 : FW pLn qLn h (mPi h 86 6 0) := FW.pi FW.rf ⟨rfl, rfl⟩
  obtain ⟨h2, a1, a2, a3⟩ := cut_l hp x.length x FU (x.length + 1) p (mPi h 86 6 0) [] (Nat.le_refl _) (by unfold FU; omega) (by omega) rfl (Nat.zero_le _) (Seg.cg (h := h) (fun j _ _ => f1.2.2.1 88 j (by unfold pLn; omega)) z) ok gi_s trivial (fun l hl => absurd hl List.not_mem_nil)
  exact ⟨h2, a1, f1.tr a2, a3⟩
end Sm1
