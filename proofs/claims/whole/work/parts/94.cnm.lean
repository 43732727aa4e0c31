/-! the class's names -/
section Cnm
/-- only these ints and these longs differ -/
def FW (P Q : Nat → Nat → Prop) (h h' : MH) : Prop := h'.1 = h.1 ∧ h'.2.2.2 = h.2.2.2 ∧ (∀ b i, ¬ P b i → mGi h' b i = mGi h b i) ∧ ∀ b i, ¬ Q b i → mGl h' b i = mGl h b i
variable {P P' Q Q' : Nat → Nat → Prop} {h h' h'' : MH} {M M' : Nat} {v : Int64} {t : Tk} {m : Bool} {nm : Nm}
theorem FW.rf : FW P Q h h := ⟨rfl, rfl, fun _ _ _ => rfl, fun _ _ _ => rfl⟩
theorem FW.tr (a : FW P Q h h') (b : FW P Q h' h'') : FW P Q h h'' := ⟨b.1.trans a.1, b.2.1.trans a.2.1, fun c i hc => (b.2.2.1 c i hc).trans (a.2.2.1 c i hc), fun c i hc => (b.2.2.2 c i hc).trans (a.2.2.2 c i hc)⟩
theorem FW.sub (a : FW P Q h h') (h1 : ∀ b i, P b i → P' b i) (h2 : ∀ b i, Q b i → Q' b i) : FW P' Q' h h' := ⟨a.1, a.2.1, fun c i hc => a.2.2.1 c i (fun q => hc (h1 c i q)), fun c i hc => a.2.2.2 c i (fun q => hc (h2 c i q))⟩
theorem FW.pi {a i : Nat} {x : Int} (f : FW P Q h h') (hp : P a i) : FW P Q h (mPi h' a i x) := by
  refine ⟨f.1, f.2.1, fun b j hb => ?_, f.2.2.2⟩
  rw [gi_pi, if_neg (fun q : b = a ∧ j = i => hb (by rw [q.1, q.2]; exact hp))]
  exact f.2.2.1 b j hb
theorem FW.pl {a i : Nat} {x : Int64} (f : FW P Q h h') (hp : Q a i) : FW P Q h (mPl h' a i x) := by
  refine ⟨f.1, f.2.1, f.2.2.1, fun b j hb => ?_⟩
  rw [gl_pl, if_neg (fun q : b = a ∧ j = i => hb (by rw [q.1, q.2]; exact hp))]
  exact f.2.2.2 b j hb
theorem FW.cp {a b sp dp n : Nat} (f : FW P Q h h') (hp : ∀ j, dp ≤ j → j < dp + n → P b j) : FW P Q h (mCpI h' a b sp dp n) := by
  refine ⟨f.1, f.2.1, fun c j hc => ?_, f.2.2.2⟩
  rw [gi_cp, if_neg (fun q : c = b ∧ dp ≤ j ∧ j < dp + n => hc (by rw [q.1]; exact hp j q.2.1 q.2.2))]
  exact f.2.2.1 c j hc
theorem FW.cl {a b sp dp n : Nat} (f : FW P Q h h') (hp : ∀ j, dp ≤ j → j < dp + n → Q b j) : FW P Q h (mCpL h' a b sp dp n) := by
  refine ⟨f.1, f.2.1, f.2.2.1, fun c j hc => ?_⟩
  rw [gl_cl, if_neg (fun q : c = b ∧ dp ≤ j ∧ j < dp + n => hc (by rw [q.1]; exact hp j q.2.1 q.2.2))]
  exact f.2.2.2 c j hc
def PrC (h : MH) (M : Nat) : Nat → List (List Int) → Prop
  | _, [] => True
  | p, x :: l => TC h M (mGl h 92 p) (1, x, noH) false ∧ PrC h M (p + 1) l
def BoC (h : MH) (M : Nat) : Nat → List (Nat × List Int) → Prop
  | _, [] => True
  | p, (k, x) :: l => TC h M (mGl h 94 p) (k, x, noH) false ∧ BoC h M (p + 1) l
def psN (ps : Option (List (List Int))) : Int := match ps with
  | none => -1
  | some l => (l.length : Int)
def NmK (h : MH) (M k : Nat) : Option NmD → Prop
  | none => mGl h 90 k = 0
  | some (w, ps, b) => TC h M (mGl h 90 k) (1, w, noH) false ∧ mGi h 91 k = psN ps ∧ PrC h M (3 * k) (ps.getD []) ∧ mGi h 93 k = (b.length : Int) ∧ BoC h M (12 * k) b ∧ (ps.getD []).length ≤ 3 ∧ b.length ≤ 12
def NmC (h : MH) (M : Nat) (nm : Nm) : Prop := ∀ k, k < 8 → NmK h M k (nm k)
theorem PrC.cg (e : ∀ j, j < M → mGi h' 88 j = mGi h 88 j) (h1 : M ≤ M') (h2 : M' ≤ 1302) : ∀ {l : List (List Int)} {p : Nat}, (∀ j, p ≤ j → j < p + l.length → mGl h' 92 j = mGl h 92 j) → PrC h M p l → PrC h' M' p l
  | [], _, _, _ => trivial
  | x :: l, p, el, z => by
    refine ⟨?_, PrC.cg e h1 h2 (fun j a b => el j (by omega) (by rw [List.length_cons]; omega)) z.2⟩
    rw [el p (Nat.le_refl _) (by rw [List.length_cons]; omega)]
    exact z.1.cg e h1 h2
theorem BoC.cg (e : ∀ j, j < M → mGi h' 88 j = mGi h 88 j) (h1 : M ≤ M') (h2 : M' ≤ 1302) : ∀ {l : List (Nat × List Int)} {p : Nat}, (∀ j, p ≤ j → j < p + l.length → mGl h' 94 j = mGl h 94 j) → BoC h M p l → BoC h' M' p l
  | [], _, _, _ => trivial
  | (k, x) :: l, p, el, z => by
    refine ⟨?_, BoC.cg e h1 h2 (fun j a b => el j (by omega) (by rw [List.length_cons]; omega)) z.2⟩
    rw [el p (Nat.le_refl _) (by rw [List.length_cons]; omega)]
    exact z.1.cg e h1 h2
theorem NmC.cg (z : NmC h M nm) (e : ∀ j, j < M → mGi h' 88 j = mGi h 88 j) (h1 : M ≤ M') (h2 : M' ≤ 1302) (ei : ∀ j, mGi h' 91 j = mGi h 91 j ∧ mGi h' 93 j = mGi h 93 j) (el : ∀ b j, b = 90 ∨ b = 92 ∨ b = 94 → mGl h' b j = mGl h b j) : NmC h' M' nm := by
  intro k hk
  have q := z k hk
  cases hq : nm k with
  | none =>
    rw [hq] at q
    exact (el 90 k (.inl rfl)).trans q
  | some d =>
    obtain ⟨w, ps, b⟩ := d
    rw [hq] at q
    obtain ⟨q1, q2, q3, q4, q5, q6, q7⟩ := q
    refine ⟨?_, (ei k).1.trans q2, PrC.cg e h1 h2 (fun j _ _ => el 92 j (.inr (.inl rfl))) q3, (ei k).2.trans q4, BoC.cg e h1 h2 (fun j _ _ => el 94 j (.inr (.inr rfl))) q5, q6, q7⟩
    rw [el 90 k (.inl rfl)]
    exact q1.cg e h1 h2
def oI (o : Option Nat) : Int := match o with
  | none => -1
  | some k => (k : Int)
theorem fi_l (z : NmC h M nm) (y : TC h M v t m) : ∀ (q f j : Nat), j + q = 8 → q < f → itr (fun self (q : Int64 × Int × MH) => F_Na_find_3_b (fun v2 v4 h => self (v2, v4, h)) q.1 q.2.1 q.2.2) f (v, (j : Int), h) = some (.inl (oI ((List.range' j q).find? (isNm nm t.2.1))), h) := by
  intro q
  induction q with
  | zero =>
    intro f j hj hf
    obtain ⟨f, rfl⟩ : ∃ g, f = g + 1 := ⟨f - 1, by omega⟩
    rw [itr_s]
    dsimp only
    rw [F_Na_find_3_b, if_pos (by omega)]
    rfl
  | succ q ih =>
    intro f j hj hf
    obtain ⟨f, rfl⟩ : ∃ g, f = g + 1 := ⟨f - 1, by omega⟩
    have zk := z j (by omega)
    have i := ih f (j + 1) (by omega) (by omega)
    rw [itr_s]
    dsimp only
    unfold F_Na_find_3_b F_Na_find_40
    rw [if_neg (by omega), gd_b (by omega) (by omega), Int.toNat_natCast, gd_rg (by omega) (by omega), show (j : Int) + 1 = ((j + 1 : Nat) : Int) by omega, List.range'_succ, List.find?_cons]
    cases hq : nm j with
    | none =>
      rw [hq] at zk
      have e : isNm nm t.2.1 j = false := by unfold isNm; rw [hq]
      rw [e, if_pos (lg_eq.mpr zk)]
      exact i
    | some d =>
      obtain ⟨w, ps, b⟩ := d
      rw [hq] at zk
      have hne : mGl h 90 j ≠ 0 := by
        obtain ⟨s, g, z1, -⟩ := zk.1
        exact z1.ne (by show (1 : Nat) ≠ 0; decide)
      have e : isNm nm t.2.1 j = decide (w = t.2.1) := by unfold isNm; rw [hq]
      rw [e, if_neg (fun q => hne (lg_eq.mp q)), to_same zk.1 y, bnd_l]
      by_cases c : w = t.2.1
      · rw [if_pos c, if_neg (by decide), decide_eq_true c]; rfl
      · rw [if_neg c, if_pos rfl, decide_eq_false c, gd_rg (by omega) (by omega)]
        exact i
theorem na_find (z : NmC h M nm) (y : TC h M v t m) : F_Na_find v h = some (.inl (oI (fnd nm t.2.1)), h) := by
  unfold fnd
  rw [List.range_eq_range']
  exact fi_l z y 8 FU 0 rfl (by unfold FU; omega)
theorem fr_l (z : NmC h M nm) : ∀ (q f j : Nat), j + q = 8 → q < f → itr (fun self (q : Int × MH) => F_Na_freePlace_2_b (fun v1 h => self (v1, h)) q.1 q.2) f ((j : Int), h) = some (.inl (oI ((List.range' j q).find? fun k => (nm k).isNone)), h) := by
  intro q
  induction q with
  | zero =>
    intro f j hj hf
    obtain ⟨f, rfl⟩ : ∃ g, f = g + 1 := ⟨f - 1, by omega⟩
    rw [itr_s]
    dsimp only
    rw [F_Na_freePlace_2_b, if_pos (by omega)]
    rfl
  | succ q ih =>
    intro f j hj hf
    obtain ⟨f, rfl⟩ : ∃ g, f = g + 1 := ⟨f - 1, by omega⟩
    have zk := z j (by omega)
    have i := ih f (j + 1) (by omega) (by omega)
    rw [itr_s]
    dsimp only
    rw [F_Na_freePlace_2_b, if_neg (by omega), gd_b (by omega) (by omega), Int.toNat_natCast, gd_rg (by omega) (by omega), show (j : Int) + 1 = ((j + 1 : Nat) : Int) by omega, List.range'_succ, List.find?_cons]
    cases hq : nm j with
    | none =>
      rw [hq] at zk
      rw [if_pos (lg_eq.mpr zk)]
      rfl
    | some d =>
      obtain ⟨w, ps, b⟩ := d
      rw [hq] at zk
      have hne : mGl h 90 j ≠ 0 := by
        obtain ⟨s, g, z1, -⟩ := zk.1
        exact z1.ne (by show (1 : Nat) ≠ 0; decide)
      rw [if_neg (fun q => hne (lg_eq.mp q))]
      exact i
theorem na_free (z : NmC h M nm) : F_Na_freePlace h = some (.inl (oI (fre nm)), h) := by
  unfold fre
  rw [List.range_eq_range']
  exact fr_l z 8 FU 0 rfl (by unfold FU; omega)
theorem pa_l {k n : Nat} (hk : k < 8) (hn : n ≤ 3) (e : mGi h 91 k = (n : Int)) (y : TC h M v t m) : ∀ (l : List (List Int)) (f j : Nat), l.length < f → j + l.length = n → PrC h M (3 * k + j) l → itr (fun self (q : Int × Int64 × Int × MH) => F_Na_parameterOf_3_b (fun v2 v3 v5 h => self (v2, v3, v5, h)) q.1 q.2.1 q.2.2.1 q.2.2.2) f ((k : Int), v, (j : Int), h) = some (.inl (oI ((l.findIdx? fun p => decide (p = t.2.1)).map (· + j))), h) := by
  intro l
  induction l with
  | nil =>
    intro f j hf hj z
    obtain ⟨f, rfl⟩ : ∃ g, f = g + 1 := ⟨f - 1, by omega⟩
    rw [List.length_nil] at hj
    rw [itr_s]
    dsimp only
    rw [F_Na_parameterOf_3_b, gd_b (by omega) (by omega), Int.toNat_natCast, e, if_pos (by omega)]
    rfl
  | cons x l ih =>
    intro f j hf hj z
    obtain ⟨f, rfl⟩ : ∃ g, f = g + 1 := ⟨f - 1, by omega⟩
    rw [List.length_cons] at hj hf
    rw [itr_s]
    dsimp only
    rw [F_Na_parameterOf_3_b, gd_b (by omega) (by omega), Int.toNat_natCast, e, if_neg (by omega), gd_rg (by omega) (by omega), gd_rg (by omega) (by omega), gd_b (by omega) (by omega), show ((k : Int) * 3 + (j : Int)).toNat = 3 * k + j by omega, to_same z.1 y, bnd_l, List.findIdx?_cons]
    by_cases c : x = t.2.1
    · rw [if_pos c, if_neg (by decide), decide_eq_true c]
      simp [oI]
    · have i := ih f (j + 1) (by omega) (by omega) (by have := z.2; rw [show 3 * k + j + 1 = 3 * k + (j + 1) by omega] at this; exact this)
      rw [if_neg c, if_pos rfl, decide_eq_false c, gd_rg (by omega) (by omega), show (j : Int) + 1 = ((j + 1 : Nat) : Int) by omega]
      refine Eq.trans i ?_
      have hf : ((fun x => x + j) ∘ fun i => i + 1) = fun x => x + (j + 1) := by
        funext a
        simp only [Function.comp]
        omega
      rw [if_neg (by decide), Option.map_map, hf]
theorem na_par {k : Nat} {d : NmD} (z : NmC h M nm) (hk : k < 8) (hd : nm k = some d) (y : TC h M v t m) : F_Na_parameterOf (k : Int) v h = some (.inl (oI (pix (d.2.1.getD []) t.2.1)), h) := by
  obtain ⟨w, ps, b⟩ := d
  have zk := z k hk
  rw [hd] at zk
  obtain ⟨q1, q2, q3, q4, q5, q6, q7⟩ := zk
  unfold F_Na_parameterOf
  cases ps with
  | none =>
    unfold F_Na_parameterOf_3
    rw [show FU = 99999999 + 1 from rfl, itr_s]
    dsimp only
    rw [F_Na_parameterOf_3_b, gd_b (by omega) (by omega), Int.toNat_natCast, q2, if_pos (by decide)]
    rfl
  | some l =>
    have i := pa_l (h := h) (M := M) (k := k) (n := l.length) hk q6 q2 y l FU 0 (by have : l.length ≤ 3 := q6; unfold FU; omega) (by omega) q3
    refine Eq.trans i ?_
    show some (Sum.inl (oI (Option.map (· + 0) (pix l t.2.1))), h) = some (Sum.inl (oI (pix l t.2.1)), h)
    cases pix l t.2.1 <;> rfl
theorem BoC.get : ∀ {l : List (Nat × List Int)} {p : Nat} (_ : BoC h M p l) {j : Nat} {k : Nat} {x : List Int}, l[j]? = some (k, x) → TC h M (mGl h 94 (p + j)) (k, x, noH) false
  | [], _, _, j, k, x, e => by simp at e
  | (k', x') :: l, p, z, 0, k, x, e => by
    simp at e
    obtain ⟨rfl, rfl⟩ := e
    exact z.1
  | (k', x') :: l, p, z, j + 1, k, x, e => by
    rw [show p + (j + 1) = p + 1 + j by omega]
    exact BoC.get z.2 (by simpa using e)
/-- a body's token as a token -/
def bTk (b : List (Nat × List Int)) (j : Int) : Tk := if j < 0 then nTk else match b[j.toNat]? with
  | some (k, x) => (k, x, noH)
  | none => nTk
theorem na_body {k : Nat} {d : NmD} (z : NmC h M nm) (hk : k < 8) (hd : nm k = some d) (hM : M ≤ 1302) {j : Int} (h0 : -1 ≤ j) (h1 : j < 100) : ∃ v, F_Na_bodyAt (k : Int) j h = some (.inl v, h) ∧ TC h M v (bTk d.2.2 j) false := by
  obtain ⟨w, ps, b⟩ := d
  have zk := z k hk
  rw [hd] at zk
  obtain ⟨q1, q2, q3, q4, q5, q6, q7⟩ := zk
  unfold F_Na_bodyAt F_Na_bodyAt_28 bTk
  by_cases c : j < 0
  · rw [if_pos c, if_pos c]
    exact ⟨0, rfl, TC.none' hM⟩
  · rw [if_neg c, if_neg c, gd_b (by omega) (by omega), Int.toNat_natCast, q4]
    by_cases c2 : b.length ≤ j.toNat
    · rw [if_pos (by omega), List.getElem?_eq_none c2]
      exact ⟨0, rfl, TC.none' hM⟩
    · rw [if_neg (by omega), gd_rg (by omega) (by omega), gd_rg (by omega) (by omega), gd_b (by omega) (by omega), show ((k : Int) * 12 + j).toNat = 12 * k + j.toNat by omega]
      refine ⟨_, rfl, ?_⟩
      show TC h M _ (match b[j.toNat]? with | some (k, x) => (k, x, noH) | none => nTk) false
      rw [List.getElem?_eq_getElem (show j.toNat < b.length by omega)]
      exact q5.get (List.getElem?_eq_getElem (show j.toNat < b.length by omega))
end Cnm
