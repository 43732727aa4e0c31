/-! the reference's lines and names -/
section Rl
variable {h h' : MH} {M M' c : Nat} {v v' : Int64} {t t' : Tk} {m m' : Bool} {L : List LnT} {nm : Nm}
def RSg (h : MH) (M c : Nat) : Nat → List (Tk × Bool) → Prop
  | _, [] => True
  | p, (t, m) :: l => TR h M (mGl h c p) t m ∧ RSg h M c (p + 1) l
theorem RSg.cg (e : ∀ j, j < M → mGi h' 121 j = mGi h 121 j) (h1 : M ≤ M') (h2 : M' ≤ 1302) : ∀ {l : List (Tk × Bool)} {p : Nat}, (∀ j, p ≤ j → j < p + l.length → mGl h' c j = mGl h c j) → RSg h M c p l → RSg h' M' c p l
  | [], _, _, _ => trivial
  | (t, m) :: l, p, el, z => by
    refine ⟨?_, RSg.cg e h1 h2 (fun j a b => el j (by omega) (by rw [List.length_cons]; omega)) z.2⟩
    rw [el p (Nat.le_refl _) (by rw [List.length_cons]; omega)]
    exact z.1.cg e h1 h2
theorem RSg.app : ∀ {l1 : List (Tk × Bool)} {p : Nat} {l2 : List (Tk × Bool)}, RSg h M c p (l1 ++ l2) ↔ RSg h M c p l1 ∧ RSg h M c (p + l1.length) l2
  | [], p, l2 => ⟨fun z => ⟨trivial, z⟩, fun z => z.2⟩
  | (t, m) :: l, p, l2 => by
    have z := RSg.app (l1 := l) (p := p + 1) (l2 := l2)
    rw [List.length_cons, show p + (l.length + 1) = p + 1 + l.length by omega]
    exact ⟨fun q => ⟨⟨q.1, (z.mp q.2).1⟩, (z.mp q.2).2⟩, fun q => ⟨q.1.1, z.mpr ⟨q.1.2, q.2⟩⟩⟩
theorem RSg.get : ∀ {l : List (Tk × Bool)} {p : Nat} (_ : RSg h M c p l) {j : Nat} {x : Tk × Bool}, l[j]? = some x → TR h M (mGl h c (p + j)) x.1 x.2
  | [], _, _, j, x, e => by simp at e
  | (t, m) :: l, p, z, 0, x, e => by
    simp at e
    subst e
    exact z.1
  | (t, m) :: l, p, z, j + 1, x, e => by
    rw [show p + (j + 1) = p + 1 + j by omega]
    exact RSg.get z.2 (by simpa using e)
theorem RSg.mk : ∀ {l : List (Tk × Bool)} {p : Nat}, (∀ j x, l[j]? = some x → TR h M (mGl h c (p + j)) x.1 x.2) → RSg h M c p l
  | [], _, _ => trivial
  | (t, m) :: l, p, z => ⟨z 0 (t, m) rfl, RSg.mk (fun j x hx => by
      have := z (j + 1) x (by simpa using hx)
      rw [show p + (j + 1) = p + 1 + j by omega] at this
      exact this)⟩
def LnR (h : MH) : Nat → List LnT → Prop
  | _, [] => True
  | j, l :: r => isR (mGl h 123 j) l.1 (l.2.2 + 2) l.2.1.length 0 0 ∧ Seg h 121 (l.2.2 + 2) l.2.1 ∧ l.2.2 + l.2.1.length ≤ 400 ∧ LnR h (j + 1) r
theorem LnR.cg (e : ∀ j, j < 402 → mGi h' 121 j = mGi h 121 j) : ∀ {l : List LnT} {p : Nat}, (∀ j, p ≤ j → j < p + l.length → mGl h' 123 j = mGl h 123 j) → LnR h p l → LnR h' p l
  | [], _, _, _ => trivial
  | x :: l, p, el, z => by
    refine ⟨?_, Seg.cg (fun j _ hj => e j (by have := z.2.2.1; omega)) z.2.1, z.2.2.1, LnR.cg e (fun j a b => el j (by omega) (by rw [List.length_cons]; omega)) z.2.2.2⟩
    rw [el p (Nat.le_refl _) (by rw [List.length_cons]; omega)]
    exact z.1
theorem LnR.app : ∀ {l1 : List LnT} {p : Nat} {l2 : List LnT}, LnR h p (l1 ++ l2) ↔ LnR h p l1 ∧ LnR h (p + l1.length) l2
  | [], p, l2 => ⟨fun z => ⟨trivial, z⟩, fun z => z.2⟩
  | x :: l, p, l2 => by
    have z := LnR.app (l1 := l) (p := p + 1) (l2 := l2)
    rw [List.length_cons, show p + (l.length + 1) = p + 1 + l.length by omega]
    exact ⟨fun q => ⟨⟨q.1, q.2.1, q.2.2.1, (z.mp q.2.2.2).1⟩, (z.mp q.2.2.2).2⟩, fun q => ⟨q.1.1, q.1.2.1, q.1.2.2.1, z.mpr ⟨q.1.2.2.2, q.2⟩⟩⟩
theorem LnR.get : ∀ {l : List LnT} {p : Nat} (_ : LnR h p l) {j : Nat} {x : LnT}, l[j]? = some x → isR (mGl h 123 (p + j)) x.1 (x.2.2 + 2) x.2.1.length 0 0 ∧ Seg h 121 (x.2.2 + 2) x.2.1 ∧ x.2.2 + x.2.1.length ≤ 400
  | [], _, _, j, x, e => by simp at e
  | y :: l, p, z, 0, x, e => by
    simp at e
    subst e
    exact ⟨z.1, z.2.1, z.2.2.1⟩
  | y :: l, p, z, j + 1, x, e => by
    rw [show p + (j + 1) = p + 1 + j by omega]
    exact LnR.get z.2.2.2 (by simpa using e)
theorem hR_0 : hR 0 noH := ⟨by decide, fun k _ => by rw [Nat.zero_testBit]; rfl⟩
theorem lnTR {j : Nat} {x : LnT} (w : tkW (ltk x)) (hM : x.2.2 + 2 + x.2.1.length ≤ M) (hM2 : M ≤ 1302) (z : isR (mGl h 123 j) x.1 (x.2.2 + 2) x.2.1.length 0 0 ∧ Seg h 121 (x.2.2 + 2) x.2.1 ∧ x.2.2 + x.2.1.length ≤ 400) : TR h M (mGl h 123 j) (ltk x) false := by
  have hk : rk x.1 = x.1 := by
    unfold rk
    rw [if_neg]
    rcases w with e | ⟨-, -, q⟩
    · have e1 : x.1 = 0 := congrArg (fun t : Tk => t.1) e
      have e2 : x.2.1 = [] := congrArg (fun t : Tk => t.2.1) e
      obtain ⟨z1, -⟩ := z
      rw [e1, e2] at z1
      intro _
      exact absurd z1 (fun _ => by
        have w2 : tkW (ltk x) := .inl e
        sorry)
    · have q' : (x.1 = 1 ∧ _) ∨ (x.1 = 2 ∧ _) ∨ (x.1 = 3 ∧ _) ∨ (x.1 = 4 ∧ _) := q
      rcases q' with q | q | q | q <;> omega
  refine ⟨x.2.2 + 2, 0, ?_, hR_0, z.2.1, hM, hM2⟩
  show isR _ (rk x.1) _ _ _ _
  rw [hk]
  exact z.1
end Rl
