/-! the reference's lines and names -/
section Rl
variable {h h' : MH} {M M' c : Nat} {v v' : Int64} {t t' : Tk} {m m' : Bool} {L : List LnT} {nm : Nm}
def RSg (h : MH) (M c : Nat) : Nat → List (Tk × Bool) → Prop
  | _, [] => True
  | p, (t, m) :: l => TR h M (mGl h c p) t m ∧ RSg h M c (p + 1) l
theorem RSg.cg (e : ∀ j, j < M → mGi h' 121 j = mGi h 121 j) (h1 : M ≤ M') (h2 : M' ≤ 1302) : ∀ {l : List (Tk × Bool)} {p : Nat}, (∀ j, p ≤ j → j < p + l.length → mGl h' c j = mGl h c j) → RSg h M c p l → RSg h' M' c p l
  | [], _, _, _ => trivial
  | (t, m) :: l, p, el, z => by
    refine ⟨?_, RSg.cg e h1 h2 (fun j a b => el j (by omega) (by rw [List.length_cons]; omega)) z.2⟩
    rw [el p (Nat.le_refl _) (by rw [List.length_cons]; omega)]
    exact z.1.cg e h1 h2
theorem RSg.app : ∀ {l1 : List (Tk × Bool)} {p : Nat} {l2 : List (Tk × Bool)}, RSg h M c p (l1 ++ l2) ↔ RSg h M c p l1 ∧ RSg h M c (p + l1.length) l2
  | [], p, l2 => ⟨fun z => ⟨trivial, z⟩, fun z => z.2⟩
  | (t, m) :: l, p, l2 => by
    have z := RSg.app (l1 := l) (p := p + 1) (l2 := l2)
    rw [List.length_cons, show p + (l.length + 1) = p + 1 + l.length by omega]
    exact ⟨fun q => ⟨⟨q.1, (z.mp q.2).1⟩, (z.mp q.2).2⟩, fun q => ⟨q.1.1, z.mpr ⟨q.1.2, q.2⟩⟩⟩
theorem RSg.get : ∀ {l : List (Tk × Bool)} {p : Nat} (_ : RSg h M c p l) {j : Nat} {x : Tk × Bool}, l[j]? = some x → TR h M (mGl h c (p + j)) x.1 x.2
  | [], _, _, j, x, e => by simp at e
  | (t, m) :: l, p, z, 0, x, e => by
    simp at e
    subst e
    exact z.1
  | (t, m) :: l, p, z, j + 1, x, e => by
    rw [show p + (j + 1) = p + 1 + j by omega]
    exact RSg.get z.2 (by simpa using e)
theorem RSg.mk : ∀ {l : List (Tk × Bool)} {p : Nat}, (∀ j x, l[j]? = some x → TR h M (mGl h c (p + j)) x.1 x.2) → RSg h M c p l
  | [], _, _ => trivial
  | (t, m) :: l, p, z => ⟨z 0 (t, m) rfl, RSg.mk (fun j x hx => by
      have := z (j + 1) x (by simpa using hx)
      rw [show p + (j + 1) = p + 1 + j by omega] at this
      exact this)⟩
def LnR (h : MH) : Nat → List LnT → Prop
  | _, [] => True
  | j, l :: r => isR (mGl h 123 j) l.1 (l.2.2 + 2) l.2.1.length 0 0 ∧ Seg h 121 (l.2.2 + 2) l.2.1 ∧ l.2.2 + l.2.1.length ≤ 400 ∧ LnR h (j + 1) r
theorem LnR.cg (e : ∀ j, j < 402 → mGi h' 121 j = mGi h 121 j) : ∀ {l : List LnT} {p : Nat}, (∀ j, p ≤ j → j < p + l.length → mGl h' 123 j = mGl h 123 j) → LnR h p l → LnR h' p l
  | [], _, _, _ => trivial
  | x :: l, p, el, z => by
    refine ⟨?_, Seg.cg (fun j _ hj => e j (by have := z.2.2.1; omega)) z.2.1, z.2.2.1, LnR.cg e (fun j a b => el j (by omega) (by rw [List.length_cons]; omega)) z.2.2.2⟩
    rw [el p (Nat.le_refl _) (by rw [List.length_cons]; omega)]
    exact z.1
theorem LnR.app : ∀ {l1 : List LnT} {p : Nat} {l2 : List LnT}, LnR h p (l1 ++ l2) ↔ LnR h p l1 ∧ LnR h (p + l1.length) l2
  | [], p, l2 => ⟨fun z => ⟨trivial, z⟩, fun z => z.2⟩
  | x :: l, p, l2 => by
    have z := LnR.app (l1 := l) (p := p + 1) (l2 := l2)
    rw [List.length_cons, show p + (l.length + 1) = p + 1 + l.length by omega]
    exact ⟨fun q => ⟨⟨q.1, q.2.1, q.2.2.1, (z.mp q.2.2.2).1⟩, (z.mp q.2.2.2).2⟩, fun q => ⟨q.1.1, q.1.2.1, q.1.2.2.1, z.mpr ⟨q.1.2.2.2, q.2⟩⟩⟩
theorem LnR.get : ∀ {l : List LnT} {p : Nat} (_ : LnR h p l) {j : Nat} {x : LnT}, l[j]? = some x → isR (mGl h 123 (p + j)) x.1 (x.2.2 + 2) x.2.1.length 0 0 ∧ Seg h 121 (x.2.2 + 2) x.2.1 ∧ x.2.2 + x.2.1.length ≤ 400
  | [], _, _, j, x, e => by simp at e
  | y :: l, p, z, 0, x, e => by
    simp at e
    subst e
    exact ⟨z.1, z.2.1, z.2.2.1⟩
  | y :: l, p, z, j + 1, x, e => by
    rw [show p + (j + 1) = p + 1 + j by omega]
    exact LnR.get z.2.2.2 (by simpa using e)
theorem hR_0 : hR 0 noH := ⟨by decide, fun k _ => by rw [Nat.zero_testBit]; rfl⟩
def lnV (l : LnT) : Prop := tkW (ltk l) ∧ l.2.1 ≠ []
theorem lnV.k {x : LnT} (w : lnV x) : x.1 ≠ 0 ∧ rk x.1 = x.1 := by
  have h0 : x.1 ≠ 0 := by
    rcases w.1 with e | ⟨-, -, q⟩
    · exact absurd (congrArg (fun t : Tk => t.2.1) e) w.2
    · have q' : (x.1 = 1 ∧ _) ∨ (x.1 = 2 ∧ _) ∨ (x.1 = 3 ∧ _) ∨ (x.1 = 4 ∧ _) := q
      rcases q' with q | q | q | q <;> omega
  exact ⟨h0, by unfold rk; rw [if_neg h0]⟩
theorem lnTR {j : Nat} {x : LnT} (w : lnV x) (hM : x.2.2 + 2 + x.2.1.length ≤ M) (hM2 : M ≤ 1302) (z : isR (mGl h 123 j) x.1 (x.2.2 + 2) x.2.1.length 0 0 ∧ Seg h 121 (x.2.2 + 2) x.2.1 ∧ x.2.2 + x.2.1.length ≤ 400) : TR h M (mGl h 123 j) (ltk x) false := by
  refine ⟨x.2.2 + 2, 0, ?_, hR_0, z.2.1, hM, hM2⟩
  show isR _ (rk x.1) _ _ _ _
  rw [w.k.2]
  exact z.1
theorem cutL_V : ∀ (f : Nat) (p : Nat) (x : List Int), (∀ c ∈ x, lgl c) → ∀ l ∈ cutL f p x, lnV l ∧ l.2.2 + l.2.1.length ≤ p + x.length
  | 0, _, _, _, l, hl => absurd hl List.not_mem_nil
  | f + 1, p, [], _, l, hl => absurd hl List.not_mem_nil
  | f + 1, p, c :: t, ok, l, hl => by
    rw [cutL] at hl
    by_cases d : c = 32
    · rw [if_pos d] at hl
      have := cutL_V f _ t (fun y hy => ok y (List.mem_cons_of_mem _ hy)) l hl
      rw [List.length_cons]
      exact ⟨this.1, by omega⟩
    · rw [if_neg d] at hl
      obtain ⟨k1, k2⟩ := scn_len (l := c :: t) (by simp)
      rcases List.mem_cons.mp hl with q | q
      · rw [q]
        have hlen : ((c :: t).take (scn (c :: t)).2).length = (scn (c :: t)).2 := by rw [List.length_take]; omega
        refine ⟨⟨scn_W (by simp) ok, fun e => ?_⟩, ?_⟩
        · have e' : (c :: t).take (scn (c :: t)).2 = [] := e
          rw [e'] at hlen
          have : (0 : Nat) = (scn (c :: t)).2 := hlen
          omega
        · show p + ((c :: t).take (scn (c :: t)).2).length ≤ p + (c :: t).length
          omega
      · have := cutL_V f _ _ (fun y hy => ok y (List.mem_of_mem_drop hy)) l q
        rw [List.length_drop] at this
        exact ⟨this.1, by omega⟩
/-- a line; E is where the text ends -/
def LnS (h : MH) (E : Nat) (L : List LnT) : Prop := mGi h 107 29 = (L.length : Int) ∧ L.length ≤ 400 ∧ LnR h 0 L ∧ (∀ l ∈ L, lnV l ∧ l.2.2 + l.2.1.length ≤ E) ∧ E ≤ 400
theorem LnS.tc {p E : Nat} {x : LnT} (z : LnS h E L) (hM : E + 2 ≤ M) (hM2 : M ≤ 1302) (e : L[p]? = some x) : TR h M (mGl h 123 p) (ltk x) false := by
  have q := z.2.2.1.get e
  rw [Nat.zero_add] at q
  have w := z.2.2.2.1 x (List.mem_of_getElem? e)
  exact lnTR w.1 (by omega) hM2 q
theorem ls_sign {p E : Nat} {c : Int} (z : LnS h E L) : F_M_isSignAt (p : Int) c h = some (.inl (bI (sgAt L p c)), h) := by
  have hl := z.2.1
  have hE := z.2.2.2.2
  unfold F_M_isSignAt F_M_isSignAt_26 sgAt
  rw [z.1]
  by_cases q : L.length ≤ p
  · rw [if_pos (by omega), List.getElem?_eq_none q]; rfl
  · have e := List.getElem?_eq_getElem (l := L) (i := p) (by omega)
    rw [if_neg (by omega), gd_b (by omega) (by omega), Int.toNat_natCast, e, m_sign2 (z.tc (M := 402) (by omega) (by decide) e), bnd_l]
    dsimp only
    cases isSg (ltk L[p]) c <;> rfl
theorem ls_kind {p E : Nat} (z : LnS h E L) : ∃ k : Int, F_M_kindAt (p : Int) h = some (.inl k, h) ∧ (k = 1 ↔ wdAt L p = true) := by
  have hl := z.2.1
  have hE := z.2.2.2.2
  unfold F_M_kindAt wdAt
  rw [z.1]
  by_cases q : L.length ≤ p
  · rw [if_pos (by omega), List.getElem?_eq_none q]
    exact ⟨0, rfl, by decide⟩
  · have e := List.getElem?_eq_getElem (l := L) (i := p) (by omega)
    rw [if_neg (by omega), gd_b (by omega) (by omega), Int.toNat_natCast, e, mk_e (z.tc (M := 402) (by omega) (by decide) e), bnd_l]
    refine ⟨_, rfl, ?_⟩
    have hk := (z.2.2.2.1 _ (List.mem_of_getElem? e)).1.k.2
    have hk' : rk (ltk L[p]).1 = L[p].1 := hk
    rw [hk', decide_eq_true_eq]
    omega
/-! cutting a line -/
def pTl (b i : Nat) : Prop := b = 107 ∧ (i = 29 ∨ i = 30 ∨ i = 31)
def qTl (b _i : Nat) : Prop := b = 123
noncomputable def tlL (f : Nat) (v2 v3 : Int) (h : MH) : RS Unit := itr (fun self (q : Int × Int × MH) => F_M_takeLine_7_b (fun v2 v3 h => self (v2, v3, h)) q.1 q.2.1 q.2.2) f (v2, v3, h)
theorem tlL_s {f : Nat} {v2 v3 : Int} : tlL (f + 1) v2 v3 h = F_M_takeLine_7_b (tlL f) v2 v3 h := rfl
theorem tl_l {e : Nat} (he : e ≤ 400) : ∀ (N : Nat) (x : List Int) (f F p : Nat) (h : MH) (acc : List LnT), x.length ≤ N → N < f → x.length < F → p + x.length = e → acc.length ≤ p → Seg h 121 (p + 2) x → (∀ c ∈ x, lgl c) → mGi h 107 29 = (acc.length : Int) → LnR h 0 acc → (∀ l ∈ acc, lnV l ∧ l.2.2 + l.2.1.length ≤ e) →
    ∃ h', tlL f ((e + 2 : Nat) : Int) ((p + 2 : Nat) : Int) h = some (.inl (), h') ∧ FW pTl qTl h h' ∧ LnS h' e (acc ++ cutL F p x) := by
  intro N
  induction N with
  | zero =>
    intro x f F p h acc hN hf hF hp ha z ok e6 lc lw
    obtain ⟨f, rfl⟩ : ∃ g, f = g + 1 := ⟨f - 1, by omega⟩
    obtain ⟨F, rfl⟩ : ∃ g, F = g + 1 := ⟨F - 1, by omega⟩
    have : x = [] := List.eq_nil_of_length_eq_zero (by omega)
    subst this
    rw [List.length_nil] at hp
    refine ⟨h, ?_, FW.rf, ?_⟩
    · rw [tlL_s, F_M_takeLine_7_b, if_pos (by omega)]
    · rw [cutL, List.append_nil]
      exact ⟨e6, by omega, lc, lw, he⟩
  | succ N ih =>
    intro x f F p h acc hN hf hF hp ha z ok e6 lc lw
    obtain ⟨f, rfl⟩ : ∃ g, f = g + 1 := ⟨f - 1, by omega⟩
    obtain ⟨F, rfl⟩ : ∃ g, F = g + 1 := ⟨F - 1, by omega⟩
    cases x with
    | nil =>
      rw [List.length_nil] at hp
      refine ⟨h, ?_, FW.rf, ?_⟩
      · rw [tlL_s, F_M_takeLine_7_b, if_pos (by omega)]
      · rw [cutL, List.append_nil]
        exact ⟨e6, by omega, lc, lw, he⟩
    | cons c t =>
      rw [List.length_cons] at hN hF hp
      obtain ⟨h1, e1, f1, k1, k2⟩ := m_look (h := h) (p := p + 2) (l := c :: t) (by simp) (by rw [List.length_cons]; omega) z
      rw [List.length_cons, show p + 2 + (t.length + 1) = e + 2 by omega] at e1
      have e29 : mGi h1 107 29 = (acc.length : Int) := (f1.2.2.1 107 29 (by unfold pLk; omega)).trans e6
      have e121 : ∀ j, mGi h1 121 j = mGi h 121 j := fun j => f1.2.2.1 121 j (by unfold pLk; omega)
      have f1' : FW pTl qTl h h1 := f1.sub (fun b i q => by unfold pLk at q; unfold pTl; omega) (fun b i q => q.elim)
      rw [tlL_s, F_M_takeLine_7_b, if_neg (by omega), gd_b (by omega) (by omega), Int.toNat_natCast, z.1, cutL]
      unfold F_M_takeLine_28 F_M_takeLine_63 F_M_takeLine_78 F_M_takeLine_96
      by_cases c32 : c = 32
      · rw [if_pos c32, if_pos c32, e1, bnd_l, if_neg (by decide), if_neg (by decide), e29, gd_rg (by omega) (by omega)]
        simp only [sto_e]
        rw [if_neg (by decide), gd_rg (by omega) (by omega), Int.add_zero, show ((p + 2 : Nat) : Int) + 1 = ((p + 1 + 2 : Nat) : Int) by omega]
        have f2 : FW pTl qTl h (mPi h1 107 29 (acc.length : Int)) := FW.pi f1' (by unfold pTl; omega)
        have e2 : ∀ j, mGi (mPi h1 107 29 (acc.length : Int)) 121 j = mGi h 121 j := fun j => f2.2.2.1 121 j (by unfold pTl; omega)
        obtain ⟨h3, a1, a2, a3⟩ := ih t f F (p + 1) (mPi h1 107 29 (acc.length : Int)) acc (by omega) (by omega) (by omega) (by omega) (by omega) (Seg.cg (h := h) (fun j _ _ => e2 j) (by rw [show p + 1 + 2 = p + 2 + 1 by omega]; exact z.2)) (fun y hy => ok y (List.mem_cons_of_mem _ hy)) gi_s (LnR.cg (h := h) (fun j _ => e2 j) (fun j _ _ => f1.2.2.2 123 j id) lc) lw
        exact ⟨h3, a1, f2.tr a2, a3⟩
      · obtain ⟨s1, s2⟩ := scn_len (l := c :: t) (by simp)
        rw [List.length_cons] at s2
        have hV : lnV ((scn (c :: t)).1, (c :: t).take (scn (c :: t)).2, p) ∧ p + ((c :: t).take (scn (c :: t)).2).length ≤ e := by
          have q := cutL_V 1 p (c :: t) ok ((scn (c :: t)).1, (c :: t).take (scn (c :: t)).2, p) (by rw [cutL, if_neg c32]; exact List.mem_cons_self)
          rw [List.length_cons] at q
          exact ⟨q.1, by have : p + ((c :: t).take (scn (c :: t)).2).length ≤ _ := q.2; omega⟩
        have hk4 := hV.1.1.k
        have hk4' : (scn (c :: t)).1 < 5 := hk4
        have hlen : ((c :: t).take (scn (c :: t)).2).length = (scn (c :: t)).2 := by rw [List.length_take, List.length_cons]; omega
        rw [if_neg c32, if_neg c32, e1, bnd_l, if_pos rfl]
        unfold F_M_token
        rw [bnd_l, k1, k2, e29, gd_b (by omega) (by omega), Int.toNat_natCast]
        simp only [sto_e]
        have hv := isR.mk (k := (scn (c :: t)).1) (s := p + 2) (n := (scn (c :: t)).2) (g := 0) (by omega) (by omega) (by omega) (by decide)
        generalize hvv : (((((Int32.ofInt ((p + 2 : Nat) : Int)).toInt64) ||| (((Int32.ofInt ((scn (c :: t)).2 : Int)).toInt64) <<< ((Int32.ofInt (12 : Int)).toInt64 &&& 63))) ||| (((Int32.ofInt ((scn (c :: t)).1 : Int)).toInt64) <<< ((Int32.ofInt (24 : Int)).toInt64 &&& 63))) ||| (((Int32.ofInt (0 : Int)).toInt64) <<< ((Int32.ofInt (28 : Int)).toInt64 &&& 63))) = w
        have hw : isR w (scn (c :: t)).1 (p + 2) (scn (c :: t)).2 0 0 := by rw [← hvv]; exact hv
        have g29 : mGi (mPl h1 123 acc.length w) 107 29 = (acc.length : Int) := by rw [gi_pl, e29]
        rw [if_pos trivial, g29, gd_rg (by omega) (by omega), if_pos trivial, gi_pi, if_neg (show ¬ ((107 : Nat) = 107 ∧ (31 : Nat) = 29) by omega), gi_pl, k2, gd_rg (by omega) (by omega), show ((p + 2 : Nat) : Int) + ((scn (c :: t)).2 : Int) = ((p + (scn (c :: t)).2 + 2 : Nat) : Int) by omega]
        have f2 : FW pTl qTl h (mPi (mPl h1 123 acc.length w) 107 29 ((acc.length : Int) + 1)) := FW.pi (FW.pl f1' rfl) (by unfold pTl; omega)
        have e2 : ∀ j, mGi (mPi (mPl h1 123 acc.length w) 107 29 ((acc.length : Int) + 1)) 121 j = mGi h 121 j := fun j => f2.2.2.1 121 j (by unfold pTl; omega)
        have hd := z.drop (scn (c :: t)).2 (by rw [List.length_cons]; omega)
        have htk := z.take (scn (c :: t)).2
        obtain ⟨h3, a1, a2, a3⟩ := ih ((c :: t).drop (scn (c :: t)).2) f F (p + (scn (c :: t)).2) (mPi (mPl h1 123 acc.length w) 107 29 ((acc.length : Int) + 1)) (acc ++ [((scn (c :: t)).1, (c :: t).take (scn (c :: t)).2, p)]) (by rw [List.length_drop, List.length_cons]; omega) (by omega) (by rw [List.length_drop, List.length_cons]; omega) (by rw [List.length_drop, List.length_cons]; omega) (by rw [List.length_append, List.length_singleton]; omega) (Seg.cg (h := h) (fun j _ _ => e2 j) (by rw [show p + (scn (c :: t)).2 + 2 = p + 2 + (scn (c :: t)).2 by omega]; exact hd)) (fun y hy => ok y (List.mem_of_mem_drop hy)) (by rw [gi_s, List.length_append, List.length_singleton]; omega) (by
          rw [LnR.app]
          refine ⟨LnR.cg (h := h) (fun j _ => e2 j) (fun j _ hj => by rw [gl_pi, gl_pl, if_neg (by omega)]; exact f1.2.2.2 123 j id) lc, ?_, Seg.cg (h := h) (fun j _ _ => e2 j) htk, by show p + ((c :: t).take (scn (c :: t)).2).length ≤ 400; omega, trivial⟩
          rw [Nat.zero_add, gl_pi, gl_pl, if_pos ⟨rfl, rfl⟩]
          show isR w _ (p + 2) ((c :: t).take (scn (c :: t)).2).length 0 0
          rw [hlen]
          exact hw) (fun l hl => by
            rcases List.mem_append.mp hl with q | q
            · exact lw l q
            · rw [List.mem_singleton.mp q]; exact hV)
        refine ⟨h3, a1, f2.tr a2, ?_⟩
        rw [List.append_assoc] at a3
        exact a3
theorem m_cut {p : Nat} {x : List Int} (hp : p + x.length ≤ 400) (z : Seg h 121 (p + 2) x) (ok : ∀ c ∈ x, lgl c) : ∃ h', F_M_takeLine ((p + 2 : Nat) : Int) ((p + x.length + 2 : Nat) : Int) h = some (.inl (), h') ∧ FW pTl qTl h h' ∧ LnS h' (p + x.length) (cutL (x.length + 1) p x) := by
  have f1 : FW pTl qTl h (mPi h 107 29 0) := FW.pi FW.rf (by unfold pTl; omega)
  obtain ⟨h2, a1, a2, a3⟩ := tl_l hp x.length x FU (x.length + 1) p (mPi h 107 29 0) [] (Nat.le_refl _) (by unfold FU; omega) (by omega) rfl (Nat.zero_le _) (Seg.cg (h := h) (fun j _ _ => f1.2.2.1 121 j (by unfold pTl; omega)) z) ok gi_s trivial (fun l hl => absurd hl List.not_mem_nil)
  exact ⟨h2, a1, f1.tr a2, a3⟩
/-! names -/
def BoR (h : MH) (M : Nat) (ps : List (List Int)) : Nat → List (Nat × List Int) → Prop
  | _, [] => True
  | p, (k, x) :: l => TR h M (mGl h 125 p) (k, x, noH) false ∧ mGi h 129 p = oI (pix ps x) ∧ BoR h M ps (p + 1) l
def NmKR (h : MH) (M i : Nat) : Option NmD → Prop
  | none => mGi h 130 i = 0
  | some (w, ps, b) => mGi h 130 i = 1 ∧ TR h M (mGl h 124 i) (1, w, noH) false ∧ mGi h 131 i = bI ps.isSome ∧ mGi h 127 i = ((ps.getD []).length : Int) ∧ mGi h 128 i = (b.length : Int) ∧ BoR h M (ps.getD []) (12 * i) b ∧ b.length ≤ 12
def NmR (h : MH) (M : Nat) (nm : Nm) : Prop := ∀ k, k < 8 → NmKR h M (7 - k) (nm k)
theorem BoR.cg {ps : List (List Int)} (e : ∀ j, j < M → mGi h' 121 j = mGi h 121 j) (h1 : M ≤ M') (h2 : M' ≤ 1302) : ∀ {l : List (Nat × List Int)} {p : Nat}, (∀ j, p ≤ j → j < p + l.length → mGl h' 125 j = mGl h 125 j ∧ mGi h' 129 j = mGi h 129 j) → BoR h M ps p l → BoR h' M' ps p l
  | [], _, _, _ => trivial
  | (k, x) :: l, p, el, z => by
    have q := el p (Nat.le_refl _) (by rw [List.length_cons]; omega)
    refine ⟨?_, q.2.trans z.2.1, BoR.cg e h1 h2 (fun j a b => el j (by omega) (by rw [List.length_cons]; omega)) z.2.2⟩
    rw [q.1]
    exact z.1.cg e h1 h2
theorem BoR.get {ps : List (List Int)} : ∀ {l : List (Nat × List Int)} {p : Nat} (_ : BoR h M ps p l) {j k : Nat} {x : List Int}, l[j]? = some (k, x) → TR h M (mGl h 125 (p + j)) (k, x, noH) false ∧ mGi h 129 (p + j) = oI (pix ps x)
  | [], _, _, j, k, x, e => by simp at e
  | (k', x') :: l, p, z, 0, k, x, e => by
    simp at e
    obtain ⟨rfl, rfl⟩ := e
    exact ⟨z.1, z.2.1⟩
  | (k', x') :: l, p, z, j + 1, k, x, e => by
    rw [show p + (j + 1) = p + 1 + j by omega]
    exact BoR.get z.2.2 (by simpa using e)
theorem NmKR.cg {i : Nat} {o : Option NmD} (z : NmKR h M i o) (e : ∀ j, j < M → mGi h' 121 j = mGi h 121 j) (h1 : M ≤ M') (h2 : M' ≤ 1302) (ei : ∀ b, b = 127 ∨ b = 128 ∨ b = 130 ∨ b = 131 → mGi h' b i = mGi h b i) (e9 : ∀ j, 12 * i ≤ j → j < 12 * i + 12 → mGi h' 129 j = mGi h 129 j ∧ mGl h' 125 j = mGl h 125 j) (el : mGl h' 124 i = mGl h 124 i) : NmKR h' M' i o := by
  cases o with
  | none => exact (ei 130 (by omega)).trans z
  | some d =>
    obtain ⟨w, ps, b⟩ := d
    obtain ⟨q1, q2, q3, q4, q5, q6, q7⟩ := z
    refine ⟨(ei 130 (by omega)).trans q1, ?_, (ei 131 (by omega)).trans q3, (ei 127 (by omega)).trans q4, (ei 128 (by omega)).trans q5, BoR.cg e h1 h2 (fun j a c => ⟨(e9 j (by omega) (by omega)).2, (e9 j (by omega) (by omega)).1⟩) q6, q7⟩
    rw [el]
    exact q2.cg e h1 h2
theorem NmR.cg (z : NmR h M nm) (e : ∀ j, j < M → mGi h' 121 j = mGi h 121 j) (h1 : M ≤ M') (h2 : M' ≤ 1302) (ei : ∀ b j, b = 127 ∨ b = 128 ∨ b = 129 ∨ b = 130 ∨ b = 131 → mGi h' b j = mGi h b j) (el : ∀ b j, b = 124 ∨ b = 125 → mGl h' b j = mGl h b j) : NmR h' M' nm := fun k hk => (z k hk).cg e h1 h2 (fun b hb => ei b _ (by omega)) (fun j _ _ => ⟨ei 129 j (by omega), el 125 j (by omega)⟩) (el 124 _ (by omega))
def oJ (o : Option Nat) : Int := match o with
  | none => -1
  | some k => ((7 - k : Nat) : Int)
noncomputable def nmL (f : Nat) (v1 : Int64) (v3 v4 : Int) (h : MH) : RS Int := itr (fun self (q : Int64 × Int × Int × MH) => F_M_nameOf_5_b (fun v1 v3 v4 h => self (v1, v3, v4, h)) q.1 q.2.1 q.2.2.1 q.2.2.2) f (v1, v3, v4, h)
theorem nmL_s {f : Nat} {v1 : Int64} {v3 v4 : Int} : nmL (f + 1) v1 v3 v4 h = F_M_nameOf_5_b (nmL f) v1 v3 v4 h := rfl
def laI (d : Int) (o : Option Nat) : Int := match o with
  | none => d
  | some i => (i : Int)
theorem nm_l (z : NmR h M nm) (y : TR h M v t m) (k1 : t.1 = 1) : ∀ (q f j : Nat) (fd : Int), j + q = 8 → q < f → nmL f v fd (j : Int) h = some (.inl (laI fd ((List.range' j q).reverse.find? fun i => isNm nm t.2.1 (7 - i))), h) := by
  have hk : rk t.1 = 1 := by rw [k1]; rfl
  intro q
  induction q with
  | zero =>
    intro f j fd hj hf
    obtain ⟨f, rfl⟩ : ∃ g, f = g + 1 := ⟨f - 1, by omega⟩
    rw [nmL_s, F_M_nameOf_5_b, if_pos (by omega)]
    rfl
  | succ q ih =>
    intro f j fd hj hf
    obtain ⟨f, rfl⟩ : ∃ g, f = g + 1 := ⟨f - 1, by omega⟩
    have zk := z (7 - j) (by omega)
    rw [show 7 - (7 - j) = j by omega] at zk
    rw [nmL_s, F_M_nameOf_5_b, if_neg (by omega), mk_e y, bnd_l, hk, if_pos (by decide), gd_b (by omega) (by omega), Int.toNat_natCast, List.range'_succ, List.reverse_cons, List.find?_append]
    unfold F_M_nameOf_50 F_M_nameOf_51
    simp only [gd_t (show inR ((j : Int) + 1) from ⟨by omega, by omega⟩)]
    rw [show (j : Int) + 1 = ((j + 1 : Nat) : Int) by omega]
    have i1 := fun fd => ih f (j + 1) fd (by omega) (by omega)
    have fin : ∀ (b : Bool) (fd2 : Int), isNm nm t.2.1 (7 - j) = b → fd2 = (if b = true then (j : Int) else fd) → nmL f v fd2 ((j + 1 : Nat) : Int) h = some (.inl (laI fd (((List.range' (j + 1) q).reverse.find? fun i => isNm nm t.2.1 (7 - i)).or ([j].find? fun i => isNm nm t.2.1 (7 - i)))), h) := by
      intro b fd2 hb hfd
      rw [i1 fd2, hfd, List.find?_cons, hb]
      cases hq : (List.range' (j + 1) q).reverse.find? fun i => isNm nm t.2.1 (7 - i) with
      | some i => cases b <;> rfl
      | none => cases b <;> rfl
    cases hq : nm (7 - j) with
    | none =>
      rw [hq] at zk
      have e : isNm nm t.2.1 (7 - j) = false := by unfold isNm; rw [hq]
      have zk' : mGi h 130 j = 0 := zk
      rw [zk', if_pos rfl]
      exact fin false fd e rfl
    | some d =>
      obtain ⟨w, ps, b⟩ := d
      rw [hq] at zk
      have zk' : mGi h 130 j = 1 := zk.1
      have e : isNm nm t.2.1 (7 - j) = decide (w = t.2.1) := by unfold isNm; rw [hq]
      rw [zk', if_neg (by decide), m_same2 zk.2.1 y, bnd_l]
      by_cases c : w = t.2.1
      · rw [decide_eq_true c] at e
        rw [if_pos c, if_neg (by decide)]
        exact fin true _ e rfl
      · rw [decide_eq_false c] at e
        rw [if_neg c, if_pos rfl]
        exact fin false fd e rfl
theorem fnd_r {x : List Int} : laI (-1) ((List.range' 0 8).reverse.find? fun i => isNm nm x (7 - i)) = oJ (fnd nm x) := by
  unfold fnd
  generalize isNm nm x = p
  have e1 : (List.range' 0 8).reverse = [7, 6, 5, 4, 3, 2, 1, 0] := by decide
  have e2 : List.range 8 = [0, 1, 2, 3, 4, 5, 6, 7] := by decide
  rw [e1, e2]
  simp only [List.find?_cons, List.find?_nil, Nat.sub_self, Nat.sub_zero, Nat.reduceSub]
  cases p 0 <;> simp only [] <;> try rfl
  cases p 1 <;> simp only [] <;> try rfl
  cases p 2 <;> simp only [] <;> try rfl
  cases p 3 <;> simp only [] <;> try rfl
  cases p 4 <;> simp only [] <;> try rfl
  cases p 5 <;> simp only [] <;> try rfl
  cases p 6 <;> simp only [] <;> try rfl
  cases p 7 <;> simp only [] <;> try rfl
theorem m_nameOf (z : NmR h M nm) (y : TR h M v t m) : F_M_nameOf v h = some (.inl (oJ (if t.1 = 1 then fnd nm t.2.1 else none)), h) := by
  by_cases c : t.1 = 1
  · rw [if_pos c, ← fnd_r]
    exact nm_l z y c 8 FU 0 (-1) rfl (by unfold FU; omega)
  · have hk : ¬ ((rk t.1 : Nat) : Int) = 1 := fun q => c ((rk_i (k := t.1) (j := 1) (by decide) (by decide)).mp (by omega))
    rw [if_neg c]
    show nmL (99999999 + 1) v (-1) 0 h = _
    rw [nmL_s, F_M_nameOf_5_b, if_neg (by decide), mk_e y, bnd_l, if_neg hk]
    rfl
end Rl
