/-! the class's second mill: define -/
section Sm4
variable {B h h' h0 : MH} {k0 md md' rp rp' : Nat} {tx : List Int} {n : Int} {s : S2} {P Q : Nat → Nat → Prop} {L : List LnT} {nm : Nm} {lv : List (Bool × Bool × Bool)} {res : List Int} {M : Nat}
def CpR (h : MH) (x : RS Int) (o : Option Int) : Prop := (∀ m, o = some m → x = some (.inl m, h)) ∧ (o = none → x = some (.inr 13, mNew (mPi h 87 2 ((6 : Nat) : Int)) 13 6))
noncomputable def cpL (f : Nat) (v1 v2 v3 : Int) (h : MH) : RS Int := itr (fun self (q : Int × Int × Int × MH) => F_Sm_countParameters_12_b (fun v1 v2 v3 h => self (v1, v2, v3, h)) q.1 q.2.1 q.2.2.1 q.2.2.2) f (v1, v2, v3, h)
theorem cpL_s {f : Nat} {v1 v2 v3 : Int} : cpL (f + 1) v1 v2 v3 h = F_Sm_countParameters_12_b (cpL f) v1 v2 v3 h := rfl
noncomputable def ciL (G12 : Int → Int → Int → MH → RS Int) (f : Nat) (v2 v3 v4 : Int) (h : MH) : RS Int := itr (fun self (q : Int × Int × Int × MH) => F_Sm_countParameters_66_b G12 (fun v2 v3 v4 h => self (v2, v3, v4, h)) q.1 q.2.1 q.2.2.1 q.2.2.2) f (v2, v3, v4, h)
theorem ciL_s {G12 : Int → Int → Int → MH → RS Int} {f : Nat} {v2 v3 v4 : Int} : ciL G12 (f + 1) v2 v3 v4 h = F_Sm_countParameters_66_b G12 (ciL G12 f) v2 v3 v4 h := rfl
theorem rq6 (R : rmE h) (K : Unit → MH → RS Int) : bnd (F_Sm_require 0 h) K = some (.inr 13, mNew (mPi h 87 2 ((6 : Nat) : Int)) 13 6) := by
  unfold F_Sm_require
  rw [if_pos rfl]
  have := to_fail (h := h) (why := 6) R (fun (_ : Unit) h => (some (.inl (), h) : RS Unit))
  rw [show ((6 : Nat) : Int) = 6 from rfl] at this ⊢
  rw [this, bnd_r]
theorem rq0 (K : Unit → MH → RS Int) : bnd (F_Sm_require 1 h) K = K () h := by
  unfold F_Sm_require
  rw [if_neg (by decide), bnd_l]
theorem ci_l {G12 : Int → Int → Int → MH → RS Int} {c : Nat} {ps : List (List Int)} {x : LnT} (R : rmE h) (z : LnO h L) (hc : c ≤ 2) (hps : ps.length = c) (ex : L[4 + 2 * c]? = some x) (hL : ∀ i, i < c → ∃ l, L[4 + 2 * i]? = some l ∧ l.2.1 = ps.getD i []) :
    ∀ (q j f : Nat), j + q = c → q < f → ciL G12 f (c : Int) ((4 + 2 * c : Nat) : Int) ((4 + 2 * j : Nat) : Int) h = if x.2.1 ∈ ps.drop j then some (.inr 13, mNew (mPi h 87 2 ((6 : Nat) : Int)) 13 6) else G12 (bI (sgAt L (4 + 2 * c + 1) 41)) ((c : Int) + 1) ((4 + 2 * c + 2 : Nat) : Int) h := by
  have tx := z.tc (M := 402) (p := 4 + 2 * c) (Nat.le_refl _) (by decide) ex
  have hlx := (List.getElem?_eq_some_iff.mp ex).1
  have hl4 := z.2.1
  intro q
  induction q with
  | zero =>
    intro j f hj hf
    obtain ⟨f, rfl⟩ : ∃ g, f = g + 1 := ⟨f - 1, by omega⟩
    rw [ciL_s, F_Sm_countParameters_66_b, if_pos (by omega), gd_rg (by omega) (by omega), gd_rg (by omega) (by omega), show ((4 + 2 * c : Nat) : Int) + 1 = ((4 + 2 * c + 1 : Nat) : Int) by omega, ln_sign z, bnd_l, gd_rg (by omega) (by omega), show ((4 + 2 * c : Nat) : Int) + 2 = ((4 + 2 * c + 2 : Nat) : Int) by omega, List.drop_eq_nil_of_le (by omega), if_neg List.not_mem_nil]
  | succ q ih =>
    intro j f hj hf
    obtain ⟨f, rfl⟩ : ∃ g, f = g + 1 := ⟨f - 1, by omega⟩
    obtain ⟨l, e1, e2⟩ := hL j (by omega)
    have tl := z.tc (M := 402) (p := 4 + 2 * j) (Nat.le_refl _) (by decide) e1
    have hll := (List.getElem?_eq_some_iff.mp e1).1
    have hd : ps.drop j = ps.getD j [] :: ps.drop (j + 1) := by
      rw [List.drop_eq_getElem_cons (by omega), List.getD_eq_getElem?_getD, List.getElem?_eq_getElem (show j < ps.length by omega)]
      rfl
    rw [ciL_s, F_Sm_countParameters_66_b, if_neg (by omega), gd_b (by omega) (by omega), gd_b (by omega) (by omega), Int.toNat_natCast, Int.toNat_natCast, to_same tl tx, bnd_l, hd, ← e2]
    unfold F_Sm_countParameters_101
    have es : (ltk l).2.1 = l.2.1 := rfl
    have es2 : (ltk x).2.1 = x.2.1 := rfl
    rw [es, es2]
    by_cases d : l.2.1 = x.2.1
    · rw [if_pos d, if_neg (by decide), gd_01a, rq6 R, if_pos (by rw [d]; exact List.mem_cons_self)]
    · rw [if_neg d, if_pos rfl, gd_01b, rq0, gd_rg (by omega) (by omega), show ((4 + 2 * j : Nat) : Int) + 2 = ((4 + 2 * (j + 1) : Nat) : Int) by omega, ih (j + 1) f (by omega) (by omega)]
      have : (x.2.1 ∈ l.2.1 :: ps.drop (j + 1)) ↔ x.2.1 ∈ ps.drop (j + 1) := by
        rw [List.mem_cons]
        exact ⟨fun q => by rcases q with q | q; exact absurd q.symm d; exact q, fun q => .inr q⟩
      by_cases d2 : x.2.1 ∈ ps.drop (j + 1)
      · rw [if_pos d2, if_pos (this.mpr d2)]
      · rw [if_neg d2, if_neg (fun q => d2 (this.mp q))]
theorem cp_l (R : rmE h) (z : LnO h L) : ∀ (m c f : Nat) (ps : List (List Int)), m + c = 3 → m + 2 < f → ps.length = c → (∀ i, i < c → ∃ l, L[4 + 2 * i]? = some l ∧ l.2.1 = ps.getD i []) → CpR h (cpL f 0 (c : Int) ((4 + 2 * c : Nat) : Int) h) ((prm m ps (L.drop (4 + 2 * c))).map fun q => (q.1.length : Int)) := by
  have hl4 := z.2.1
  intro m
  induction m with
  | zero =>
    intro c f ps hm hf hps hL
    obtain ⟨f, rfl⟩ : ∃ g, f = g + 1 := ⟨f - 1, by omega⟩
    rw [cpL_s, F_Sm_countParameters_12_b, if_pos rfl, if_pos (by omega), prm]
    unfold F_Sm_countParameters_129
    rw [gd_01a, rq6 R]
    exact ⟨fun m e => (by cases e), fun _ => rfl⟩
  | succ m ih =>
    intro c f ps hm hf hps hL
    obtain ⟨f, rfl⟩ : ∃ g, f = g + 1 := ⟨f - 1, by omega⟩
    have bad : ∀ K : Unit → MH → RS Int, CpR h (bnd (F_Sm_require 0 h) K) none := fun K => ⟨fun m e => (by cases e), fun _ => rq6 R K⟩
    have w0 := wd_r (L := L) (k := 4 + 2 * c) 0 rfl
    have s1 := sg_r (L := L) (k := 4 + 2 * c) 1 44 rfl
    have s2 := sg_r (L := L) (k := 4 + 2 * c) 1 41 rfl
    rw [Nat.add_zero] at w0
    rw [cpL_s, F_Sm_countParameters_12_b, if_pos rfl, if_neg (by omega), ln_word z, bnd_l, gd_rg (by omega) (by omega), show ((4 + 2 * c : Nat) : Int) + 1 = ((4 + 2 * c + 1 : Nat) : Int) by omega, ln_sign z, w0]
    unfold F_Sm_countParameters_59 F_Sm_countParameters_55 F_Sm_countParameters_60
    simp only [gd_01a, gd_01b]
    match hR : L.drop (4 + 2 * c), w0, s1, s2 with
    | [], w0, s1, s2 =>
      rw [if_pos (show bI (decide (((([] : List LnT).map ltk).getD 0 nTk).1 = 1)) = 0 from rfl)]
      exact bad _
    | [x], w0, s1, s2 =>
      have hp : prm (m + 1) ps [x] = none := rfl
      rw [hp, bnd_l, s1]
      by_cases d : x.1 = 1
      · rw [if_neg (show ¬ bI (decide (((([x] : List LnT).map ltk).getD 0 nTk).1 = 1)) = 0 by show ¬ bI (decide (x.1 = 1)) = 0; rw [decide_eq_true d]; decide), if_pos (show bI (isSg ((([x] : List LnT).map ltk).getD 1 nTk) 44) = 0 from rfl), ln_sign z, bnd_l, s2, if_pos (show bI (isSg ((([x] : List LnT).map ltk).getD 1 nTk) 41) = 0 from rfl)]
        exact bad _
      · rw [if_pos (show bI (decide (((([x] : List LnT).map ltk).getD 0 nTk).1 = 1)) = 0 by show bI (decide (x.1 = 1)) = 0; rw [decide_eq_false d]; rfl)]
        exact bad _
    | x :: y :: r, w0, s1, s2 =>
      have w0' : wdAt L (4 + 2 * c) = decide (x.1 = 1) := w0
      have s1' : sgAt L (4 + 2 * c + 1) 44 = isSg (ltk y) 44 := s1
      have s2' : sgAt L (4 + 2 * c + 1) 41 = isSg (ltk y) 41 := s2
      have ex : L[4 + 2 * c]? = some x := by
        have := congrArg (fun l => l[0]?) hR
        simpa using this
      have hdr : L.drop (4 + 2 * (c + 1)) = r := by
        rw [show 4 + 2 * (c + 1) = 4 + 2 * c + 2 by omega, ← List.drop_drop, hR]
        rfl
      have hp : prm (m + 1) ps (x :: y :: r) = if x.1 = 1 ∧ x.2.1 ∉ ps then if isSg (ltk y) 41 = true then some (ps ++ [x.2.1], r) else if isSg (ltk y) 44 = true then prm m (ps ++ [x.2.1]) r else none else none := rfl
      rw [hp, s1', bnd_l]
      show CpR h (if bI (decide (x.1 = 1)) = 0 then _ else _) _
      by_cases d : x.1 = 1
      · rw [decide_eq_true d, if_neg (show ¬ bI true = 0 by decide)]
        have L' : ∀ i, i < c + 1 → ∃ l, L[4 + 2 * i]? = some l ∧ l.2.1 = (ps ++ [x.2.1]).getD i [] := fun i hi => by
          by_cases ci : i < c
          · obtain ⟨l, a, b⟩ := hL i ci
            refine ⟨l, a, ?_⟩
            rw [b, List.getD_eq_getElem?_getD, List.getD_eq_getElem?_getD, List.getElem?_append_left (by omega)]
          · have : i = c := by omega
            subst this
            refine ⟨x, ex, ?_⟩
            rw [List.getD_eq_getElem?_getD, List.getElem?_append_right (by omega), hps, Nat.sub_self]
            rfl
        have go : (isSg (ltk y) 41 = true ∨ isSg (ltk y) 44 = true) → CpR h (bnd (F_Sm_require 1 h) fun x34 h32 => F_Sm_countParameters_66 (cpL f) (c : Int) ((4 + 2 * c : Nat) : Int) 4 h32) ((if x.1 = 1 ∧ x.2.1 ∉ ps then if isSg (ltk y) 41 = true then some (ps ++ [x.2.1], r) else if isSg (ltk y) 44 = true then prm m (ps ++ [x.2.1]) r else none else none).map fun q => (q.1.length : Int)) := by
          intro hor
          have A := ci_l (G12 := cpL f) R z (by omega) hps ex hL c 0 FU (by omega) (by unfold FU; omega)
          have A' : F_Sm_countParameters_66 (cpL f) (c : Int) ((4 + 2 * c : Nat) : Int) 4 h = _ := A
          rw [rq0, A', List.drop_zero]
          by_cases dm : x.2.1 ∈ ps
          · rw [if_pos dm, if_neg (fun q : x.1 = 1 ∧ x.2.1 ∉ ps => q.2 dm)]
            exact ⟨fun m e => (by cases e), fun _ => rfl⟩
          · rw [if_neg dm, if_pos (show x.1 = 1 ∧ x.2.1 ∉ ps from ⟨d, dm⟩), s2']
            by_cases e41 : isSg (ltk y) 41 = true
            · rw [if_pos e41, e41]
              obtain ⟨f, rfl⟩ : ∃ g, f = g + 1 := ⟨f - 1, by omega⟩
              rw [cpL_s, F_Sm_countParameters_12_b, if_neg (show ¬ bI true = 0 by decide)]
              unfold F_Sm_countParameters_129
              have e1 : bI true = 1 := rfl
              rw [e1, gd_01b, rq0]
              refine ⟨fun m e => ?_, fun e => (by cases e)⟩
              cases e
              show some (Sum.inl ((c : Int) + 1), h) = some (Sum.inl (((ps ++ [x.2.1]).length : Nat) : Int), h)
              rw [List.length_append, hps]
              rfl
            · have e44 : isSg (ltk y) 44 = true := by rcases hor with q | q; exact absurd q e41; exact q
              rw [if_neg e41, if_pos e44, Bool.eq_false_iff.mpr e41]
              have i := ih (c + 1) f (ps ++ [x.2.1]) (by omega) (by omega) (by rw [List.length_append, hps]; rfl) L'
              rw [hdr] at i
              have e0 : bI false = 0 := rfl
              rw [e0, show (c : Int) + 1 = ((c + 1 : Nat) : Int) by omega, show 4 + 2 * c + 2 = 4 + 2 * (c + 1) by omega]
              exact i
        by_cases e44 : isSg (ltk y) 44 = true
        · rw [if_neg (show ¬ bI (isSg (ltk y) 44) = 0 by rw [e44]; decide)]
          exact go (.inr e44)
        · rw [if_pos (show bI (isSg (ltk y) 44) = 0 by rw [Bool.eq_false_iff.mpr e44]; rfl), ln_sign z, bnd_l, s2']
          by_cases e41 : isSg (ltk y) 41 = true
          · rw [if_neg (show ¬ bI (isSg (ltk y) 41) = 0 by rw [e41]; decide)]
            exact go (.inl e41)
          · rw [if_pos (show bI (isSg (ltk y) 41) = 0 by rw [Bool.eq_false_iff.mpr e41]; rfl), if_neg e41, if_neg e44, ite_self]
            exact bad _
      · rw [decide_eq_false d, if_pos (show bI false = 0 from rfl), if_neg (fun q : x.1 = 1 ∧ x.2.1 ∉ ps => d q.1)]
        exact bad _
theorem prm_s : ∀ (m c : Nat) (ps ps' : List (List Int)) (r : List LnT), m + c = 3 → ps.length = c → prm m ps (L.drop (4 + 2 * c)) = some (ps', r) → (∀ i, i < c → ∃ l, L[4 + 2 * i]? = some l ∧ l.1 = 1 ∧ l.2.1 = ps.getD i []) → ps'.length ≤ 3 ∧ 1 ≤ ps'.length ∧ r = L.drop (4 + 2 * ps'.length) ∧ 4 + 2 * ps'.length ≤ L.length ∧ ∀ i, i < ps'.length → ∃ l, L[4 + 2 * i]? = some l ∧ l.1 = 1 ∧ l.2.1 = ps'.getD i [] := by
  intro m
  induction m with
  | zero => intro c ps ps' r hm hps e; cases e
  | succ m ih =>
    intro c ps ps' r hm hps e hL
    match hR : L.drop (4 + 2 * c), e with
    | [], e => cases e
    | [x], e => cases e
    | x :: y :: R, e =>
      have ex : L[4 + 2 * c]? = some x := by
        have := congrArg (fun l => l[0]?) hR
        simpa using this
      have hlen : 4 + 2 * c + 2 ≤ L.length := by
        have := congrArg List.length hR
        rw [List.length_drop, List.length_cons, List.length_cons] at this
        omega
      have hdr : L.drop (4 + 2 * (c + 1)) = R := by
        rw [show 4 + 2 * (c + 1) = 4 + 2 * c + 2 by omega, ← List.drop_drop, hR]
        rfl
      rw [prm] at e
      by_cases d : x.1 = 1 ∧ x.2.1 ∉ ps
      · rw [if_pos d] at e
        have L' : ∀ i, i < c + 1 → ∃ l, L[4 + 2 * i]? = some l ∧ l.1 = 1 ∧ l.2.1 = (ps ++ [x.2.1]).getD i [] := fun i hi => by
          by_cases ci : i < c
          · obtain ⟨l, a, a', b⟩ := hL i ci
            refine ⟨l, a, a', ?_⟩
            rw [b, List.getD_eq_getElem?_getD, List.getD_eq_getElem?_getD, List.getElem?_append_left (by omega)]
          · have : i = c := by omega
            subst this
            refine ⟨x, ex, d.1, ?_⟩
            rw [List.getD_eq_getElem?_getD, List.getElem?_append_right (by omega), hps, Nat.sub_self]
            rfl
        have hl1 : (ps ++ [x.2.1]).length = c + 1 := by rw [List.length_append, hps]; rfl
        by_cases e41 : isSg (ltk y) 41 = true
        · rw [if_pos e41] at e
          cases e
          rw [hl1]
          exact ⟨by omega, by omega, hdr.symm, by omega, L'⟩
        · rw [if_neg e41] at e
          by_cases e44 : isSg (ltk y) 44 = true
          · rw [if_pos e44, ← hdr] at e
            exact ih (c + 1) _ _ _ (by omega) hl1 e L'
          · rw [if_neg e44] at e; cases e
      · rw [if_neg d] at e; cases e
/-- what stands ahead of a body -/
def bsN (ps : Option (List (List Int))) : Nat := match ps with
  | none => 3
  | some [] => 5
  | some l => 4 + 2 * l.length
theorem hdD_s {ps : Option (List (List Int))} {b : List LnT} (hw : 3 ≤ L.length) (e : hdD L = some (ps, b)) : (ps.getD []).length ≤ 3 ∧ b = L.drop (bsN ps) ∧ bsN ps ≤ L.length ∧ ∀ i, i < (ps.getD []).length → ∃ l, L[4 + 2 * i]? = some l ∧ l.1 = 1 ∧ l.2.1 = (ps.getD []).getD i [] := by
  unfold hdD at e
  by_cases c1 : sgAt L 3 40 = true ∧ stAt L 3 = stAt L 2 + (txAt L 2).length
  · rw [if_pos c1] at e
    by_cases c2 : sgAt L 4 41 = true
    · rw [if_pos c2] at e
      cases e
      refine ⟨Nat.zero_le _, rfl, ?_, fun i hi => absurd hi (Nat.not_lt_zero _)⟩
      show 5 ≤ L.length
      unfold sgAt at c2
      cases q : L[4]? with
      | none => rw [q] at c2; cases c2
      | some x => have := (List.getElem?_eq_some_iff.mp q).1; omega
    · rw [if_neg c2] at e
      cases q : prm 3 [] (L.drop 4) with
      | none => rw [q] at e; cases e
      | some y =>
        obtain ⟨ps', r⟩ := y
        rw [q] at e
        cases e
        obtain ⟨a1, a2, a3, a4, a5⟩ := prm_s (L := L) 3 0 [] ps' r rfl rfl q (fun i hi => absurd hi (Nat.not_lt_zero _))
        have eb : bsN (some ps') = 4 + 2 * ps'.length := by
          cases ps' with
          | nil => exact absurd a2 (by decide)
          | cons a l => rfl
        rw [eb]
        exact ⟨a1, a3, a4, a5⟩
  · rw [if_neg c1] at e
    cases e
    exact ⟨Nat.zero_le _, rfl, hw, fun i hi => absurd hi (Nat.not_lt_zero _)⟩
/-! the definition is written down -/
theorem PrC.mk : ∀ {l : List (List Int)} {p : Nat}, (∀ i, i < l.length → TC h M (mGl h 92 (p + i)) (1, l.getD i [], noH) false) → PrC h M p l
  | [], _, _ => trivial
  | x :: l, p, z => ⟨z 0 (by simp), PrC.mk (fun i hi => by
      have := z (i + 1) (by rw [List.length_cons]; omega)
      rw [show p + (i + 1) = p + 1 + i by omega] at this
      exact this)⟩
theorem BoC.mk : ∀ {l : List LnT} {p : Nat}, (∀ i x, l[i]? = some x → TC h M (mGl h 94 (p + i)) (x.1, x.2.1, noH) false) → BoC h M p (l.map fun l => (l.1, l.2.1))
  | [], _, _ => trivial
  | x :: l, p, z => ⟨z 0 x rfl, BoC.mk (fun i y hy => by
      have := z (i + 1) y (by simpa using hy)
      rw [show p + (i + 1) = p + 1 + i by omega] at this
      exact this)⟩
noncomputable def dpL (f : Nat) (v1 v2 v3 v4 v5 : Int) (h : MH) : RS Unit := itr (fun self (q : Int × Int × Int × Int × Int × MH) => F_Sm_define_111_b (fun v1 v2 v3 v4 v5 h => self (v1, v2, v3, v4, v5, h)) q.1 q.2.1 q.2.2.1 q.2.2.2.1 q.2.2.2.2.1 q.2.2.2.2.2) f (v1, v2, v3, v4, v5, h)
theorem dpL_s {f : Nat} {v1 v2 v3 v4 v5 : Int} : dpL (f + 1) v1 v2 v3 v4 v5 h = F_Sm_define_111_b (dpL f) v1 v2 v3 v4 v5 h := rfl
theorem dp_l {k b len m : Nat} {v1 : Int} (hk : k < 8) (hm : m ≤ 3) (hv : v1 = (m : Int) ∨ (v1 = -1 ∧ m = 0)) (hb : b + len ≤ 400) (hlen : len ≤ 12) : ∀ (q j f : Nat) (h : MH), j + q = m → q < f → ∃ h', dpL f v1 (b : Int) (len : Int) (k : Int) (j : Int) h = some (.inl (), h') ∧ FW (pNm k) (qNm k) h h' ∧ mGi h' 93 k = (len : Int) ∧ mGl h' 90 k = mGl h 90 k ∧ mGi h' 91 k = mGi h 91 k ∧ (∀ i, i < j → mGl h' 92 (3 * k + i) = mGl h 92 (3 * k + i)) ∧ (∀ i, j ≤ i → i < m → mGl h' 92 (3 * k + i) = mGl h 103 (4 + 2 * i)) ∧ (∀ i, i < len → mGl h' 94 (12 * k + i) = mGl h 103 (b + i)) := by
  intro q
  induction q with
  | zero =>
    intro j f h hj hf
    obtain ⟨f, rfl⟩ : ∃ g, f = g + 1 := ⟨f - 1, by omega⟩
    have f1 : FW (pNm k) (qNm k) h (mCpL (mPi h 93 k (len : Int)) 103 94 b (12 * k) len) := FW.cl (FW.pi FW.rf (by unfold pNm; omega)) (fun i _ _ => by unfold qNm; omega)
    refine ⟨_, ?_, f1, ?_, ?_, ?_, fun i hi => ?_, fun i h1 h2 => by omega, fun i hi => ?_⟩
    · rw [dpL_s, F_Sm_define_111_b, if_pos (by rcases hv with q | q <;> omega), gd_b (by omega) (by omega)]
      simp only [sto_e]
      rw [gd_rg (by omega) (by omega), gd_cp (by omega) (by omega) (by omega) (by omega) (by omega), Int.toNat_natCast, Int.toNat_natCast, Int.toNat_natCast, show ((k : Int) * 12).toNat = 12 * k by omega]
    · rw [gi_cl, gi_s]
    · rw [gl_cl, if_neg (by omega), gl_pi]
    · rw [gi_cl, gi_pi, if_neg (by omega)]
    · rw [gl_cl, if_neg (by omega), gl_pi]
    · rw [gl_cl, if_pos ⟨rfl, by omega, by omega⟩, gl_pi, show b + (12 * k + i - 12 * k) = b + i by omega]
  | succ q ih =>
    intro j f h hj hf
    obtain ⟨f, rfl⟩ : ∃ g, f = g + 1 := ⟨f - 1, by omega⟩
    have hv1 : v1 = (m : Int) := by rcases hv with e | e; exact e; omega
    have f1 : FW (pNm k) (qNm k) h (mPl h 92 (3 * k + j) (mGl h 103 (4 + 2 * j))) := FW.pl FW.rf (by unfold qNm; omega)
    obtain ⟨h2, a1, a2, a3, a4, a5, a6, a7, a8⟩ := ih (j + 1) f (mPl h 92 (3 * k + j) (mGl h 103 (4 + 2 * j))) (by omega) (by omega)
    refine ⟨h2, ?_, f1.tr a2, a3, ?_, ?_, fun i hi => ?_, fun i h1 h3 => ?_, fun i hi => ?_⟩
    · rw [dpL_s, F_Sm_define_111_b, if_neg (by omega), gd_rg (by omega) (by omega), gd_rg (by omega) (by omega), gd_rg (by omega) (by omega), gd_rg (by omega) (by omega), gd_b (by omega) (by omega), gd_b (by omega) (by omega), show ((4 : Int) + 2 * (j : Int)).toNat = 4 + 2 * j by omega, show ((k : Int) * 3 + (j : Int)).toNat = 3 * k + j by omega]
      simp only [sto_e]
      rw [gd_rg (by omega) (by omega), show (j : Int) + 1 = ((j + 1 : Nat) : Int) by omega]
      exact a1
    · rw [a4, gl_pl, if_neg (by omega)]
    · rw [a5, gi_pl]
    · rw [a6 i (by omega), gl_pl, if_neg (by omega)]
    · by_cases c : i = j
      · rw [c, a6 j (by omega), gl_pl, if_pos ⟨rfl, rfl⟩]
      · rw [a7 i (by omega) h3, gl_pl, if_neg (by omega)]
    · rw [a8 i hi, gl_pl, if_neg (by omega)]
def defS (L : List LnT) (ps : Option (List (List Int))) (b : List LnT) (s : S2) : S2 × Nat := match (match fnd s.1 (txAt L 2) with | some k => some k | none => fre s.1) with
  | none => (s, 1)
  | some k => if 12 < b.length then (s, 1) else ((setN s.1 k (some (txAt L 2, ps, b.map fun l => (l.1, l.2.1))), s.2), 0)
theorem fre_s {k : Nat} (e : fre nm = some k) : k < 8 := by
  unfold fre at e
  exact List.mem_range.mp (List.mem_of_find?_eq_some e)
theorem sm_dfn {ps : Option (List (List Int))} {b : List LnT} (z : SC B k0 tx n h s) (zl : LnO h L) (hw : wdAt L 2 = true) (e : hdD L = some (ps, b)) : SO B k0 tx n (F_Sm_define (psN ps) h) (defS L ps b s) := by
  obtain ⟨w, ew, kw⟩ := wdA hw
  have hl3 := (List.getElem?_eq_some_iff.mp ew).1
  obtain ⟨p1, p2, p3, p4⟩ := hdD_s (by omega) e
  have hm := z.2.1.2.1.2
  have hl4 := zl.2.1
  have tw := zl.tc (M := 402 + s.2.2.2.2) (p := 2) (by omega) (by omega) ew
  have hbl : b.length = L.length - bsN ps := by rw [p2, List.length_drop]
  have e0 : F_Sm_define (psN ps) h = F_Sm_define_21 (psN ps) (bsN ps : Int) h := by
    unfold F_Sm_define
    match ps, p1 with
    | none, _ => rw [if_neg (by show ¬ (0 : Int) ≤ -1; decide)]; rfl
    | some [], _ => rw [if_pos (by show (0 : Int) ≤ 0; decide), if_pos (show psN (some []) = 0 from rfl)]; rfl
    | some (x :: l), p1 =>
      have p1' : l.length + 1 ≤ 3 := p1
      have q : psN (some (x :: l)) = ((l.length + 1 : Nat) : Int) := rfl
      rw [q, if_pos (by omega), if_neg (by omega), gd_rg (by omega) (by omega), gd_rg (by omega) (by omega)]
      have : bsN (some (x :: l)) = 4 + 2 * (l.length + 1) := rfl
      rw [this, show (4 : Int) + 2 * ((l.length + 1 : Nat) : Int) = ((4 + 2 * (l.length + 1) : Nat) : Int) by omega]
  rw [e0]
  unfold F_Sm_define_21
  rw [zl.1, gd_rg (by omega) (by omega), gd_b (by decide) (by decide), show (2 : Int).toNat = 2 from rfl, na_find z.2.1.1 tw, bnd_l, show (L.length : Int) - (bsN ps : Int) = (b.length : Int) by omega]
  unfold defS
  rw [txA ew]
  have etw : (ltk w).2.1 = w.2.1 := rfl
  rw [etw]
  have fin : ∀ o : Option Nat, (∀ k, o = some k → k < 8) → SO B k0 tx n (F_Sm_define_62 (psN ps) (bsN ps : Int) (b.length : Int) (oI o) h) (match o with | none => (s, 1) | some k => if 12 < b.length then (s, 1) else ((setN s.1 k (some (w.2.1, ps, b.map fun l => (l.1, l.2.1))), s.2), 0)) := by
    intro o ho
    unfold F_Sm_define_62 F_Sm_define_73
    cases o with
    | none =>
      rw [if_pos (by show (-1 : Int) < 0; decide)]
      exact z.fail (why := 1) (by decide) _
    | some k =>
      have hk := ho k rfl
      have hok : oI (some k) = (k : Int) := rfl
      rw [hok, if_neg (by omega)]
      dsimp only
      by_cases c : 12 < b.length
      · rw [if_neg (by omega), if_pos c]
        exact z.fail (why := 1) (by decide) _
      · rw [if_pos (by omega), if_neg c]
        unfold F_Sm_define_81
        rw [gd_b (by decide) (by decide), gd_b (by omega) (by omega), Int.toNat_natCast, show (2 : Int).toNat = 2 from rfl]
        simp only [sto_e]
        have f0 : FW (pNm k) (qNm k) h (mPi (mPl h 90 k (mGl h 103 2)) 91 k (psN ps)) := FW.pi (FW.pl FW.rf (by unfold qNm; omega)) (by unfold pNm; omega)
        obtain ⟨h2, a1, a2, a3, a4, a5, -, a7, a8⟩ := dp_l (k := k) (b := bsN ps) (len := b.length) (m := (ps.getD []).length) (v1 := psN ps) hk p1 (by cases ps; exact .inr ⟨rfl, rfl⟩; exact .inl rfl) (by omega) (by omega) (ps.getD []).length 0 FU (mPi (mPl h 90 k (mGl h 103 2)) 91 k (psN ps)) (by omega) (by unfold FU; omega)
        have f2 := f0.tr a2
        have e88 : ∀ i, mGi h2 88 i = mGi h 88 i := fun i => f2.2.2.1 88 i (by unfold pNm; omega)
        have mv : ∀ (v : Int64) (t : Tk), TC h (402 + s.2.2.2.2) v t false → TC h2 (402 + s.2.2.2.2) v t false := fun v t y => y.cg (fun i _ => e88 i) (Nat.le_refl _) (by omega)
        refine ⟨fun _ => ⟨h2, a1, z.nmd hk f2 ⟨?_, ?_, PrC.mk (fun i hi => ?_), by rw [List.length_map]; exact a3, BoC.mk (fun i x hx => ?_), p1, by rw [List.length_map]; omega⟩ (z.2.2.1.set (fun q hq => ?_))⟩, fun q => absurd rfl q⟩
        · rw [a4, gl_pi, gl_pl, if_pos ⟨rfl, rfl⟩]
          have := mv _ _ tw
          have et : ltk w = (1, w.2.1, noH) := by unfold ltk; rw [kw]
          rw [et] at this
          exact this
        · rw [a5, gi_s]
        · obtain ⟨l, q1, q2, q3⟩ := p4 i hi
          rw [a7 i (by omega) hi, gl_pi, gl_pl, if_neg (by omega)]
          have := mv _ _ (zl.tc (M := 402 + s.2.2.2.2) (p := 4 + 2 * i) (by omega) (by omega) q1)
          have et : ltk l = (1, (ps.getD []).getD i [], noH) := by unfold ltk; rw [q2, q3]
          rw [et] at this
          exact this
        · have hi := (List.getElem?_eq_some_iff.mp hx).1
          rw [a8 i hi, gl_pi, gl_pl, if_neg (by omega)]
          rw [p2, List.getElem?_drop] at hx
          exact mv _ _ (zl.tc (M := 402 + s.2.2.2.2) (p := bsN ps + i) (by omega) (by omega) hx)
        · cases hq
          refine ⟨fun p hp => ?_, p1, by show (b.map _).length ≤ 12; rw [List.length_map]; omega, fun y hy => ?_⟩
          · obtain ⟨i, hi, rfl⟩ := List.getElem_of_mem hp
            obtain ⟨l, q1, q2, q3⟩ := p4 i hi
            have := (zl.2.2.2 l (List.mem_of_getElem? q1)).2.2 q2
            rw [q3, List.getD_eq_getElem?_getD (l := ps.getD []), List.getElem?_eq_getElem hi] at this
            exact this
          · have hy' : y ∈ b.map fun l => (l.1, l.2.1) := hy
            obtain ⟨l, hl, rfl⟩ := List.mem_map.mp hy'
            rw [p2] at hl
            exact (zl.2.2.2 l (List.mem_of_mem_drop hl)).ok
  cases e1 : fnd s.1 w.2.1 with
  | some k =>
    rw [if_pos (by show (0 : Int) ≤ (k : Int); omega)]
    exact fin (some k) (fun k' e => by cases e; exact (fnd_s e1).1)
  | none =>
    rw [if_neg (by show ¬ (0 : Int) ≤ -1; decide), na_free z.2.1.1, bnd_l]
    exact fin (fre s.1) (fun k e => fre_s e)
end Sm4
