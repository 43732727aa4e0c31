/-! the reference's orders: define -/
section Df
variable {B h h' : MH} {M E : Nat} {t x : List Int} {s : S2} {nm : Nm} {P Q : Nat → Nat → Prop} {L : List LnT} {lv : List (Bool × Bool × Bool)} {res : List Int} {rp md rp' md' : Nat} {T why : Nat}
theorem lnV.cl {l : LnT} (w : lnV l) (k1 : l.1 = 1) : cL (l.2.1.getD 0 0) = true := by
  rcases w.1 with e | ⟨-, -, q⟩
  · exact absurd (congrArg (fun t : Tk => t.2.1) e) w.2
  · have q' : (l.1 = 1 ∧ cL (l.2.1.getD 0 0) = true) ∨ (l.1 = 2 ∧ _) ∨ (l.1 = 3 ∧ _) ∨ (l.1 = 4 ∧ _) := q
    rcases q' with q | q | q | q
    · exact q.2
    all_goals omega
theorem prm_nd : ∀ (m : Nat) (ps ps' : List (List Int)) (l r : List LnT), prm m ps l = some (ps', r) → ps.Nodup → ps'.Nodup := by
  intro m
  induction m with
  | zero => intro ps ps' l r e; cases e
  | succ m ih =>
    intro ps ps' l r e nd
    match l, e with
    | [], e => cases e
    | [x], e => cases e
    | x :: y :: l, e =>
      rw [prm] at e
      by_cases d : x.1 = 1 ∧ x.2.1 ∉ ps
      · rw [if_pos d] at e
        have nd1 : (ps ++ [x.2.1]).Nodup := by
          rw [List.nodup_append]
          refine ⟨nd, List.nodup_cons.mpr ⟨List.not_mem_nil, List.nodup_nil⟩, fun a ha b hb e => ?_⟩
          rw [List.mem_singleton.mp hb] at e
          exact d.2 (e ▸ ha)
        by_cases e41 : isSg (ltk y) 41 = true
        · rw [if_pos e41] at e
          cases e
          exact nd1
        · rw [if_neg e41] at e
          by_cases e44 : isSg (ltk y) 44 = true
          · rw [if_pos e44] at e
            exact ih _ _ _ _ e nd1
          · rw [if_neg e44] at e; cases e
      · rw [if_neg d] at e; cases e
theorem hdD_nd {ps : Option (List (List Int))} {b : List LnT} (e : hdD L = some (ps, b)) : (ps.getD []).Nodup := by
  unfold hdD at e
  by_cases c1 : sgAt L 3 40 = true ∧ stAt L 3 = stAt L 2 + (txAt L 2).length
  · rw [if_pos c1] at e
    by_cases c2 : sgAt L 4 41 = true
    · rw [if_pos c2] at e
      cases e
      exact List.nodup_nil
    · rw [if_neg c2] at e
      cases q : prm 3 [] (L.drop 4) with
      | none => rw [q] at e; cases e
      | some y =>
        obtain ⟨ps', r⟩ := y
        rw [q] at e
        cases e
        exact prm_nd _ _ _ _ _ q List.nodup_nil
  · rw [if_neg c1] at e
    cases e
    exact List.nodup_nil
/-- brackets at the word -/
def brB (L : List LnT) : Bool := decide (sgAt L 3 40 = true ∧ stAt L 3 = stAt L 2 + (txAt L 2).length)
theorem m_br (y : LnS h E L) : F_M_defineName h = F_M_defineName_46 (bI (brB L)) h := by
  have s3 := ls_sign (p := 3) (c := 40) y
  have s3' : F_M_isSignAt 3 40 h = some (.inl (bI (sgAt L 3 40)), h) := s3
  unfold F_M_defineName F_M_defineName_45 brB
  rw [s3', bnd_l]
  by_cases c : sgAt L 3 40 = true
  · have h4 : 4 ≤ L.length := by
      unfold sgAt at c
      cases q : L[3]? with
      | none => rw [q] at c; cases c
      | some x => have := (List.getElem?_eq_some_iff.mp q).1; omega
    have e2 := List.getElem?_eq_getElem (l := L) (i := 2) (by omega)
    have e3 := List.getElem?_eq_getElem (l := L) (i := 3) (by omega)
    have q2 := y.2.2.1.get e2
    have q3 := y.2.2.1.get e3
    rw [Nat.zero_add] at q2 q3
    have es2 : stAt L 2 = (L[2]).2.2 := by unfold stAt; rw [e2]
    have es3 : stAt L 3 = (L[3]).2.2 := by unfold stAt; rw [e3]
    have t2 : ((2 : Int)).toNat = 2 := rfl
    have t3 : ((3 : Int)).toNat = 3 := rfl
    unfold F_M_placeOf F_M_sizeOf
    rw [if_neg (show ¬ bI (sgAt L 3 40) = 0 by rw [c]; decide), gd_b (by decide) (by decide), t3, q3.1.start, bnd_l, gd_b (by decide) (by decide), t2, q2.1.start, bnd_l, q2.1.len, bnd_l, gd_rg (by omega) (by omega), es2, es3, txA e2]
    by_cases d : (L[3]).2.2 = (L[2]).2.2 + (L[2]).2.1.length
    · rw [if_pos (by omega), decide_eq_true ⟨c, d⟩]; rfl
    · rw [if_neg (by omega), decide_eq_false (fun q => d q.2)]; rfl
  · rw [Bool.eq_false_iff.mpr c, if_pos (show bI false = 0 from rfl), decide_eq_false (fun q => absurd q.1 (by decide))]; rfl
/-- what stands ahead of the body -/
theorem m_hd (hM : E + 2 ≤ M) (hM2 : M ≤ 1302) (y : LnS h E L) : ∃ (v2 : Int) (h1 : MH), F_M_defineName h = F_M_defineName_59 (bI (brB L)) v2 h1 ∧ FW noP q126 h h1 ∧ -1 ≤ v2 ∧ v2 ≤ 10 ∧
    (∀ ps b, hdD L = some (ps, b) → v2 = (bsN ps : Int) ∧ brB L = ps.isSome ∧ PtR h1 M (ps.getD [])) ∧ (hdD L = none → v2 = -1) := by
  rw [m_br y]
  unfold F_M_defineName_46
  by_cases c : sgAt L 3 40 = true ∧ stAt L 3 = stAt L 2 + (txAt L 2).length
  · have eb : brB L = true := decide_eq_true c
    rw [eb, if_neg (show ¬ bI true = 0 by decide)]
    have s4 := ls_sign (p := 4) (c := 41) y
    have s4' : F_M_isSignAt 4 41 h = some (.inl (bI (sgAt L 4 41)), h) := s4
    unfold F_M_takeParameters
    rw [s4', bnd_l]
    by_cases c4 : sgAt L 4 41 = true
    · have eh : hdD L = some (some [], L.drop 5) := by unfold hdD; rw [if_pos c, if_pos c4]
      rw [c4, if_neg (show ¬ bI true = 0 by decide), bnd_l, eh]
      refine ⟨5, h, rfl, FW.rf, by decide, by decide, fun ps b e => ?_, fun e => (by cases e)⟩
      cases e
      exact ⟨rfl, rfl, fun i hi => absurd hi (Nat.not_lt_zero _)⟩
    · have eh : hdD L = (prm 3 [] (L.drop 4)).map fun q => (some q.1, q.2) := by unfold hdD; rw [if_pos c, if_neg c4]
      have A := tp_l hM hM2 3 0 FU [] h rfl (by unfold FU; omega) rfl List.nodup_nil (fun p hp => absurd hp List.not_mem_nil) y (fun i hi => absurd hi (Nat.not_lt_zero _))
      have A' : TpR h M (F_M_takeParameters_14 0 h) (prm 3 [] (L.drop 4)) := A
      rw [Bool.eq_false_iff.mpr c4, if_pos (show bI false = 0 from rfl)]
      obtain ⟨h1, a1, a2, a3⟩ := A'
      cases ep : prm 3 [] (L.drop 4) with
      | none =>
        rw [ep] at eh
        have ehn : hdD L = none := eh
        rw [a3 ep, bnd_l, ehn]
        exact ⟨-1, h1, rfl, a1, by decide, by decide, fun ps b e => (by cases e), fun _ => rfl⟩
      | some q =>
        obtain ⟨ps, r⟩ := q
        rw [ep] at eh
        have ehs : hdD L = some (some ps, r) := eh
        obtain ⟨b1, b2⟩ := a2 ps r ep
        obtain ⟨q1, q2, -, -, -⟩ := prm_s (L := L) 3 0 [] ps r rfl rfl ep (fun i hi => absurd hi (Nat.not_lt_zero _))
        rw [b1, bnd_l, ehs]
        refine ⟨_, h1, rfl, a1, by omega, by omega, fun ps' b' e => ?_, fun e => (by cases e)⟩
        cases e
        refine ⟨?_, rfl, b2⟩
        have eb : bsN (some ps) = 4 + 2 * ps.length := by
          cases ps with
          | nil => exact absurd q2 (by decide)
          | cons a l => rfl
        rw [eb]
  · have eb : brB L = false := decide_eq_false c
    have eh : hdD L = some (none, L.drop 3) := by unfold hdD; rw [if_neg c]
    rw [eb, if_pos (show bI false = 0 from rfl), eh]
    refine ⟨3, h, rfl, FW.rf, by decide, by decide, fun ps b e => ?_, fun e => (by cases e)⟩
    cases e
    exact ⟨rfl, rfl, fun i hi => absurd hi (Nat.not_lt_zero _)⟩
/-! a place for the name -/
theorem fnd_p {p : Nat → Bool} : laI (-1) ((List.range' 0 8).reverse.find? fun i => p (7 - i)) = oJ ((List.range 8).find? p) := by
  have e1 : (List.range' 0 8).reverse = [7, 6, 5, 4, 3, 2, 1, 0] := by decide
  have e2 : List.range 8 = [0, 1, 2, 3, 4, 5, 6, 7] := by decide
  rw [e1, e2]
  simp only [List.find?_cons, List.find?_nil, Nat.sub_self, Nat.sub_zero, Nat.reduceSub]
  cases p 0 <;> simp only [] <;> try rfl
  cases p 1 <;> simp only [] <;> try rfl
  cases p 2 <;> simp only [] <;> try rfl
  cases p 3 <;> simp only [] <;> try rfl
  cases p 4 <;> simp only [] <;> try rfl
  cases p 5 <;> simp only [] <;> try rfl
  cases p 6 <;> simp only [] <;> try rfl
  cases p 7 <;> simp only [] <;> try rfl
noncomputable def dnL (f : Nat) (v1 v2 v3 v4 v5 : Int) (h : MH) : RS Unit := itr (fun self (q : Int × Int × Int × Int × Int × MH) => F_M_defineName_188_b (fun v1 v2 v3 v4 v5 h => self (v1, v2, v3, v4, v5, h)) q.1 q.2.1 q.2.2.1 q.2.2.2.1 q.2.2.2.2.1 q.2.2.2.2.2) f (v1, v2, v3, v4, v5, h)
theorem dnL_s {f : Nat} {v1 v2 v3 v4 v5 : Int} : dnL (f + 1) v1 v2 v3 v4 v5 h = F_M_defineName_188_b (dnL f) v1 v2 v3 v4 v5 h := rfl
theorem dn_p {v1 v2 v3 : Int} (ct : 0 < mGi h 107 32) : ∀ (j f i : Nat), j ≤ 8 → j < f → dnL f v1 v2 v3 (i : Int) ((j : Int) - 1) h = F_M_defineName_230 v1 v2 v3 (i : Int) h := by
  intro j
  induction j with
  | zero =>
    intro f i hj hf
    obtain ⟨f, rfl⟩ : ∃ g, f = g + 1 := ⟨f - 1, by omega⟩
    rw [dnL_s, F_M_defineName_188_b, if_pos (by omega)]
  | succ j ih =>
    intro f i hj hf
    obtain ⟨f, rfl⟩ : ∃ g, f = g + 1 := ⟨f - 1, by omega⟩
    rw [dnL_s, F_M_defineName_188_b, if_neg (by omega), if_neg (by omega), if_pos (by omega)]
    unfold F_M_defineName_220 F_M_defineName_222
    rw [gd_rg (by omega) (by omega), show ((j + 1 : Nat) : Int) - 1 + (-1) = (j : Int) - 1 by omega]
    exact ih f i (by omega) (by omega)
theorem dn_l {v1 v2 v3 : Int} (ct : 0 < mGi h 107 32) (z : ∀ k, k < 8 → (mGi h 130 (7 - k) = 0 ↔ nm k = none)) : ∀ (j f : Nat), j ≤ 8 → j < f → dnL f v1 v2 v3 (-1) ((j : Int) - 1) h = F_M_defineName_230 v1 v2 v3 (laI (-1) ((List.range' 0 j).reverse.find? fun i => (nm (7 - i)).isNone)) h := by
  intro j
  induction j with
  | zero =>
    intro f hj hf
    obtain ⟨f, rfl⟩ : ∃ g, f = g + 1 := ⟨f - 1, by omega⟩
    rw [dnL_s, F_M_defineName_188_b, if_pos (by omega)]
    rfl
  | succ j ih =>
    intro f hj hf
    obtain ⟨f, rfl⟩ : ∃ g, f = g + 1 := ⟨f - 1, by omega⟩
    have zj := z (7 - j) (by omega)
    rw [show 7 - (7 - j) = j by omega] at zj
    have er : (List.range' 0 (j + 1)).reverse = j :: (List.range' 0 j).reverse := by
      rw [← List.range_eq_range', ← List.range_eq_range', List.range_succ, List.reverse_append]
      rfl
    rw [dnL_s, F_M_defineName_188_b, if_neg (by omega), if_neg (by omega), if_neg (by decide), gd_b (by omega) (by omega), show (((j + 1 : Nat) : Int) - 1).toNat = j by omega, er, List.find?_cons]
    unfold F_M_defineName_220 F_M_defineName_222
    rw [gd_rg (by omega) (by omega), gd_rg (by omega) (by omega), show ((j + 1 : Nat) : Int) - 1 + (-1) = (j : Int) - 1 by omega]
    cases hq : nm (7 - j) with
    | none =>
      rw [if_pos (zj.mpr hq), show ((j + 1 : Nat) : Int) - 1 = (j : Int) by omega]
      exact dn_p ct j f j (by omega) (by omega)
    | some d =>
      rw [if_neg (fun q => by rw [zj.mp q] at hq; cases hq)]
      exact ih f (by omega) (by omega)
theorem NmR.z0 (z : NmR h M nm) : ∀ k, k < 8 → (mGi h 130 (7 - k) = 0 ↔ nm k = none) := fun k hk => by
  have zk := z k hk
  cases e : nm k with
  | none => rw [e] at zk; exact ⟨fun _ => rfl, fun _ => zk⟩
  | some d =>
    obtain ⟨w, ps, b⟩ := d
    rw [e] at zk
    have q : mGi h 130 (7 - k) = 1 := zk.1
    exact ⟨fun r => absurd (q.symm.trans r) (by decide), fun r => (by cases r)⟩
theorem fre_ct : fre nm = none ↔ ¬ ctN nm < 8 := by
  have hb : ∀ k, bN (nm k) = 1 ∨ (nm k = none ∧ bN (nm k) = 0) := fun k => by
    cases nm k with
    | none => exact .inr ⟨rfl, rfl⟩
    | some d => exact .inl rfl
  constructor
  · intro e
    unfold fre at e
    rw [List.find?_eq_none] at e
    have ho : ∀ k, k < 8 → bN (nm k) = 1 := fun k hk => by
      rcases hb k with q | q
      · exact q
      · exact absurd (by rw [q.1]; rfl) (e k (List.mem_range.mpr hk))
    have := ho 0 (by decide); have := ho 1 (by decide); have := ho 2 (by decide); have := ho 3 (by decide)
    have := ho 4 (by decide); have := ho 5 (by decide); have := ho 6 (by decide); have := ho 7 (by decide)
    unfold ctN
    omega
  · intro q
    cases e : fre nm with
    | none => rfl
    | some k =>
      exfalso
      apply q
      unfold fre at e
      have hk := List.mem_range.mp (List.mem_of_find?_eq_some e)
      have hn := List.find?_some e
      have b0 : bN (nm k) = 0 := by
        cases d : nm k with
        | none => rfl
        | some d' => rw [d] at hn; cases hn
      have c := ctN_s (nm := nm) (k := k) (v := some ([], none, [])) hk
      have r := ctN_r (nm := setN nm k (some ([], none, [])))
      have b1 : bN (some (([], none, []) : NmD)) = 1 := rfl
      omega
/-! the definition is written down -/
theorem BoR.mk {ps : List (List Int)} : ∀ {l : List LnT} {p : Nat}, (∀ i x, l[i]? = some x → TR h M (mGl h 125 (p + i)) (ltk x) false ∧ mGi h 129 (p + i) = oI (pix ps x.2.1)) → BoR h M ps p (l.map fun l => (l.1, l.2.1))
  | [], _, _ => trivial
  | x :: l, p, z => ⟨(z 0 x rfl).1, (z 0 x rfl).2, BoR.mk (fun i y hy => by
      have := z (i + 1) y (by simpa using hy)
      rw [show p + (i + 1) = p + 1 + i by omega] at this
      exact this)⟩
theorem m_230 {k : Nat} {w : LnT} {ps : Option (List (List Int))} {b : List LnT} {c' : Int} (z : RQ B t h (nm, lv, res, rp, md)) (y : LnS h E L) (hE : E ≤ t.length) (hk : k < 8) (ew : L[2]? = some w) (kw : w.1 = 1) (e : hdD L = some (ps, b)) (hb : b.length ≤ 12) (pt : PtR h (t.length + 2 + md) (ps.getD [])) (hc : c' = ctN (setN nm k (some (w.2.1, ps, b.map fun l => (l.1, l.2.1))))) :
    ∃ h', F_M_defineName_230 (bI ps.isSome) (bsN ps : Int) ((ps.getD []).length : Int) ((7 - k : Nat) : Int) (mPi h 107 32 c') = some (.inl (), h') ∧ RQ B t h' (setN nm k (some (w.2.1, ps, b.map fun l => (l.1, l.2.1))), lv, res, rp, md) := by
  have hM := z.2.1.mx
  have hM' : t.length + 2 + md ≤ 1302 := hM
  have hl3 := (List.getElem?_eq_some_iff.mp ew).1
  obtain ⟨p1, p2, p3, p4⟩ := hdD_s (by omega) e
  have hl4 := y.2.1
  have hbl : b.length = L.length - bsN ps := by rw [p2, List.length_drop]
  have yw := y.tc (M := t.length + 2 + md) (by omega) hM' ew
  have hV : ∀ l ∈ L, lnV l := fun l hl => (y.2.2.2.1 l hl).1
  have wd : wds (ps.getD []) := fun p hp => by
    obtain ⟨i, hi, rfl⟩ := List.getElem_of_mem hp
    obtain ⟨l, q1, q2, q3⟩ := p4 i hi
    have := (hV l (List.mem_of_getElem? q1)).cl q2
    rw [q3, List.getD_eq_getElem?_getD (l := ps.getD []), List.getElem?_eq_getElem hi] at this
    exact this
  have t2 : ((2 : Int)).toNat = 2 := rfl
  have H5 : ∃ h5, F_M_defineName_230 (bI ps.isSome) (bsN ps : Int) ((ps.getD []).length : Int) ((7 - k : Nat) : Int) (mPi h 107 32 c') = F_M_defineName_283 (bsN ps : Int) ((ps.getD []).length : Int) ((7 - k : Nat) : Int) 0 h5 ∧ FW (pNr (7 - k)) (qNr (7 - k)) h h5 ∧ mGi h5 130 (7 - k) = 1 ∧ mGl h5 124 (7 - k) = mGl h 123 2 ∧ mGi h5 131 (7 - k) = bI ps.isSome ∧ mGi h5 127 (7 - k) = ((ps.getD []).length : Int) ∧ mGi h5 128 (7 - k) = (b.length : Int) ∧ mGi h5 107 32 = c' := by
    refine ⟨mPi (mPi (mPi (mPl (mPi (mPi h 107 32 c') 130 (7 - k) 1) 124 (7 - k) (mGl h 123 2)) 131 (7 - k) (bI ps.isSome)) 127 (7 - k) ((ps.getD []).length : Int)) 128 (7 - k) (b.length : Int), ?_, FW.pi (FW.pi (FW.pi (FW.pl (FW.pi (FW.pi FW.rf (by unfold pNr; omega)) (by unfold pNr; omega)) (by unfold qNr; omega)) (by unfold pNr; omega)) (by unfold pNr; omega)) (by unfold pNr; omega), ?_, ?_, ?_, ?_, gi_s, ?_⟩
    · unfold F_M_defineName_230
      rw [gd_b (by omega) (by omega), Int.toNat_natCast]
      simp only [sto_e]
      rw [gd_b (by decide) (by decide), gd_t (bI_p _), t2]
      have e29 : ∀ (v : Int64) (a b : Int), mGi (mPi (mPi (mPl (mPi (mPi h 107 32 c') 130 (7 - k) 1) 124 (7 - k) v) 131 (7 - k) a) 127 (7 - k) b) 107 29 = (L.length : Int) := fun v a b => by
        rw [gi_pi, if_neg (by omega), gi_pi, if_neg (by omega), gi_pl, gi_pi, if_neg (by omega), gi_pi, if_neg (by omega)]
        exact y.1
      rw [e29, gd_rg (by omega) (by omega), show (L.length : Int) - (bsN ps : Int) = (b.length : Int) by omega]
      rfl
    · rw [gi_pi, if_neg (by omega), gi_pi, if_neg (by omega), gi_pi, if_neg (by omega), gi_pl, gi_s]
    · rw [gl_pi, gl_pi, gl_pi, gl_pl, if_pos ⟨rfl, rfl⟩]
    · rw [gi_pi, if_neg (by omega), gi_pi, if_neg (by omega), gi_s]
    · rw [gi_pi, if_neg (by omega), gi_s]
    · rw [gi_pi, if_neg (by omega), gi_pi, if_neg (by omega), gi_pi, if_neg (by omega), gi_pl, gi_pi, if_neg (by omega), gi_s]
  obtain ⟨h5, a1, a2, a3, a4, a5, a6, a7, a8⟩ := H5
  have g121 : ∀ j, mGi h5 121 j = mGi h 121 j := fun j => a2.2.2.1 121 j (by unfold pNr; omega)
  have mv : ∀ (v : Int64) (u : Tk), TR h (t.length + 2 + md) v u false → TR h5 (t.length + 2 + md) v u false := fun v u q => q.cg (fun j _ => g121 j) (Nat.le_refl _) hM'
  obtain ⟨h6, b1, b2, b3, b4, b5, b6⟩ := db_l (M := t.length + 2 + md) (i := 7 - k) (b := bsN ps) (ps := ps.getD []) (B := b) (by omega) hb (by omega) p1 (hdD_nd e) wd hM' (fun l hl => hV l (by rw [p2] at hl; exact List.mem_of_mem_drop hl)) b.length 0 FU h5 (by omega) (by unfold FU; omega) a7 (fun i hi => by
      rw [a2.2.2.2 126 i (by unfold qNr; omega)]
      exact mv _ _ (pt i hi)) (fun i u hu => by
      rw [a2.2.2.2 123 (bsN ps + i) (by unfold qNr; omega)]
      rw [p2, List.getElem?_drop] at hu
      exact mv _ _ (y.tc (M := t.length + 2 + md) (by omega) hM' hu)) (fun i u hi => absurd hi (Nat.not_lt_zero _))
  refine ⟨h6, a1.trans b1, z.nmd hk (a2.tr b2) ⟨?_, ?_, ?_, ?_, ?_, BoR.mk b6, by rw [List.length_map]; exact hb⟩ (z.2.2.1.set (fun q hq => ?_)) ?_⟩
  · rw [b3 130 (by omega)]; exact a3
  · rw [b4, a4]
    have g6 : ∀ j, mGi h6 121 j = mGi h 121 j := fun j => (a2.tr b2).2.2.1 121 j (by unfold pNr; omega)
    have q := yw.cg (h' := h6) (fun j _ => g6 j) (Nat.le_refl _) hM'
    have et : ltk w = (1, w.2.1, noH) := by unfold ltk; rw [kw]
    rw [et] at q
    exact q
  · rw [b3 131 (by omega)]; exact a5
  · rw [b3 127 (by omega)]; exact a6
  · rw [b3 128 (by omega), a7, List.length_map]
  · cases hq
    refine ⟨wd, p1, by show (b.map _).length ≤ 12; rw [List.length_map]; exact hb, fun v hv => ?_⟩
    have hv' : v ∈ b.map fun l => (l.1, l.2.1) := hv
    obtain ⟨l, hl, rfl⟩ := List.mem_map.mp hv'
    rw [p2] at hl
    exact hV l (List.mem_of_mem_drop hl)
  · rw [b5, a8, hc]
end Df
