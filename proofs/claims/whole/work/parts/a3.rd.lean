/-! the reference defines names -/
section Rd
variable {h h' : MH} {M M' c E : Nat} {v v' : Int64} {t t' : Tk} {m m' : Bool} {L : List LnT} {nm : Nm}
/-- the parameters at hand -/
def PtR (h : MH) (M : Nat) (ps : List (List Int)) : Prop := ∀ i, i < ps.length → TR h M (mGl h 126 i) (1, ps.getD i [], noH) false
noncomputable def prL (f : Nat) (v1 : Int64) (v3 v4 v5 : Int) (h : MH) : RS Int := itr (fun self (q : Int64 × Int × Int × Int × MH) => F_M_parameterOf_6_b (fun v1 v3 v4 v5 h => self (v1, v3, v4, v5, h)) q.1 q.2.1 q.2.2.1 q.2.2.2.1 q.2.2.2.2) f (v1, v3, v4, v5, h)
theorem prL_s {f : Nat} {v1 : Int64} {v3 v4 v5 : Int} : prL (f + 1) v1 v3 v4 v5 h = F_M_parameterOf_6_b (prL f) v1 v3 v4 v5 h := rfl
theorem pr_l {ps : List (List Int)} (z : PtR h M ps) (h3 : ps.length ≤ 3) (y : TR h M v t m) (k1 : t.1 = 1) : ∀ (q f j : Nat) (fd : Int), j + q = ps.length → q < f → prL f v (ps.length : Int) fd (j : Int) h = some (.inl (laI fd ((List.range' j q).reverse.find? fun i => decide (ps.getD i [] = t.2.1))), h) := by
  have hk : rk t.1 = 1 := by rw [k1]; rfl
  intro q
  induction q with
  | zero =>
    intro f j fd hj hf
    obtain ⟨f, rfl⟩ : ∃ g, f = g + 1 := ⟨f - 1, by omega⟩
    rw [prL_s, F_M_parameterOf_6_b, if_pos (by omega)]
    rfl
  | succ q ih =>
    intro f j fd hj hf
    obtain ⟨f, rfl⟩ : ∃ g, f = g + 1 := ⟨f - 1, by omega⟩
    rw [prL_s, F_M_parameterOf_6_b, if_neg (by omega), mk_e y, bnd_l, hk, if_pos (by decide), gd_b (by omega) (by omega), Int.toNat_natCast, m_same2 (z j (by omega)) y, bnd_l, List.range'_succ, List.reverse_cons, List.find?_append]
    unfold F_M_parameterOf_42
    rw [gd_rg (by omega) (by omega), gd_rg (by omega) (by omega), show (j : Int) + 1 = ((j + 1 : Nat) : Int) by omega]
    have i1 := fun fd => ih f (j + 1) fd (by omega) (by omega)
    show (if (if ps.getD j [] = t.2.1 then (1 : Int) else 0) = 0 then _ else _) = _
    by_cases d : ps.getD j [] = t.2.1
    · rw [if_pos d, if_neg (by decide), i1, List.find?_cons, decide_eq_true d]
      cases (List.range' (j + 1) q).reverse.find? fun i => decide (ps.getD i [] = t.2.1) <;> rfl
    · rw [if_neg d, if_pos rfl, i1, List.find?_cons, decide_eq_false d]
      cases (List.range' (j + 1) q).reverse.find? fun i => decide (ps.getD i [] = t.2.1) <;> rfl
theorem pix_r {ps : List (List Int)} {x : List Int} (nd : ps.Nodup) : laI (-1) ((List.range' 0 ps.length).reverse.find? fun i => decide (ps.getD i [] = x)) = oI (pix ps x) := by
  cases hq : (List.range' 0 ps.length).reverse.find? fun i => decide (ps.getD i [] = x) with
  | none =>
    rw [List.find?_eq_none] at hq
    have : pix ps x = none := by
      unfold pix
      rw [List.findIdx?_eq_none_iff]
      intro p hp
      obtain ⟨i, hi, rfl⟩ := List.getElem_of_mem hp
      have := hq i (by rw [List.mem_reverse, List.mem_range'_1]; omega)
      rw [List.getD_eq_getElem?_getD, List.getElem?_eq_getElem hi] at this
      simpa using this
    rw [this]
    rfl
  | some i =>
    have h1 := List.mem_of_find?_eq_some hq
    have h2 := List.find?_some hq
    rw [List.mem_reverse, List.mem_range'_1] at h1
    have hi : i < ps.length := by omega
    have h2' : ps[i] = x := by
      have := of_decide_eq_true h2
      rw [List.getD_eq_getElem?_getD, List.getElem?_eq_getElem hi] at this
      exact this
    have : pix ps x = some i := by
      unfold pix
      rw [List.findIdx?_eq_some_iff_getElem]
      refine ⟨hi, decide_eq_true h2', fun j hj => ?_⟩
      intro q
      have := of_decide_eq_true q
      have e : ps[j] ≠ ps[i] := (List.pairwise_iff_getElem.mp nd) j i (by omega) hi hj
      exact e (this.trans h2'.symm)
    rw [this]
    rfl
theorem m_par {ps : List (List Int)} (z : PtR h M ps) (h3 : ps.length ≤ 3) (nd : ps.Nodup) (wd : wds ps) (y : TR h M v t m) (w : tkW t) : F_M_parameterOf v (ps.length : Int) h = some (.inl (oI (pix ps t.2.1)), h) := by
  by_cases k1 : t.1 = 1
  · rw [← pix_r nd]
    exact pr_l z h3 y k1 ps.length FU 0 (-1) (by omega) (by unfold FU; omega)
  · have hk : ¬ ((rk t.1 : Nat) : Int) = 1 := fun q => k1 ((rk_i (k := t.1) (j := 1) (by decide) (by decide)).mp (by omega))
    have hn : pix ps t.2.1 = none := by
      cases e : pix ps t.2.1 with
      | none => rfl
      | some j => exact absurd (w.word (wd _ (pix_lt e).2) rfl) k1
    rw [hn]
    show prL (99999999 + 1) v (ps.length : Int) (-1) 0 h = _
    rw [prL_s, F_M_parameterOf_6_b]
    by_cases c : ps.length = 0
    · rw [if_pos (by omega)]; rfl
    · rw [if_neg (by omega), mk_e y, bnd_l, if_neg hk]; rfl
noncomputable def tpL (f : Nat) (v1 : Int) (h : MH) : RS Int := itr (fun self (q : Int × MH) => F_M_takeParameters_14_b (fun v1 h => self (v1, h)) q.1 q.2) f (v1, h)
theorem tpL_s {f : Nat} {v1 : Int} : tpL (f + 1) v1 h = F_M_takeParameters_14_b (tpL f) v1 h := rfl
theorem LnS.fw {P Q : Nat → Nat → Prop} (z : LnS h E L) (f : FW P Q h h') (hP : ∀ b i, P b i → ¬ (b = 107 ∧ i = 29) ∧ ¬ (b = 121 ∧ i < 402)) (hQ : ∀ b i, Q b i → b ≠ 123) : LnS h' E L := ⟨(f.2.2.1 107 29 (fun q => (hP _ _ q).1 ⟨rfl, rfl⟩)).trans z.1, z.2.1, LnR.cg (fun j hj => f.2.2.1 121 j (fun q => (hP _ _ q).2 ⟨rfl, hj⟩)) (fun j _ _ => f.2.2.2 123 j (fun q => hQ _ _ q rfl)) z.2.2.1, z.2.2.2⟩
def noP (_ _ : Nat) : Prop := False
def q126 (b _i : Nat) : Prop := b = 126
def TpR (h : MH) (M : Nat) (x : RS Int) (o : Option (List (List Int) × List LnT)) : Prop := ∃ h', FW noP q126 h h' ∧ (∀ ps r, o = some (ps, r) → x = some (.inl ((4 + 2 * ps.length : Nat) : Int), h') ∧ PtR h' M ps) ∧ (o = none → x = some (.inl (-1), h'))
theorem TpR.up {x : RS Int} {o : Option (List (List Int) × List LnT)} (f : FW noP q126 h h') (z : TpR h' M x o) : TpR h M x o := by
  obtain ⟨h2, a, b⟩ := z
  exact ⟨h2, f.tr a, b⟩
theorem tp_l (hM : E + 2 ≤ M) (hM2 : M ≤ 1302) : ∀ (m c f : Nat) (ps : List (List Int)) (h : MH), m + c = 3 → m + 1 < f → ps.length = c → ps.Nodup → wds ps → LnS h E L → PtR h M ps → TpR h M (tpL f (c : Int) h) (prm m ps (L.drop (4 + 2 * c))) := by
  intro m
  induction m with
  | zero =>
    intro c f ps h hm hf hps nd wd z pt
    obtain ⟨f, rfl⟩ : ∃ g, f = g + 1 := ⟨f - 1, by omega⟩
    rw [tpL_s, F_M_takeParameters_14_b, if_pos (by omega), prm]
    exact ⟨h, FW.rf, fun ps r e => (by cases e), fun _ => rfl⟩
  | succ m ih =>
    intro c f ps h hm hf hps nd wd z pt
    obtain ⟨f, rfl⟩ : ∃ g, f = g + 1 := ⟨f - 1, by omega⟩
    have hl4 := z.2.1
    have bad : TpR h M (some (.inl (-1), h)) none := ⟨h, FW.rf, fun ps r e => (by cases e), fun _ => rfl⟩
    have w0 := wd_r (L := L) (k := 4 + 2 * c) 0 rfl
    have s1 := sg_r (L := L) (k := 4 + 2 * c) 1 44 rfl
    have s2 := sg_r (L := L) (k := 4 + 2 * c) 1 41 rfl
    rw [Nat.add_zero] at w0
    obtain ⟨kk, ek, hk⟩ := ls_kind (p := 4 + 2 * c) z
    rw [tpL_s, F_M_takeParameters_14_b, if_neg (by omega), gd_rg (by omega) (by omega), gd_rg (by omega) (by omega), show (4 : Int) + 2 * (c : Int) = ((4 + 2 * c : Nat) : Int) by omega, ek, bnd_l]
    by_cases d : wdAt L (4 + 2 * c) = true
    · obtain ⟨x, ex, kx⟩ := wdA d
      have hlx := (List.getElem?_eq_some_iff.mp ex).1
      have tx := z.tc hM hM2 ex
      have wx := (z.2.2.2.1 x (List.mem_of_getElem? ex)).1
      have pe := m_par pt (by omega) nd wd tx wx.1
      rw [hps] at pe
      have etx : (ltk x).2.1 = x.2.1 := rfl
      rw [if_pos (hk.mpr d), gd_b (by omega) (by omega), Int.toNat_natCast, pe, bnd_l, etx]
      obtain ⟨R, hR⟩ : ∃ R, L.drop (4 + 2 * c) = x :: R := by
        have := List.drop_eq_getElem_cons (l := L) (i := 4 + 2 * c) hlx
        rw [List.getElem?_eq_getElem hlx] at ex
        cases ex
        exact ⟨_, this⟩
      rw [hR] at s1 s2 ⊢
      by_cases dm : x.2.1 ∈ ps
      · have hp : pix ps x.2.1 ≠ none := fun q => by
          unfold pix at q
          rw [List.findIdx?_eq_none_iff] at q
          exact absurd (q x.2.1 dm) (by simp)
        obtain ⟨j, hj⟩ := Option.ne_none_iff_exists'.mp hp
        rw [hj, if_neg (by show ¬ (j : Int) < 0; omega)]
        have : prm (m + 1) ps (x :: R) = none := by
          cases R with
          | nil => rfl
          | cons y r => rw [prm, if_neg (fun q : x.1 = 1 ∧ x.2.1 ∉ ps => q.2 dm)]
        rw [this]
        exact bad
      · have hp : pix ps x.2.1 = none := by
          cases e : pix ps x.2.1 with
          | none => rfl
          | some j => exact absurd (pix_lt e).2 dm
        rw [hp, if_pos (by show (-1 : Int) < 0; decide), gd_b (by omega) (by omega), Int.toNat_natCast]
        simp only [sto_e]
        have f1 : FW noP q126 h (mPl h 126 c (mGl h 123 (4 + 2 * c))) := FW.pl FW.rf rfl
        have z1 : LnS (mPl h 126 c (mGl h 123 (4 + 2 * c))) E L := z.fw f1 (fun b i q => q.elim) (fun b i (q : b = 126) => by omega)
        have pt1 : PtR (mPl h 126 c (mGl h 123 (4 + 2 * c))) M (ps ++ [x.2.1]) := fun i hi => by
          rw [List.length_append, List.length_singleton] at hi
          by_cases ci : i < c
          · rw [gl_pl, if_neg (by omega), List.getD_eq_getElem?_getD, List.getElem?_append_left (by omega), ← List.getD_eq_getElem?_getD]
            exact (pt i (by omega)).cg (fun j _ => rfl) (Nat.le_refl _) hM2
          · have : i = c := by omega
            subst this
            rw [gl_pl, if_pos ⟨rfl, rfl⟩, List.getD_eq_getElem?_getD, List.getElem?_append_right (by omega), hps, Nat.sub_self]
            have := tx.cg (h' := mPl h 126 i (mGl h 123 (4 + 2 * i))) (fun j _ => rfl) (Nat.le_refl _) hM2
            have et : ltk x = (1, x.2.1, noH) := by unfold ltk; rw [kx]
            rw [et] at this
            exact this
        have hl1 : (ps ++ [x.2.1]).length = c + 1 := by rw [List.length_append, hps]; rfl
        have nd1 : (ps ++ [x.2.1]).Nodup := by
          rw [List.nodup_append]
          refine ⟨nd, List.nodup_cons.mpr ⟨List.not_mem_nil, List.nodup_nil⟩, fun a ha b hb e => ?_⟩
          rw [List.mem_singleton.mp hb] at e
          exact dm (e ▸ ha)
        have wd1 : wds (ps ++ [x.2.1]) := fun p hp => by
          rcases List.mem_append.mp hp with q | q
          · exact wd p q
          · rw [List.mem_singleton.mp q]
            rcases wx.1 with e | ⟨-, -, q⟩
            · exact absurd (congrArg (fun t : Tk => t.2.1) e) wx.2
            · have q' : (x.1 = 1 ∧ cL (x.2.1.getD 0 0) = true) ∨ (x.1 = 2 ∧ _) ∨ (x.1 = 3 ∧ _) ∨ (x.1 = 4 ∧ _) := q
              rcases q' with q | q | q | q
              · exact q.2
              all_goals omega
        rw [gd_rg (by omega) (by omega), show ((4 + 2 * c : Nat) : Int) + 1 = ((4 + 2 * c + 1 : Nat) : Int) by omega, ls_sign z1, bnd_l, s2]
        cases R with
        | nil =>
          have p0 : prm (m + 1) ps [x] = none := rfl
          rw [if_pos (show bI (isSg ((([x] : List LnT).map ltk).getD 1 nTk) 41) = 0 from rfl), ls_sign z1, bnd_l, s1, if_pos (show bI (isSg ((([x] : List LnT).map ltk).getD 1 nTk) 44) = 0 from rfl), p0]
          exact ⟨_, f1, fun ps r e => (by cases e), fun _ => rfl⟩
        | cons y r =>
          have hp1 : prm (m + 1) ps (x :: y :: r) = if isSg (ltk y) 41 = true then some (ps ++ [x.2.1], r) else if isSg (ltk y) 44 = true then prm m (ps ++ [x.2.1]) r else none := by
            rw [prm, if_pos (show x.1 = 1 ∧ x.2.1 ∉ ps from ⟨kx, dm⟩)]
          rw [hp1]
          show TpR h M (if bI (isSg (ltk y) 41) = 0 then _ else _) _
          by_cases e41 : isSg (ltk y) 41 = true
          · rw [e41, if_neg (show ¬ bI true = 0 by decide), if_pos rfl, gd_rg (by omega) (by omega)]
            refine ⟨_, f1, fun ps' r' e => ?_, fun e => (by cases e)⟩
            cases e
            refine ⟨?_, pt1⟩
            rw [hl1, show ((4 + 2 * c : Nat) : Int) + 2 = ((4 + 2 * (c + 1) : Nat) : Int) by omega]
          · rw [Bool.eq_false_iff.mpr e41, if_pos (show bI false = 0 from rfl), if_neg (by decide), ls_sign z1, bnd_l, s1]
            show TpR h M (if bI (isSg (ltk y) 44) = 0 then _ else _) _
            by_cases e44 : isSg (ltk y) 44 = true
            · rw [e44, if_neg (show ¬ bI true = 0 by decide), if_pos rfl, gd_rg (by omega) (by omega), show (c : Int) + 1 = ((c + 1 : Nat) : Int) by omega]
              have hdr : L.drop (4 + 2 * (c + 1)) = r := by
                rw [show 4 + 2 * (c + 1) = 4 + 2 * c + 2 by omega, ← List.drop_drop, hR]
                rfl
              have i := ih (c + 1) f (ps ++ [x.2.1]) (mPl h 126 c (mGl h 123 (4 + 2 * c))) (by omega) (by omega) hl1 nd1 wd1 z1 pt1
              rw [hdr] at i
              exact i.up f1
            · rw [Bool.eq_false_iff.mpr e44, if_pos (show bI false = 0 from rfl), if_neg (by decide)]
              exact ⟨_, f1, fun ps r e => (by cases e), fun _ => rfl⟩
    · rw [if_neg (fun q => d (hk.mp q))]
      have : prm (m + 1) ps (L.drop (4 + 2 * c)) = none := by
        match hR : L.drop (4 + 2 * c), w0 with
        | [], _ => rfl
        | [x], _ => rfl
        | x :: y :: r, w0 =>
          have : ¬ x.1 = 1 := fun q => d (by rw [w0]; exact decide_eq_true q)
          rw [prm, if_neg (fun q : x.1 = 1 ∧ x.2.1 ∉ ps => this q.1)]
      rw [this]
      exact bad
/-! the definition is written down -/
def pNr (i b j : Nat) : Prop := (b = 107 ∧ j = 32) ∨ ((b = 127 ∨ b = 128 ∨ b = 130 ∨ b = 131) ∧ j = i) ∨ (b = 129 ∧ 12 * i ≤ j ∧ j < 12 * i + 12)
def qNr (i b j : Nat) : Prop := (b = 124 ∧ j = i) ∨ (b = 125 ∧ 12 * i ≤ j ∧ j < 12 * i + 12)
noncomputable def dbL (f : Nat) (v2 v3 v4 v5 : Int) (h : MH) : RS Unit := itr (fun self (q : Int × Int × Int × Int × MH) => F_M_defineName_283_b (fun v2 v3 v4 v5 h => self (v2, v3, v4, v5, h)) q.1 q.2.1 q.2.2.1 q.2.2.2.1 q.2.2.2.2) f (v2, v3, v4, v5, h)
theorem dbL_s {f : Nat} {v2 v3 v4 v5 : Int} : dbL (f + 1) v2 v3 v4 v5 h = F_M_defineName_283_b (dbL f) v2 v3 v4 v5 h := rfl
theorem db_l {i b : Nat} {ps : List (List Int)} {B : List LnT} (hi : i < 8) (hB : B.length ≤ 12) (hb : b + B.length ≤ 400) (h3 : ps.length ≤ 3) (nd : ps.Nodup) (wd : wds ps) (hM2 : M ≤ 1302) (hW : ∀ l ∈ B, lnV l) : ∀ (q j f : Nat) (h : MH), j + q = B.length → q < f → mGi h 128 i = (B.length : Int) → PtR h M ps → (∀ k x, B[k]? = some x → TR h M (mGl h 123 (b + k)) (ltk x) false) → (∀ k x, k < j → B[k]? = some x → TR h M (mGl h 125 (12 * i + k)) (ltk x) false ∧ mGi h 129 (12 * i + k) = oI (pix ps x.2.1)) →
    ∃ h', dbL f (b : Int) (ps.length : Int) (i : Int) (j : Int) h = some (.inl (), h') ∧ FW (pNr i) (qNr i) h h' ∧ (∀ b, b = 127 ∨ b = 128 ∨ b = 130 ∨ b = 131 → mGi h' b i = mGi h b i) ∧ mGl h' 124 i = mGl h 124 i ∧ mGi h' 107 32 = mGi h 107 32 ∧ ∀ k x, B[k]? = some x → TR h' M (mGl h' 125 (12 * i + k)) (ltk x) false ∧ mGi h' 129 (12 * i + k) = oI (pix ps x.2.1) := by
  intro q
  induction q with
  | zero =>
    intro j f h hj hf e8 pt ln dn
    obtain ⟨f, rfl⟩ : ∃ g, f = g + 1 := ⟨f - 1, by omega⟩
    refine ⟨h, ?_, FW.rf, fun _ _ => rfl, rfl, rfl, fun k x hk => dn k x (by have := (List.getElem?_eq_some_iff.mp hk).1; omega) hk⟩
    rw [dbL_s, F_M_defineName_283_b, gd_b (by omega) (by omega), Int.toNat_natCast, e8, if_pos (by omega)]
  | succ q ih =>
    intro j f h hj hf e8 pt ln dn
    obtain ⟨f, rfl⟩ : ∃ g, f = g + 1 := ⟨f - 1, by omega⟩
    have ej := List.getElem?_eq_getElem (l := B) (i := j) (by omega)
    have tj := ln j B[j] ej
    have wj := hW B[j] (List.getElem_mem _)
    have f1 : FW (pNr i) (qNr i) h (mPl h 125 (12 * i + j) (mGl h 123 (b + j))) := FW.pl FW.rf (by unfold qNr; omega)
    have cg1 : ∀ (v : Int64) (t : Tk), TR h M v t false → TR (mPl h 125 (12 * i + j) (mGl h 123 (b + j))) M v t false := fun v t y => y.cg (fun _ _ => rfl) (Nat.le_refl _) hM2
    have pt1 : PtR (mPl h 125 (12 * i + j) (mGl h 123 (b + j))) M ps := fun k hk => by rw [gl_pl, if_neg (by omega)]; exact cg1 _ _ (pt k hk)
    have pe := m_par (h := mPl h 125 (12 * i + j) (mGl h 123 (b + j))) pt1 h3 nd wd (cg1 _ _ tj) wj.1
    have f2 : FW (pNr i) (qNr i) h (mPi (mPl h 125 (12 * i + j) (mGl h 123 (b + j))) 129 (12 * i + j) (oI (pix ps B[j].2.1))) := FW.pi f1 (by unfold pNr; omega)
    have cg2 : ∀ (v : Int64) (t : Tk), TR h M v t false → TR (mPi (mPl h 125 (12 * i + j) (mGl h 123 (b + j))) 129 (12 * i + j) (oI (pix ps B[j].2.1))) M v t false := fun v t y => y.cg (fun k _ => by rw [gi_pi, if_neg (by omega), gi_pl]) (Nat.le_refl _) hM2
    obtain ⟨h3, a1, a2, a3, a4, a5, a6⟩ := ih (j + 1) f (mPi (mPl h 125 (12 * i + j) (mGl h 123 (b + j))) 129 (12 * i + j) (oI (pix ps B[j].2.1))) (by omega) (by omega) (by rw [gi_pi, if_neg (by omega), gi_pl]; exact e8) (fun k hk => by rw [gl_pi, gl_pl, if_neg (by omega)]; exact cg2 _ _ (pt k hk)) (fun k x hk => by rw [gl_pi, gl_pl, if_neg (by omega)]; exact cg2 _ _ (ln k x hk)) (fun k x hkj hk => by
      by_cases ck : k = j
      · subst ck
        rw [ej] at hk
        cases hk
        refine ⟨?_, gi_s⟩
        rw [gl_pi, gl_pl, if_pos ⟨rfl, rfl⟩]
        exact cg2 _ _ tj
      · have q := dn k x (by omega) hk
        refine ⟨?_, ?_⟩
        · rw [gl_pi, gl_pl, if_neg (by omega)]
          exact cg2 _ _ q.1
        · rw [gi_pi, if_neg (by omega), gi_pl]
          exact q.2)
    refine ⟨h3, ?_, f2.tr a2, fun b hb => ?_, ?_, ?_, a6⟩
    · rw [dbL_s, F_M_defineName_283_b, gd_b (by omega) (by omega), Int.toNat_natCast, e8, if_neg (by omega), gd_rg (by omega) (by omega), gd_rg (by omega) (by omega), gd_rg (by omega) (by omega), gd_b (by omega) (by omega), gd_b (by omega) (by omega), show ((12 : Int) * (i : Int) + (j : Int)).toNat = 12 * i + j by omega, show ((b : Int) + (j : Int)).toNat = b + j by omega]
      simp only [sto_e]
      have e123 : mGl (mPl h 125 (12 * i + j) (mGl h 123 (b + j))) 123 (b + j) = mGl h 123 (b + j) := by rw [gl_pl, if_neg (by omega)]
      rw [e123, pe, bnd_l, gd_rg (by omega) (by omega), show (j : Int) + 1 = ((j + 1 : Nat) : Int) by omega]
      exact a1
    · rw [a3 b hb, gi_pi, if_neg (by omega), gi_pl]
    · rw [a4, gl_pi, gl_pl, if_neg (by omega)]
    · rw [a5, gi_pi, if_neg (by omega), gi_pl]
end Rd
