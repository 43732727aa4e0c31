/-! the reference's orders, lines -/
section Or
variable {B h h' : MH} {M E : Nat} {t x : List Int} {s : S2} {nm : Nm} {P Q : Nat → Nat → Prop} {L : List LnT} {lv : List (Bool × Bool × Bool)} {res : List Int} {rp md rp' md' : Nat} {T why : Nat}
theorem m_dfo (z : RQ B t h s) (y : LnS h E L) (hE : E ≤ t.length) : RQO B t (F_M_defineName h) (defL L s) := by
  obtain ⟨nm, lv, res, rp, md⟩ := s
  have hM := z.2.1.mx
  have hM' : t.length + 2 + md ≤ 1302 := hM
  obtain ⟨v2, h1, e0, f1, v2a, v2b, k1, k2⟩ := m_hd (M := t.length + 2 + md) (by omega) hM' y
  have z1 : RQ B t h1 (nm, lv, res, rp, md) := z.fw f1 (fun b i q => q.elim) (fun b i q => .inr (.inl q))
  have y1 : LnS h1 E L := y.fw f1 (fun b i q => q.elim) (fun b i (q : b = 126) => by omega)
  have hl4 := y.2.1
  have ct : mGi h1 107 32 = ctN nm := z1.2.2.2.2.2.1
  have cr := ctN_r (nm := nm)
  obtain ⟨kk, ek, hk⟩ := ls_kind (p := 2) y1
  have ek' : F_M_kindAt 2 h1 = some (.inl kk, h1) := ek
  have t2 : ((2 : Int)).toNat = 2 := rfl
  -- the number of parameters
  have e1 : ∃ v3 : Int, F_M_defineName_59 (bI (brB L)) v2 h1 = F_M_defineName_73 (bI (brB L)) v2 v3 h1 ∧ ∀ ps b, hdD L = some (ps, b) → v3 = ((ps.getD []).length : Int) := by
    unfold F_M_defineName_59
    by_cases c : brB L = true
    · rw [c, if_neg (show ¬ bI true = 0 by decide), gd_rg (by omega) (by omega)]
      refine ⟨_, rfl, fun ps b e => ?_⟩
      obtain ⟨q1, q2, -⟩ := k1 ps b e
      rw [c] at q2
      cases ps with
      | none => cases q2
      | some l =>
        rw [q1]
        cases l with
        | nil => rfl
        | cons a l =>
          have eb : bsN (some (a :: l)) = 4 + 2 * (l.length + 1) := rfl
          have el : (((some (a :: l)).getD []).length : Int) = ((l.length + 1 : Nat) : Int) := rfl
          rw [eb, el, show ((4 + 2 * (l.length + 1) : Nat) : Int) - 4 = ((l.length + 1 : Nat) : Int) * 2 by omega]
          exact Int.mul_tdiv_cancel _ (by decide)
    · rw [Bool.eq_false_iff.mpr c, if_pos (show bI false = 0 from rfl)]
      refine ⟨0, rfl, fun ps b e => ?_⟩
      obtain ⟨-, q2, -⟩ := k1 ps b e
      rw [Bool.eq_false_iff.mpr c] at q2
      cases ps with
      | none => rfl
      | some l => cases q2
  obtain ⟨v3, e1, k3⟩ := e1
  rw [e0, e1]
  have bad : ∀ v4 : Int, RQO B t (F_M_defineName_117 (bI (brB L)) v2 v3 v4 h1) ((nm, lv, res, rp, md), 6) := fun v4 => by
    unfold F_M_defineName_117 F_M_defineName_118
    rw [gd_01a, need_0 z1.er (by decide), bnd_l, if_pos rfl]
    exact RQO.bad1 (why := 6) z1 (by decide)
  unfold F_M_defineName_73 F_M_defineName_97 defL
  rw [ek', bnd_l]
  by_cases cw : wdAt L 2 = true
  · rw [if_pos (hk.mpr cw), if_pos cw]
    obtain ⟨w, ew, kw⟩ := wdA cw
    have yw := y1.tc (M := t.length + 2 + md) (by omega) hM' ew
    have en := m_nameOf z1.2.1.1 yw
    have ek1 : (ltk w).1 = 1 := kw
    have et : (ltk w).2.1 = w.2.1 := rfl
    rw [if_pos ek1, et] at en
    rw [gd_b (by decide) (by decide), t2, en, bnd_l, ek', bnd_l, if_pos (hk.mpr cw)]
    cases eh : hdD L with
    | none =>
      rw [if_pos (by rw [k2 eh]; decide)]
      exact bad _
    | some q =>
      obtain ⟨ps, b⟩ := q
      obtain ⟨q1, q2, q3⟩ := k1 ps b eh
      have q4 := k3 ps b eh
      subst q1 q4
      have hl3 := (List.getElem?_eq_some_iff.mp ew).1
      obtain ⟨p1, p2, p3, p4⟩ := hdD_s (by omega) eh
      have hbl : b.length = L.length - bsN ps := by rw [p2, List.length_drop]
      rw [if_neg (by omega), txA ew, q2]
      dsimp only
      -- no room
      have full : ∀ v4 : Int, RQO B t (F_M_defineName_156 (bI ps.isSome) (bsN ps : Int) ((ps.getD []).length : Int) v4 h1) ((nm, lv, res, rp, md), 1) := fun v4 => by
        unfold F_M_defineName_156 F_M_defineName_157
        rw [gd_01a, need_0 z1.er (by decide), bnd_l, if_pos rfl]
        exact RQO.bad1 (why := 1) z1 (by decide)
      unfold F_M_defineName_118
      rw [gd_01b, need_1 z1.er, bnd_l, if_neg (by decide), y1.1, gd_rg (by omega) (by omega), show (L.length : Int) - (bsN ps : Int) = (b.length : Int) by omega, ct]
      cases hfn : fnd nm w.2.1 with
      | some k =>
        obtain ⟨hk8, q, hq, -⟩ := fnd_s hfn
        have eo : oJ (some k) = ((7 - k : Nat) : Int) := rfl
        dsimp only
        by_cases c12 : 12 < b.length
        · rw [if_pos (by omega), if_pos c12]
          exact full _
        rw [if_neg (by omega), if_neg c12, eo, if_pos (by omega)]
        unfold F_M_defineName_152 F_M_defineName_157
        rw [gd_01b, need_1 z1.er, bnd_l, if_neg (by decide), if_pos (by omega)]
        unfold F_M_defineName_180
        rw [ct, gd_rg (by omega) (by omega), sto_e]
        have hc : ctN nm + 0 = ctN (setN nm k (some (w.2.1, ps, b.map fun l => (l.1, l.2.1)))) := by
          have b1 : bN (some q) = 1 := rfl
          have b2 : bN (some ((w.2.1, ps, b.map fun l => (l.1, l.2.1)) : NmD)) = 1 := rfl
          rw [ctN_s hk8, hq, b1, b2]
          omega
        have cp : 0 < ctN nm := by
          have b1 : bN (some q) = 1 := rfl
          have b0 : bN none = 0 := rfl
          have a := ctN_s (nm := nm) (k := k) (v := none) hk8
          have a2 := ctN_r (nm := setN nm k none)
          rw [hq, b1, b0] at a
          omega
        have A := dn_p (h := mPi h1 107 32 (ctN nm + 0)) (v1 := bI ps.isSome) (v2 := (bsN ps : Int)) (v3 := ((ps.getD []).length : Int)) (by rw [gi_s]; omega) 8 FU (7 - k) (Nat.le_refl _) (by unfold FU; omega)
        have A' : F_M_defineName_188 (bI ps.isSome) (bsN ps : Int) ((ps.getD []).length : Int) ((7 - k : Nat) : Int) 7 (mPi h1 107 32 (ctN nm + 0)) = _ := A
        rw [A']
        obtain ⟨h2, a1, a2⟩ := m_230 z1 y1 hE hk8 ew kw eh (by omega) q3 hc
        rw [a1]
        exact RQO.ok a2
      | none =>
        have eo : oJ none = -1 := rfl
        dsimp only
        by_cases c12 : 12 < b.length
        · rw [if_pos (by omega)]
          cases hfr : fre nm with
          | none => exact full _
          | some k => dsimp only; rw [if_pos c12]; exact full _
        rw [if_neg (by omega), eo, if_neg (by decide)]
        by_cases c8 : ctN nm < 8
        · rw [if_neg (by omega)]
          cases hfr : fre nm with
          | none => exact absurd c8 (fre_ct.mp hfr)
          | some k =>
            have hk8 := fre_s hfr
            dsimp only
            rw [if_neg c12]
            unfold F_M_defineName_152 F_M_defineName_157
            rw [gd_01b, need_1 z1.er, bnd_l, if_neg (by decide), if_neg (by decide)]
            unfold F_M_defineName_180
            rw [ct, gd_rg (by omega) (by omega), sto_e]
            have hnk : nm k = none := by
              have := List.find?_some hfr
              cases d : nm k with
              | none => rfl
              | some d' => rw [d] at this; cases this
            have hc : ctN nm + 1 = ctN (setN nm k (some (w.2.1, ps, b.map fun l => (l.1, l.2.1)))) := by
              have b0 : bN none = 0 := rfl
              have b2 : bN (some ((w.2.1, ps, b.map fun l => (l.1, l.2.1)) : NmD)) = 1 := rfl
              rw [ctN_s hk8, hnk, b0, b2]
              omega
            have A := dn_l (h := mPi h1 107 32 (ctN nm + 1)) (nm := nm) (v1 := bI ps.isSome) (v2 := (bsN ps : Int)) (v3 := ((ps.getD []).length : Int)) (by rw [gi_s]; omega) (fun j hj => by rw [gi_pi, if_neg (by omega)]; exact z1.2.1.1.z0 j hj) 8 FU (Nat.le_refl _) (by unfold FU; omega)
            have A' : F_M_defineName_188 (bI ps.isSome) (bsN ps : Int) ((ps.getD []).length : Int) (-1) 7 (mPi h1 107 32 (ctN nm + 1)) = _ := A
            have fp := fnd_p (p := fun k => (nm k).isNone)
            have hfr' : (List.range 8).find? (fun k => (nm k).isNone) = some k := hfr
            rw [hfr'] at fp
            have fp' : laI (-1) ((List.range' 0 8).reverse.find? fun i => (nm (7 - i)).isNone) = ((7 - k : Nat) : Int) := fp
            rw [A', fp']
            obtain ⟨h2, a1, a2⟩ := m_230 z1 y1 hE hk8 ew kw eh (by omega) q3 hc
            rw [a1]
            exact RQO.ok a2
        · rw [if_pos (by omega), fre_ct.mpr c8]
          exact full _
  · rw [if_neg (fun q => cw (hk.mp q)), ek', bnd_l, if_neg (fun q => cw (hk.mp q)), if_neg cw]
    exact bad _
/-! the words of orders -/
theorem by1 : byW 111524889126244 (strL 1) := by
  refine ⟨by decide, by decide, fun j hj => ?_⟩
  have : j = 0 ∨ j = 1 ∨ j = 2 ∨ j = 3 ∨ j = 4 ∨ j = 5 ∨ j = 6 ∨ j = 7 := by omega
  rcases this with rfl | rfl | rfl | rfl | rfl | rfl | rfl | rfl <;> decide +kernel
theorem by4 : byW 439787742825 (strL 4) := by
  refine ⟨by decide, by decide, fun j hj => ?_⟩
  have : j = 0 ∨ j = 1 ∨ j = 2 ∨ j = 3 ∨ j = 4 ∨ j = 5 ∨ j = 6 ∨ j = 7 := by omega
  rcases this with rfl | rfl | rfl | rfl | rfl | rfl | rfl | rfl <;> decide +kernel
theorem by9 : byW 26217 (strL 9) := by
  refine ⟨by decide, by decide, fun j hj => ?_⟩
  have : j = 0 ∨ j = 1 ∨ j = 2 ∨ j = 3 ∨ j = 4 ∨ j = 5 ∨ j = 6 ∨ j = 7 := by omega
  rcases this with rfl | rfl | rfl | rfl | rfl | rfl | rfl | rfl <;> decide +kernel
theorem by10 : byW 112585662686825 (strL 10) := by
  refine ⟨by decide, by decide, fun j hj => ?_⟩
  have : j = 0 ∨ j = 1 ∨ j = 2 ∨ j = 3 ∨ j = 4 ∨ j = 5 ∨ j = 6 ∨ j = 7 := by omega
  rcases this with rfl | rfl | rfl | rfl | rfl | rfl | rfl | rfl <;> decide +kernel
theorem by11 : byW 1702063205 (strL 11) := by
  refine ⟨by decide, by decide, fun j hj => ?_⟩
  have : j = 0 ∨ j = 1 ∨ j = 2 ∨ j = 3 ∨ j = 4 ∨ j = 5 ∨ j = 6 ∨ j = 7 := by omega
  rcases this with rfl | rfl | rfl | rfl | rfl | rfl | rfl | rfl <;> decide +kernel
theorem by12 : byW 439854853733 (strL 12) := by
  refine ⟨by decide, by decide, fun j hj => ?_⟩
  have : j = 0 ∨ j = 1 ∨ j = 2 ∨ j = 3 ∨ j = 4 ∨ j = 5 ∨ j = 6 ∨ j = 7 := by omega
  rcases this with rfl | rfl | rfl | rfl | rfl | rfl | rfl | rfl <;> decide +kernel
theorem by14 : byW 439787744885 (strL 14) := by
  refine ⟨by decide, by decide, fun j hj => ?_⟩
  have : j = 0 ∨ j = 1 ∨ j = 2 ∨ j = 3 ∨ j = 4 ∨ j = 5 ∨ j = 6 ∨ j = 7 := by omega
  rcases this with rfl | rfl | rfl | rfl | rfl | rfl | rfl | rfl <;> decide +kernel
theorem is_00 {w : Int64} : F_M_is 0 w h = some (.inl 0, h) := by
  unfold F_M_is F_M_is_21 F_M_is_22 F_M_kindOf
  rw [bnd_l, if_neg (by decide)]
  show isL2 (99999999 + 1) 0 w 0 0 h = _
  exact is0
theorem RQO.bd {x : RS Unit} {q : S2 × Nat} (z : RQO B t x q) : RQO B t (bnd x fun _ h => some (.inl (), h)) q := by
  refine ⟨fun e => ?_, fun e => ?_⟩
  · obtain ⟨h', a, b⟩ := z.1 e
    exact ⟨h', by rw [a, bnd_l], b⟩
  · obtain ⟨h', a, b⟩ := z.2 e
    exact ⟨h', by rw [a, bnd_l], b⟩
theorem m_order (z : RQ B t h s) (y : LnS h E L) (hE : E ≤ t.length) : RQO B t (F_M_orderLine h) (ordL L s) := by
  have act := m_act z
  have hM := z.2.1.mx
  have hM' : t.length + 2 + s.2.2.2.2 ≤ 1302 := hM
  have hl4 := y.2.1
  have st : ∃ v, F_M_orderLine h = F_M_orderLine_18 v h ∧ ∀ k w, byW w (strL k) → F_M_is v w h = some (.inl (bI (isO L k)), h) := by
    unfold F_M_orderLine
    rw [y.1]
    by_cases c : L.length ≤ 1
    · rw [if_pos (by omega)]
      refine ⟨0, rfl, fun k w _ => ?_⟩
      have : isO L k = false := by unfold isO wdAt; rw [List.getElem?_eq_none c]; rfl
      rw [this]
      exact is_00
    · rw [if_neg (by omega), gd_b (by decide) (by decide), show ((1 : Int)).toNat = 1 from rfl]
      refine ⟨_, rfl, fun k w W => ?_⟩
      have e1 := List.getElem?_eq_getElem (l := L) (i := 1) (by omega)
      have w1 := (y.2.2.2.1 _ (List.mem_of_getElem? e1)).1
      rw [m_is2 W (y.tc (M := 402) (by have := y.2.2.2.2; omega) (by decide) e1) w1.1]
      have : isO L k = decide ((ltk L[1]).1 = 1 ∧ (ltk L[1]).2.1 = strL k) := by
        unfold isO wdAt txAt
        rw [e1]
        show (decide (L[1].1 = 1) && decide (L[1].2.1 = strL k)) = decide (L[1].1 = 1 ∧ L[1].2.1 = strL k)
        by_cases c1 : L[1].1 = 1 <;> by_cases c2 : L[1].2.1 = strL k <;> simp [c1, c2]
      rw [this]
  obtain ⟨v, e0, is⟩ := st
  have hl2 : ∀ k, isO L k = true → 2 ≤ L.length := fun k e => by
    unfold isO wdAt at e
    by_cases c : 2 ≤ L.length
    · exact c
    · rw [List.getElem?_eq_none (by omega)] at e; cases e
  rw [e0]
  unfold F_M_orderLine_18 ordL
  rw [is 9 _ by9, bnd_l]
  by_cases c9 : isO L 9 = true
  · rw [c9, if_neg (show ¬ bI true = 0 by decide), if_pos rfl]
    exact (m_if z y hE (hl2 9 c9)).bd
  rw [Bool.eq_false_iff.mpr c9, if_pos (show bI false = 0 from rfl), if_neg (show ¬ false = true by decide), is 4 _ by4, bnd_l]
  by_cases c4 : isO L 4 = true
  · rw [c4, if_neg (show ¬ bI true = 0 by decide), if_pos rfl]
    exact (m_ifd (how := true) z y hE).bd
  rw [Bool.eq_false_iff.mpr c4, if_pos (show bI false = 0 from rfl), if_neg (show ¬ false = true by decide), is 10 _ by10, bnd_l]
  by_cases c10 : isO L 10 = true
  · rw [c10, if_neg (show ¬ bI true = 0 by decide), if_pos rfl]
    exact (m_ifd (how := false) z y hE).bd
  rw [Bool.eq_false_iff.mpr c10, if_pos (show bI false = 0 from rfl), if_neg (show ¬ false = true by decide), is 11 _ by11, bnd_l]
  by_cases c11 : isO L 11 = true
  · rw [c11, if_neg (show ¬ bI true = 0 by decide), if_pos rfl]
    exact (m_turn z y).bd
  rw [Bool.eq_false_iff.mpr c11, if_pos (show bI false = 0 from rfl), if_neg (show ¬ false = true by decide), is 12 _ by12, bnd_l]
  by_cases c12 : isO L 12 = true
  · rw [c12, if_neg (show ¬ bI true = 0 by decide), if_pos rfl]
    exact (m_fin z y).bd
  rw [Bool.eq_false_iff.mpr c12, if_pos (show bI false = 0 from rfl), if_neg (show ¬ false = true by decide), is 1 _ by1, bnd_l]
  have e164 : RQO B t (F_M_orderLine_164 h) (if actv s.2.1 = true ∧ 1 < L.length then (s, 6) else (s, 0)) := by
    unfold F_M_orderLine_164
    rw [act, bnd_l, y.1]
    by_cases ca : actv s.2.1 = true
    · rw [if_neg (show ¬ bI (actv s.2.1) = 0 by rw [ca]; decide)]
      by_cases cl : 1 < L.length
      · rw [if_neg (by omega), if_pos ⟨ca, cl⟩]
        unfold F_M_fail F_M_fail_16
        rw [z.er, if_pos rfl, sto_e, bnd_l]
        exact RQO.bad1 (why := 6) z (by decide)
      · rw [if_pos (by omega), if_neg (fun q => cl q.2)]
        exact RQO.ok z
    · rw [if_pos (show bI (actv s.2.1) = 0 by rw [Bool.eq_false_iff.mpr ca]; rfl), if_neg (fun q => ca q.1)]
      exact RQO.ok z
  have e139 : RQO B t (F_M_orderLine_139 v h) (if isO L 14 = true ∧ actv s.2.1 = true then undL L s else if actv s.2.1 = true ∧ 1 < L.length then (s, 6) else (s, 0)) := by
    unfold F_M_orderLine_139
    rw [is 14 _ by14, bnd_l, act]
    by_cases c14 : isO L 14 = true
    · rw [c14, if_neg (show ¬ bI true = 0 by decide), bnd_l]
      by_cases ca : actv s.2.1 = true
      · rw [if_neg (show ¬ bI (actv s.2.1) = 0 by rw [ca]; decide), if_pos ⟨rfl, ca⟩]
        exact (m_und z y hE).bd
      · rw [if_pos (show bI (actv s.2.1) = 0 by rw [Bool.eq_false_iff.mpr ca]; rfl), if_neg (fun q => ca q.2)]
        exact e164
    · rw [Bool.eq_false_iff.mpr c14, if_pos (show bI false = 0 from rfl), if_neg (fun q => absurd q.1 (by decide))]
      exact e164
  by_cases c1 : isO L 1 = true
  · rw [c1, if_neg (show ¬ bI true = 0 by decide), act, bnd_l]
    by_cases ca : actv s.2.1 = true
    · rw [if_neg (show ¬ bI (actv s.2.1) = 0 by rw [ca]; decide), if_pos ⟨rfl, ca⟩]
      exact (m_dfo z y hE).bd
    · rw [if_pos (show bI (actv s.2.1) = 0 by rw [Bool.eq_false_iff.mpr ca]; rfl), if_neg (fun q => ca q.2)]
      exact e139
  · rw [Bool.eq_false_iff.mpr c1, if_pos (show bI false = 0 from rfl), if_neg (fun q => absurd q.1 (by decide))]
    exact e139
/-! a line -/
theorem m_line {p : Nat} (z : RQ B t h s) (hp : p + x.length ≤ t.length) (ht : t.length ≤ 400) (sx : Seg h 121 (p + 2) x) (ok : ∀ c ∈ x, lgl c) : RQO B t (F_M_mill ((p + 2 : Nat) : Int) ((p + x.length + 2 : Nat) : Int) h) (lineL (cutL (x.length + 1) p x) s) := by
  obtain ⟨h1, a1, a2, a3⟩ := m_cut (p := p) (by omega) sx ok
  have z1 : RQ B t h1 s := z.fw a2 (fun b i q => by unfold pTl at q; omega) (fun b i q => .inl q)
  unfold F_M_mill
  rw [a1, bnd_l]
  generalize cutL (x.length + 1) p x = L at *
  have s0 := ls_sign (p := 0) (c := 35) a3
  have s0' : F_M_isSignAt 0 35 h1 = some (.inl (bI (sgAt L 0 35)), h1) := s0
  have act := m_act z1
  obtain ⟨nm, lv, res, rp, md⟩ := s
  have act' : F_M_isActive h1 = some (.inl (bI (actv lv)), h1) := act
  have hM := z1.2.1.mx
  have hM' : t.length + 2 + md ≤ 1302 := hM
  have hl4 := a3.2.1
  rw [s0', bnd_l]
  unfold lineL
  dsimp only
  by_cases c : sgAt L 0 35 = true
  · rw [c, if_neg (show ¬ bI true = 0 by decide), if_pos rfl]
    exact (m_order z1 a3 hp).bd
  rw [Bool.eq_false_iff.mpr c, if_pos (show bI false = 0 from rfl), if_neg (show ¬ false = true by decide), act', bnd_l]
  by_cases ca : actv lv = true
  · rw [if_neg (show ¬ bI (actv lv) = 0 by rw [ca]; decide), if_pos ca, a3.1]
    have hlm : (L.map ltk).length = L.length := List.length_map _
    have rs : RSg h1 (t.length + 2 + md) 123 0 (um (L.map ltk)) := RSg.mk (fun j u hu => by
      unfold um at hu
      rw [List.map_map, List.getElem?_map] at hu
      cases e : L[j]? with
      | none => rw [e] at hu; cases hu
      | some l =>
        rw [e] at hu
        cases hu
        rw [Nat.zero_add]
        exact a3.tc (by omega) hM' e)
    obtain ⟨x1, x2⟩ := m_expand (p := 0) (w := L.map ltk) z1.2.2.1 z1.2.1 (by rw [hlm]; omega) rs (fun u hu => by
      obtain ⟨l, hl, rfl⟩ := List.mem_map.mp hu
      exact (a3.2.2.2.1 l hl).1.1)
    rw [hlm, Nat.zero_add] at x1 x2
    have i0 : (((0 : Nat) : Int)) = 0 := rfl
    rw [i0] at x1 x2
    generalize rowT nm rp md (L.map ltk) = S at *
    by_cases c0 : S.1 ≠ 0
    · rw [if_pos c0]
      obtain ⟨h2, b1, b2⟩ := x2 c0
      rw [b1, bnd_l, if_neg (by rw [b2.2.1]; omega)]
      exact ⟨fun q => absurd q c0, fun _ => ⟨h2, rfl, z1.exbad b2⟩⟩
    · have c0' : S.1 = 0 := Classical.byContradiction c0
      rw [if_neg c0]
      obtain ⟨h2, b1, b2, b3, b4, b5, b6⟩ := x1 c0'
      have z2 : RQ B t h2 (nm, lv, res, S.2.1, S.2.2.1) := z1.ex b2 b4
      rw [b1, bnd_l, z2.er, if_pos rfl]
      exact (m_wline z2 b5 (fun u hu => (b6 u hu).ok)).bd
  · rw [if_pos (show bI (actv lv) = 0 by rw [Bool.eq_false_iff.mpr ca]; rfl), if_neg ca]
    exact RQO.ok z1
end Or
