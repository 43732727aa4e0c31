/-! the class's second mill: levels and names -/
section Sm3
variable {B h h' h0 : MH} {k0 md md' rp rp' : Nat} {tx : List Int} {n : Int} {s : S2} {P Q : Nat → Nat → Prop} {L : List LnT} {nm : Nm} {lv : List (Bool × Bool × Bool)} {res : List Int}
theorem SO.ok (z : SC B k0 tx n h s) : SO B k0 tx n (some (.inl (), h)) (s, 0) := ⟨fun _ => ⟨h, rfl, z⟩, fun q => absurd rfl q⟩
theorem SO.bd {x : RS Unit} {q : S2 × Nat} (z : SO B k0 tx n x q) : SO B k0 tx n (bnd x fun _ h => some (.inl (), h)) q := by
  refine ⟨fun e => ?_, fun e => ?_⟩
  · obtain ⟨h', a, b⟩ := z.1 e
    exact ⟨h', by rw [a, bnd_l], b⟩
  · obtain ⟨h', a, b⟩ := z.2 e
    exact ⟨h', by rw [a, bnd_r], b⟩
/-- a step that may fail, and what comes behind it -/
theorem SO.th {x : RS Unit} {q q' : S2 × Nat} {K : MH → RS Unit} (z : SO B k0 tx n x q) (h1 : q.2 = 0 → ∀ h', SC B k0 tx n h' q.1 → SO B k0 tx n (K h') q') (h2 : q.2 ≠ 0 → q' = q) : SO B k0 tx n (bnd x fun _ h => K h) q' := by
  by_cases e : q.2 = 0
  · obtain ⟨h', a, b⟩ := z.1 e
    rw [a, bnd_l]
    exact h1 e h' b
  · obtain ⟨h', a, b⟩ := z.2 e
    rw [a, bnd_r, h2 e]
    exact ⟨fun q => absurd q e, fun _ => ⟨h', rfl, b⟩⟩
def pLv (b i : Nat) : Prop := (b = 86 ∧ i = 11) ∨ b = 104 ∨ b = 105 ∨ b = 106
theorem SC.lvl {lv' : List (Bool × Bool × Bool)} (z : SC B k0 tx n h (nm, lv, res, rp, md)) (f : FW pLv noQ h h') (hlv : mGi h' 86 11 = (lv'.length : Int) ∧ lv'.length ≤ 6 ∧ LvC h' lv') : SC B k0 tx n h' (nm, lv', res, rp, md) := by
  obtain ⟨⟨r1, r2, r3⟩, r4⟩ := z.2.2.2.2.1
  exact z.fw f (fun b i q => by unfold pLv at q; omega) (fun b i q => q.elim) hlv ⟨⟨(f.2.2.1 101 1 (by unfold pLv; omega)).trans r1, Seg.cg (fun j _ _ => f.2.2.1 102 j (by unfold pLv; omega)) r2, (f.2.2.1 101 2 (by unfold pLv; omega)).trans r3⟩, r4⟩
theorem lv_begin {o hd : Bool} (z : SC B k0 tx n h (nm, lv, res, rp, md)) (h6 : lv.length < 6) : ∃ h', F_Sm_beginLevel (bI (o && hd)) (bI (!o)) h = some (.inl (), h') ∧ SC B k0 tx n h' (nm, (o, hd, false) :: lv, res, rp, md) := by
  obtain ⟨l1, l2, l3⟩ := z.2.2.2.1
  have l1' : mGi h 86 11 = (lv.length : Int) := l1
  have f1 : FW pLv noQ h (mPi (mPi (mPi (mPi h 104 lv.length (bI (o && hd))) 106 lv.length (bI (!o))) 105 lv.length 0) 86 11 ((lv.length : Int) + 1)) := FW.pi (FW.pi (FW.pi (FW.pi FW.rf (by unfold pLv; omega)) (by unfold pLv; omega)) (by unfold pLv; omega)) (by unfold pLv; omega)
  refine ⟨_, ?_, z.lvl f1 ⟨by rw [gi_s, List.length_cons]; omega, by rw [List.length_cons]; omega, ?_, ?_, ?_, LvC.cg (h := h) (fun b j hb hj => ?_) l3⟩⟩
  · unfold F_Sm_beginLevel
    rw [l1', gd_b (by omega) (by omega), Int.toNat_natCast]
    simp only [sto_e]
    rw [gi_pi, if_neg (by omega), l1', gd_b (by omega) (by omega), Int.toNat_natCast, gi_pi, if_neg (by omega), gi_pi, if_neg (by omega), l1', gd_b (by omega) (by omega), Int.toNat_natCast, gi_pi, if_neg (by omega), gi_pi, if_neg (by omega), gi_pi, if_neg (by omega), l1', gd_rg (by omega) (by omega)]
  · rw [gi_pi, if_neg (by omega), gi_pi, if_neg (by omega), gi_pi, if_neg (by omega), gi_s]
  · rw [gi_pi, if_neg (by omega), gi_pi, if_neg (by omega), gi_s]
  · rw [gi_pi, if_neg (by omega), gi_s]; rfl
  · have hj' : j < lv.length := hj
    rw [gi_pi, if_neg (by omega), gi_pi, if_neg (by omega), gi_pi, if_neg (by omega), gi_pi, if_neg (by omega)]
theorem lv_rom (z : SC B k0 tx n h (nm, lv, res, rp, md)) : SO B k0 tx n (F_Sm_requireLevelRoom h) ((nm, lv, res, rp, md), if 6 ≤ lv.length then 1 else 0) := by
  have l1 : mGi h 86 11 = (lv.length : Int) := z.2.2.2.1.1
  unfold F_Sm_requireLevelRoom
  by_cases c : 6 ≤ lv.length
  · rw [l1, if_neg (by omega), if_pos c]
    exact z.fail (why := 1) (by decide) _
  · rw [l1, if_pos (by omega), if_neg c]
    exact SO.ok z
def turV (lv : List (Bool × Bool × Bool)) (s : S2) : S2 × Nat := match lv with
  | [] => (s, 10)
  | (o, h, t) :: r => if t = true then (s, 10) else ((s.1, (o, !h, true) :: r, s.2.2), 0)
def endV (lv : List (Bool × Bool × Bool)) (s : S2) : S2 × Nat := match lv with
  | [] => (s, 10)
  | _ :: r => ((s.1, r, s.2.2), 0)
theorem lv_turn (z : SC B k0 tx n h (nm, lv, res, rp, md)) : SO B k0 tx n (F_Sm_turnLevel h) (turV lv (nm, lv, res, rp, md)) := by
  obtain ⟨l1, l2, l3⟩ := z.2.2.2.1
  have l1' : mGi h 86 11 = (lv.length : Int) := l1
  unfold F_Sm_turnLevel F_Sm_turnLevel_21
  cases lv with
  | nil =>
    rw [l1', if_pos (show (([] : List (Bool × Bool × Bool)).length : Int) = 0 from rfl)]
    exact z.fail (why := 10) (by decide) _
  | cons x r =>
    obtain ⟨o, hd, t⟩ := x
    obtain ⟨l4, l5, l6, l7⟩ := l3
    have l2' : r.length + 1 ≤ 6 := l2
    rw [List.length_cons] at l1'
    rw [l1', if_neg (by omega), gd_rg (by omega) (by omega), show ((r.length + 1 : Nat) : Int) - 1 = (r.length : Int) by omega, gd_b (by omega) (by omega), Int.toNat_natCast, l6]
    unfold turV
    cases t with
    | true =>
      rw [if_neg (by decide)]
      exact z.fail (why := 10) (by decide) _
    | false =>
      rw [if_pos (show bI false = 0 from rfl)]
      dsimp only
      rw [if_neg (by decide)]
      unfold F_Sm_turnLevel_30 F_Sm_turnLevel_84
      have g0 : mGi (mPi h 105 r.length 1) 86 11 = ((r.length + 1 : Nat) : Int) := by rw [gi_pi, if_neg (by omega), l1']
      rw [l1', gd_rg (by omega) (by omega), show ((r.length + 1 : Nat) : Int) - 1 = (r.length : Int) by omega, gd_b (by omega) (by omega), Int.toNat_natCast]
      simp only [sto_e]
      rw [g0, gd_rg (by omega) (by omega), show ((r.length + 1 : Nat) : Int) - 1 = (r.length : Int) by omega, gd_b (by omega) (by omega), Int.toNat_natCast, gi_pi, if_neg (show ¬ ((104 : Nat) = 105 ∧ r.length = r.length) by omega), l4, gi_pi, if_neg (show ¬ ((106 : Nat) = 105 ∧ r.length = r.length) by omega), l5]
      have fin : ∀ b : Bool, b = (o && !hd) → SO B k0 tx n (F_Sm_turnLevel_85 (r.length : Int) (bI b) (mPi h 105 r.length 1)) ((nm, (o, !hd, true) :: r, res, rp, md), 0) := by
        intro b hb
        have f1 : FW pLv noQ h (mPi (mPi h 105 r.length 1) 104 r.length (bI b)) := FW.pi (FW.pi FW.rf (by unfold pLv; omega)) (by unfold pLv; omega)
        unfold F_Sm_turnLevel_85
        rw [gd_b (by omega) (by omega), gd_t bI_01, Int.toNat_natCast]
        refine ⟨fun _ => ⟨_, rfl, z.lvl f1 ⟨by rw [gi_pi, if_neg (by omega), g0]; rfl, by rw [List.length_cons]; omega, ?_, ?_, ?_, LvC.cg (h := h) (fun b j hb hj => ?_) l7⟩⟩, fun q => absurd rfl q⟩
        · rw [gi_s, hb]
        · rw [gi_pi, if_neg (by omega), gi_pi, if_neg (by omega), l5]
        · rw [gi_pi, if_neg (by omega), gi_s]; rfl
        · rw [gi_pi, if_neg (by omega), gi_pi, if_neg (by omega)]
      cases o <;> cases hd
      · exact fin false rfl
      · exact fin false rfl
      · exact fin true rfl
      · exact fin false rfl
theorem lv_end (z : SC B k0 tx n h (nm, lv, res, rp, md)) : SO B k0 tx n (F_Sm_endLevel h) (endV lv (nm, lv, res, rp, md)) := by
  obtain ⟨l1, l2, l3⟩ := z.2.2.2.1
  have l1' : mGi h 86 11 = (lv.length : Int) := l1
  unfold F_Sm_endLevel F_Sm_endLevel_16
  cases lv with
  | nil =>
    rw [l1', if_pos (show (([] : List (Bool × Bool × Bool)).length : Int) = 0 from rfl)]
    exact z.fail (why := 10) (by decide) _
  | cons x r =>
    obtain ⟨o, hd, t⟩ := x
    have l2' : r.length + 1 ≤ 6 := l2
    rw [List.length_cons] at l1'
    rw [l1', if_neg (by omega), gd_rg (by omega) (by omega)]
    have f1 : FW pLv noQ h (mPi h 86 11 (((r.length + 1 : Nat) : Int) - 1)) := FW.pi FW.rf (by unfold pLv; omega)
    exact ⟨fun _ => ⟨_, rfl, z.lvl f1 ⟨by rw [gi_s]; omega, by omega, LvC.cg (h := h) (fun b j hb hj => by rw [gi_pi, if_neg (by omega)]) l3.2.2.2⟩⟩, fun q => absurd rfl q⟩
theorem sm_req {b : Bool} (z : SC B k0 tx n h s) : SO B k0 tx n (F_Sm_require (bI b) h) (s, if b = true then 0 else 6) := by
  unfold F_Sm_require
  cases b with
  | true =>
    rw [if_neg (show ¬ bI true = 0 by decide), if_pos rfl]
    exact SO.ok z
  | false =>
    rw [if_pos (show bI false = 0 from rfl), if_neg (by decide)]
    exact z.fail (why := 6) (by decide) _
/-! names -/
def pNm (k b i : Nat) : Prop := (b = 91 ∨ b = 93) ∧ i = k
def qNm (k b i : Nat) : Prop := (b = 90 ∧ i = k) ∨ (b = 92 ∧ 3 * k ≤ i ∧ i < 3 * k + 3) ∨ (b = 94 ∧ 12 * k ≤ i ∧ i < 12 * k + 12)
theorem NmK.cg {M k j : Nat} {v : Option NmD} (hM : M ≤ 1302) (hj : j ≠ k) (f : FW (pNm k) (qNm k) h h') (z : NmK h M j v) : NmK h' M j v := by
  have e88 : ∀ i, i < M → mGi h' 88 i = mGi h 88 i := fun i _ => f.2.2.1 88 i (by unfold pNm; omega)
  cases v with
  | none => exact (f.2.2.2 90 j (by unfold qNm; omega)).trans z
  | some d =>
    obtain ⟨w, ps, b⟩ := d
    obtain ⟨q1, q2, q3, q4, q5, q6, q7⟩ := z
    refine ⟨?_, (f.2.2.1 91 j (by unfold pNm; omega)).trans q2, PrC.cg e88 (Nat.le_refl _) hM (fun i _ _ => f.2.2.2 92 i (by unfold qNm; omega)) q3, (f.2.2.1 93 j (by unfold pNm; omega)).trans q4, BoC.cg e88 (Nat.le_refl _) hM (fun i _ _ => f.2.2.2 94 i (by unfold qNm; omega)) q5, q6, q7⟩
    rw [f.2.2.2 90 j (by unfold qNm; omega)]
    exact q1.cg e88 (Nat.le_refl _) hM
theorem SC.nmd {k : Nat} {v : Option NmD} (z : SC B k0 tx n h s) (hk : k < 8) (f : FW (pNm k) (qNm k) h h') (hv : NmK h' (402 + s.2.2.2.2) k v) (N : nmOK (setN s.1 k v)) : SC B k0 tx n h' (setN s.1 k v, s.2) := by
  obtain ⟨z1, ⟨c1, c2, c3, c4, c5, c6, c7, c8⟩, z3, ⟨l1, l2, l3⟩, ⟨⟨r1, r2, r3⟩, r4⟩, z6, z7⟩ := z
  have gi : ∀ b i, b ≠ 91 → b ≠ 93 → mGi h' b i = mGi h b i := fun b i h1 h2 => f.2.2.1 b i (by unfold pNm; omega)
  have gr : ∀ a i, mGr h' a i = mGr h a i := fun a i => by show h'.2.2.2.1 a i = h.2.2.2.1 a i; rw [f.2.1]
  have hs : mSlt h' = mSlt h := by unfold mSlt; rw [f.1]
  have hm : 402 + s.2.2.2.2 ≤ 1302 := by have := c2.2; omega
  refine ⟨z1.fw f (fun b i q => by unfold pNm at q; omega) (fun b i q => by unfold qNm at q; omega), ⟨fun j hj => ?_, ⟨(gi 87 1 (by omega) (by omega)).trans c2.1, c2.2⟩, (gi 95 3 (by omega) (by omega)).trans c3, ⟨fun j hj r hr => ?_, fun j j' hj hj' hne r r' hr hr' => ?_⟩, ?_, by rw [f.1]; exact c6, c7, c8⟩, N, ⟨(gi 86 11 (by omega) (by omega)).trans l1, l2, LvC.cg (fun b j hb _ => gi b j (by omega) (by omega)) l3⟩, ⟨⟨(gi 101 1 (by omega) (by omega)).trans r1, Seg.cg (fun j _ _ => gi 102 j (by omega) (by omega)) r2, (gi 101 2 (by omega) (by omega)).trans r3⟩, r4⟩, z6.cg (fun j _ => gi 88 j (by omega) (by omega)), (gi 86 7 (by omega) (by omega)).trans z7⟩
  · show NmK h' (402 + s.2.2.2.2) j (setN s.1 k v j)
    unfold setN
    by_cases c : j = k
    · rw [if_pos c, c]; exact hv
    · rw [if_neg c]; exact NmK.cg hm c f (c1 j hj)
  · rw [gr] at hr
    obtain ⟨⟨q1, q2, q3⟩, q4⟩ := c4.1 j hj r hr
    refine ⟨⟨by rw [f.1]; exact q1, ?_, by rw [f.1]; exact q3⟩, q4⟩
    rw [gr, gr, gr, gr]
    exact q2
  · rw [gr] at hr hr'
    exact c4.2 j j' hj hj' hne r r' hr hr'
  · unfold Room at c5 ⊢
    rw [hs, f.1, nRows_c (fun i => gr 96 i)]
    exact c5
theorem nmOK.set {k : Nat} {v : Option NmD} (N : nmOK nm) (hv : ∀ q, v = some q → wds (q.2.1.getD []) ∧ (q.2.1.getD []).length ≤ 3 ∧ q.2.2.length ≤ 12 ∧ ∀ b ∈ q.2.2, okT (b.1, b.2, noH)) : nmOK (setN nm k v) := by
  intro j hj q e
  unfold setN at e
  by_cases c : j = k
  · rw [if_pos c] at e; exact hv q e
  · rw [if_neg c] at e; exact N j hj q e
theorem txA {p : Nat} {x : LnT} (e : L[p]? = some x) : txAt L p = x.2.1 := by unfold txAt; rw [e]
theorem wdA {p : Nat} (e : wdAt L p = true) : ∃ x, L[p]? = some x ∧ x.1 = 1 := by
  unfold wdAt at e
  cases q : L[p]? with
  | none => rw [q] at e; cases e
  | some x => rw [q] at e; exact ⟨x, rfl, of_decide_eq_true e⟩
theorem sm_und (z : SC B k0 tx n h s) (zl : LnO h L) : SO B k0 tx n (F_Sm_undefine h) (undL L s) := by
  have hm := z.2.1.2.1.2
  have key : ∀ b : Bool, b = (wdAt L 2 && decide (L.length = 3)) → SO B k0 tx n (F_Sm_undefine_22 (bI b) h) (undL L s) := by
    intro b hb
    unfold F_Sm_undefine_22 undL
    rw [gd_t bI_01]
    have r := sm_req (b := b) z
    cases b with
    | false =>
      have hn : ¬ (wdAt L 2 = true ∧ L.length = 3) := fun q => by rw [q.1, decide_eq_true q.2] at hb; cases hb
      rw [if_neg hn]
      exact SO.th r (fun q => absurd (show (6 : Nat) = 0 from q) (by decide)) (fun _ => rfl)
    | true =>
      have hw : wdAt L 2 = true := by cases e : wdAt L 2 with | true => rfl | false => rw [e] at hb; cases hb
      have h3 : L.length = 3 := by
        rw [hw] at hb
        exact of_decide_eq_true hb.symm
      rw [if_pos ⟨hw, h3⟩]
      obtain ⟨x, e2, k1⟩ := wdA hw
      have tc := zl.tc (M := 402 + s.2.2.2.2) (p := 2) (by omega) (by omega) e2
      unfold F_Sm_require
      rw [if_neg (show ¬ bI true = 0 by decide), bnd_l, gd_b (by decide) (by decide), show (2 : Int).toNat = 2 from rfl, na_find z.2.1.1 tc, bnd_l, txA e2]
      show SO B k0 tx n _ (match fnd s.1 x.2.1 with | none => (s, 0) | some k => ((setN s.1 k none, s.2), 0))
      have hq : fnd s.1 (ltk x).2.1 = fnd s.1 x.2.1 := rfl
      rw [hq]
      cases e : fnd s.1 x.2.1 with
      | none =>
        rw [if_pos (by show (-1 : Int) < 0; decide)]
        exact SO.ok z
      | some k =>
        have hk := (fnd_s e).1
        have f1 : FW (pNm k) (qNm k) h (mPl h 90 k 0) := FW.pl FW.rf (by unfold qNm; omega)
        rw [if_neg (by show ¬ (k : Int) < 0; omega), gd_b (by show (0 : Int) ≤ (k : Int); omega) (by show (k : Int) < 8; omega)]
        exact ⟨fun _ => ⟨_, rfl, z.nmd hk f1 (by show mGl _ 90 k = 0; rw [gl_pl, if_pos ⟨rfl, rfl⟩]) (z.2.2.1.set (fun q e => (by cases e)))⟩, fun q => absurd rfl q⟩
  unfold F_Sm_undefine F_Sm_undefine_21
  rw [show (2 : Int) = ((2 : Nat) : Int) from rfl, ln_word zl, bnd_l]
  by_cases c : wdAt L 2 = true
  · rw [c, if_neg (show ¬ bI true = 0 by decide), zl.1]
    by_cases c3 : L.length = 3
    · rw [if_pos (by omega)]
      exact key true (by rw [c, decide_eq_true c3]; rfl)
    · rw [if_neg (by omega)]
      exact key false (by rw [c, decide_eq_false c3]; rfl)
  · rw [Bool.eq_false_iff.mpr c, if_pos (show bI false = 0 from rfl)]
    exact key false (by rw [Bool.eq_false_iff.mpr c]; rfl)
theorem sm_byn {how : Bool} (z : SC B k0 tx n h (nm, lv, res, rp, md)) (zl : LnO h L) (ha : actv lv = true) : SO B k0 tx n (F_Sm_beginByName (bI how) h) (ifdL how L (nm, lv, res, rp, md)) := by
  have hm := z.2.1.2.1.2
  have key : ∀ b : Bool, b = (wdAt L 2 && decide (L.length = 3)) → SO B k0 tx n (F_Sm_beginByName_22 (bI how) (bI b) h) (ifdL how L (nm, lv, res, rp, md)) := by
    intro b hb
    unfold F_Sm_beginByName_22 ifdL
    dsimp only
    rw [gd_t bI_01]
    have r := sm_req (b := b) z
    cases b with
    | false =>
      have hn : ¬ (wdAt L 2 = true ∧ L.length = 3) := fun q => by rw [q.1, decide_eq_true q.2] at hb; cases hb
      rw [if_pos ⟨ha, hn⟩]
      exact SO.th r (fun q => absurd (show (6 : Nat) = 0 from q) (by decide)) (fun _ => rfl)
    | true =>
      have hw : wdAt L 2 = true := by cases e : wdAt L 2 with | true => rfl | false => rw [e] at hb; cases hb
      have h3 : L.length = 3 := by
        rw [hw] at hb
        exact of_decide_eq_true hb.symm
      rw [if_neg (fun q : actv lv = true ∧ ¬ (wdAt L 2 = true ∧ L.length = 3) => q.2 ⟨hw, h3⟩)]
      obtain ⟨x, e2, k1⟩ := wdA hw
      have tc := zl.tc (M := 402 + md) (p := 2) (by omega) (by show 402 + md ≤ 1302; have : md ≤ 900 := hm; omega) e2
      unfold F_Sm_require
      rw [if_neg (show ¬ bI true = 0 by decide), bnd_l]
      have l1 : mGi h 86 11 = (lv.length : Int) := z.2.2.2.1.1
      unfold F_Sm_requireLevelRoom
      by_cases c6 : 6 ≤ lv.length
      · rw [if_pos c6, l1, if_neg (by omega)]
        exact ⟨fun q => absurd q (by show ¬ (1 : Nat) = 0; decide), fun _ => ⟨h, by
          have := to_fail (h := h) (why := 1) z.2.1.rm.1 (fun (_ : Unit) h => (some (.inl (), h) : RS Unit))
          rw [show ((1 : Nat) : Int) = 1 from rfl] at this
          rw [this, bnd_r]; rfl, z.sx⟩⟩
      · rw [if_neg c6, l1, if_pos (by omega), bnd_l, gd_b (by decide) (by decide), show (2 : Int).toNat = 2 from rfl, na_find z.2.1.1 tc, bnd_l, txA e2]
        have hq : fnd nm (ltk x).2.1 = fnd nm x.2.1 := rfl
        have fin : ∀ b2 : Bool, b2 = (fnd nm x.2.1).isSome → SO B k0 tx n (F_Sm_beginByName_55 (bI how) (bI b2) h) ((nm, (actv lv, actv lv && ((fnd nm x.2.1).isSome == how), false) :: lv, res, rp, md), 0) := by
          intro b2 hb2
          unfold F_Sm_beginByName_55 F_Sm_beginByName_64
          obtain ⟨h1, e1, z1⟩ := lv_begin (o := true) (hd := (b2 == how)) z (by omega)
          rw [ha, ← hb2]
          have e1' : ∀ v : Int, v = bI (b2 == how) → F_Sm_beginLevel v 0 h = some (.inl (), h1) := fun v hv => by rw [hv]; exact e1
          by_cases cq : bI b2 = bI how
          · have : b2 = how := by cases b2 <;> cases how <;> first | rfl | (exact absurd cq (by decide))
            rw [if_pos cq, gd_01b, e1' 1 (by rw [this]; cases how <;> rfl), bnd_l]
            exact ⟨fun _ => ⟨h1, rfl, z1⟩, fun q => absurd rfl q⟩
          · have : (b2 == how) = false := by cases b2 <;> cases how <;> first | rfl | (exact absurd rfl cq)
            rw [if_neg cq, gd_01a, e1' 0 (by rw [this]; rfl), bnd_l]
            exact ⟨fun _ => ⟨h1, rfl, z1⟩, fun q => absurd rfl q⟩
        show SO B k0 tx n (if oI (fnd nm (ltk x).2.1) < 0 then _ else _) _
        rw [hq]
        cases e : fnd nm x.2.1 with
        | none =>
          rw [if_pos (by show (-1 : Int) < 0; decide)]
          have := fin false (by rw [e]; rfl)
          rw [e] at this
          exact this
        | some k =>
          rw [if_neg (by show ¬ (k : Int) < 0; omega)]
          have := fin true (by rw [e]; rfl)
          rw [e] at this
          exact this
  unfold F_Sm_beginByName F_Sm_beginByName_21
  rw [show (2 : Int) = ((2 : Nat) : Int) from rfl, ln_word zl, bnd_l]
  by_cases c : wdAt L 2 = true
  · rw [c, if_neg (show ¬ bI true = 0 by decide), zl.1]
    by_cases c3 : L.length = 3
    · rw [if_pos (by omega)]
      exact key true (by rw [c, decide_eq_true c3]; rfl)
    · rw [if_neg (by omega)]
      exact key false (by rw [c, decide_eq_false c3]; rfl)
  · rw [Bool.eq_false_iff.mpr c, if_pos (show bI false = 0 from rfl)]
    exact key false (by rw [Bool.eq_false_iff.mpr c]; rfl)
end Sm3
