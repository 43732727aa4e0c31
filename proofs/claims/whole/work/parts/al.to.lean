/-! the reference's orders: else, endif, undef -/
section To
variable {B h h' : MH} {M E : Nat} {t x : List Int} {s : S2} {nm : Nm} {P Q : Nat → Nat → Prop} {L : List LnT} {lv : List (Bool × Bool × Bool)} {res : List Int} {rp md rp' md' : Nat} {T why : Nat}
theorem tur_89 {r : List (Bool × Bool × Bool)} {hd : Bool} {s1 : Int} (e : mGi h 133 r.length = bI hd) (hr : r.length < 6) : F_M_turnOrEnd_89 (r.length : Int) s1 h = some (.inl (), mPi (mPi (mPi h 107 33 s1) 134 r.length 1) 133 r.length (bI (!hd))) := by
  unfold F_M_turnOrEnd_89 F_M_turnOrEnd_118
  simp only [sto_e]
  have g : mGi (mPi (mPi h 107 33 s1) 134 r.length 1) 133 r.length = bI hd := by rw [gi_pi, if_neg (by omega), gi_pi, if_neg (by omega)]; exact e
  rw [gd_b (by omega) (by omega), Int.toNat_natCast, g, gd_b (by omega) (by omega), gd_b (by omega) (by omega), gd_01a, gd_01b]
  cases hd <;> rfl
theorem tur_21 (y : LnS h E L) (ca : ¬ (actv lv = true ∧ L.length ≠ 2)) {v1 : Int} (act : F_M_isActive h = some (.inl (bI (actv lv)), h)) : F_M_turnOrEnd v1 h = F_M_turnOrEnd_21 v1 1 h := by
  unfold F_M_turnOrEnd F_M_turnOrEnd_16
  rw [act, bnd_l, y.1]
  by_cases c1 : actv lv = true
  · have c2 : L.length = 2 := Classical.byContradiction fun q => ca ⟨c1, q⟩
    rw [c2, if_pos (show ((2 : Nat) : Int) = 2 from rfl), ite_self]
  · rw [Bool.eq_false_iff.mpr c1, if_pos (show bI false = 0 from rfl)]
theorem tur_bad (z : RQ B t h s) (y : LnS h E L) (ca : actv lv = true ∧ L.length ≠ 2) {v1 : Int} (act : F_M_isActive h = some (.inl (bI (actv lv)), h)) : RQO B t (F_M_turnOrEnd v1 h) (s, 6) := by
  unfold F_M_turnOrEnd F_M_turnOrEnd_16
  have cl := ca.2
  rw [act, bnd_l, y.1, ca.1, if_neg (show ¬ bI true = 0 by decide), if_neg (by omega)]
  unfold F_M_turnOrEnd_21
  rw [gd_01a, need_0 z.er (by decide), bnd_l, if_pos rfl]
  exact RQO.bad1 (why := 6) z (by decide)
theorem tur_60 (z : RQ B t h s) {v1 : Int} : RQO B t (F_M_turnOrEnd_60 v1 0 h) (s, 10) := by
  unfold F_M_turnOrEnd_60
  rw [gd_01a, need_0 z.er (by decide), bnd_l, if_pos rfl]
  exact RQO.bad1 (why := 10) z (by decide)
theorem m_turn (z : RQ B t h s) (y : LnS h E L) : RQO B t (F_M_turnOrEnd 1 h) (turL L s) := by
  have act := m_act z
  obtain ⟨nm, lv, res, rp, md⟩ := s
  have act' : F_M_isActive h = some (.inl (bI (actv lv)), h) := act
  have l1 : mGi h 107 33 = (lv.length : Int) := z.2.2.2.1.1
  have l2 : lv.length ≤ 6 := z.2.2.2.1.2.1
  have l3 : LvR h lv := z.2.2.2.1.2.2
  unfold turL
  dsimp only
  by_cases ca : actv lv = true ∧ L.length ≠ 2
  · rw [if_pos ca]
    exact tur_bad z y ca act'
  rw [if_neg ca, tur_21 y ca act']
  unfold F_M_turnOrEnd_21 F_M_turnOrEnd_59 F_M_turnOrEnd_55
  rw [gd_01b, need_1 z.er, bnd_l, if_neg (by decide), l1]
  cases lv with
  | nil =>
    rw [if_pos (by show ((0 : Nat) : Int) ≤ 0; decide)]
    exact tur_60 z
  | cons a r =>
    obtain ⟨o, hd, tu⟩ := a
    obtain ⟨e1, e2, e3, e4⟩ := l3
    rw [List.length_cons] at l1 l2
    rw [List.length_cons, if_neg (by omega), if_neg (show ¬ (1 : Int) = 0 by decide), gd_rg (by omega) (by omega), show ((r.length + 1 : Nat) : Int) - 1 = (r.length : Int) by omega, gd_b (by omega) (by omega), Int.toNat_natCast, e3]
    cases tu with
    | true =>
      rw [if_neg (show ¬ bI true = 0 by decide)]
      exact tur_60 z
    | false =>
      rw [if_pos (show bI false = 0 from rfl)]
      unfold F_M_turnOrEnd_60
      rw [gd_01b, need_1 z.er, bnd_l, if_neg (by decide), l1, gd_rg (by omega) (by omega), if_neg (show ¬ (1 : Int) = 0 by decide), show ((r.length + 1 : Nat) : Int) - 1 = (r.length : Int) by omega, tur_89 e2 (by omega)]
      refine RQO.ok (z.lvl (lv' := (o, !hd, true) :: r) (FW.pi (FW.pi (FW.pi FW.rf (by omega)) (by omega)) (by omega)) ?_ (by rw [List.length_cons]; omega) ⟨?_, ?_, ?_, LvR.cg (fun b j hb hj => ?_) e4⟩)
      · rw [gi_pi, if_neg (by omega), gi_pi, if_neg (by omega), gi_s, List.length_cons]
      · rw [gi_pi, if_neg (by omega), gi_pi, if_neg (by omega), gi_pi, if_neg (by omega)]; exact e1
      · rw [gi_s]
      · rw [gi_pi, if_neg (by omega), gi_s]; rfl
      · rw [gi_pi, if_neg (by omega), gi_pi, if_neg (by omega), gi_pi, if_neg (by omega)]
theorem m_fin (z : RQ B t h s) (y : LnS h E L) : RQO B t (F_M_turnOrEnd 0 h) (endL L s) := by
  have act := m_act z
  obtain ⟨nm, lv, res, rp, md⟩ := s
  have act' : F_M_isActive h = some (.inl (bI (actv lv)), h) := act
  have l1 : mGi h 107 33 = (lv.length : Int) := z.2.2.2.1.1
  have l2 : lv.length ≤ 6 := z.2.2.2.1.2.1
  have l3 : LvR h lv := z.2.2.2.1.2.2
  unfold endL
  dsimp only
  by_cases ca : actv lv = true ∧ L.length ≠ 2
  · rw [if_pos ca]
    exact tur_bad z y ca act'
  rw [if_neg ca, tur_21 y ca act']
  unfold F_M_turnOrEnd_21 F_M_turnOrEnd_59 F_M_turnOrEnd_55
  rw [gd_01b, need_1 z.er, bnd_l, if_neg (by decide), l1]
  cases lv with
  | nil =>
    rw [if_pos (by show ((0 : Nat) : Int) ≤ 0; decide)]
    exact tur_60 z
  | cons a r =>
    obtain ⟨o, hd, tu⟩ := a
    obtain ⟨e1, e2, e3, e4⟩ := l3
    rw [List.length_cons] at l1 l2
    rw [List.length_cons, if_neg (by omega), if_pos rfl]
    unfold F_M_turnOrEnd_60
    rw [gd_01b, need_1 z.er, bnd_l, if_neg (by decide), l1, gd_rg (by omega) (by omega), if_pos rfl, show ((r.length + 1 : Nat) : Int) - 1 = (r.length : Int) by omega, tur_89 e2 (by omega)]
    refine RQO.ok (z.lvl (lv' := r) (FW.pi (FW.pi (FW.pi FW.rf (by omega)) (by omega)) (by omega)) ?_ (by omega) (LvR.cg (fun b j hb hj => ?_) e4))
    · rw [gi_pi, if_neg (by omega), gi_pi, if_neg (by omega), gi_s]
    · rw [gi_pi, if_neg (by omega), gi_pi, if_neg (by omega), gi_pi, if_neg (by omega)]
/-! names -/
theorem RQ.nmd {k : Nat} {v : Option NmD} (z : RQ B t h (nm, lv, res, rp, md)) (hk : k < 8) (f : FW (pNr (7 - k)) (qNr (7 - k)) h h') (y : NmKR h' (t.length + 2 + md) (7 - k) v) (w : nmW (setN nm k v)) (e : mGi h' 107 32 = ctN (setN nm k v)) : RQ B t h' (setN nm k v, lv, res, rp, md) := by
  obtain ⟨z1, z2, z3, z4, z5, z6, z7⟩ := z
  have gi : ∀ b i, ¬ (b = 107 ∧ i = 32) → (b < 127 ∨ 131 < b) → mGi h' b i = mGi h b i := fun b i q1 q2 => f.2.2.1 b i (by unfold pNr; omega)
  have hM := z2.mx
  obtain ⟨c1, c2, c3, c4, c5⟩ := z2
  refine ⟨z1.fw f (fun b i q => by unfold pNr at q; unfold pR2; omega) (fun b i q => by unfold qNr at q; unfold qR2; omega), ⟨fun j hj => ?_, ⟨(gi 107 24 (by omega) (by omega)).trans c2.1, (gi 107 25 (by omega) (by omega)).trans c2.2.1, c2.2.2⟩, (gi 107 28 (by omega) (by omega)).trans c3, c4, (gi 107 1 (by omega) (by omega)).trans c5⟩, w, ⟨(gi 107 33 (by omega) (by omega)).trans z4.1, z4.2.1, LvR.cg (fun b j hb _ => gi b j (by omega) (by omega)) z4.2.2⟩, ⟨(gi 107 26 (by omega) (by omega)).trans z5.1, z5.2.1, Seg.cg (fun j _ _ => gi 122 j (by omega) (by omega)) z5.2.2⟩, e, Seg.cg (fun j _ _ => gi 121 j (by omega) (by omega)) z7.1, (gi 121 0 (by omega) (by omega)).trans z7.2.1, (gi 121 1 (by omega) (by omega)).trans z7.2.2⟩
  show NmKR h' (t.length + 2 + md) (7 - j) (setN nm k v j)
  by_cases c : j = k
  · subst c
    have e' : setN nm j v j = v := if_pos rfl
    rw [e']
    exact y
  · have e' : setN nm k v j = nm j := if_neg c
    rw [e']
    exact (c1 j hj).cg (fun i _ => gi 121 i (by omega) (by omega)) (Nat.le_refl _) hM (fun b hb => f.2.2.1 b (7 - j) (by unfold pNr; omega)) (fun i h1 h2 => ⟨f.2.2.1 129 i (by unfold pNr; omega), f.2.2.2 125 i (by unfold qNr; omega)⟩) (f.2.2.2 124 (7 - j) (by unfold qNr; omega))
theorem nmW.set {k : Nat} {v : Option NmD} (z : nmW nm) (y : ∀ q, v = some q → wds (q.2.1.getD []) ∧ (q.2.1.getD []).length ≤ 3 ∧ q.2.2.length ≤ 12 ∧ ∀ b ∈ q.2.2, tkW (b.1, b.2, noH) ∧ b.2 ≠ []) : nmW (setN nm k v) := by
  intro j hj q hq
  by_cases c : j = k
  · have e : setN nm k v j = v := if_pos c
    rw [e] at hq
    exact y q hq
  · have e : setN nm k v j = nm j := if_neg c
    rw [e] at hq
    exact z j hj q hq
theorem pi_id {a i : Nat} : mPi h a i (mGi h a i) = h := by
  obtain ⟨h1, h2, h3⟩ := h
  show (h1, (fun b j => if b = a ∧ j = i then h2 a i else h2 b j), h3) = (h1, h2, h3)
  have : (fun b j => if b = a ∧ j = i then h2 a i else h2 b j) = h2 := by
    funext b j
    by_cases c : b = a ∧ j = i
    · rw [if_pos c, c.1, c.2]
    · rw [if_neg c]
  rw [this]
theorem m_und (z : RQ B t h s) (y : LnS h E L) (hE : E ≤ t.length) : RQO B t (F_M_undefine h) (undL L s) := by
  obtain ⟨nm, lv, res, rp, md⟩ := s
  have hM := z.2.1.mx
  have hM' : t.length + 2 + md ≤ 1302 := hM
  have ct : mGi h 107 32 = ctN nm := z.2.2.2.2.2.1
  have cr := ctN_r (nm := nm)
  obtain ⟨kk, ek, hk⟩ := ls_kind (p := 2) y
  have ek' : F_M_kindAt 2 h = some (.inl kk, h) := ek
  have bad : RQO B t (F_M_undefine_22 h) ((nm, lv, res, rp, md), 6) := by
    unfold F_M_undefine_22 F_M_undefine_23
    rw [gd_01a, need_0 z.er (by decide), bnd_l, if_pos rfl]
    exact RQO.bad1 (why := 6) z (by decide)
  unfold F_M_undefine undL
  rw [y.1]
  by_cases c3 : L.length = 3
  · rw [if_pos (by omega), ek', bnd_l]
    by_cases cw : wdAt L 2 = true
    · rw [if_pos (hk.mpr cw), if_pos (show wdAt L 2 = true ∧ L.length = 3 from ⟨cw, c3⟩)]
      obtain ⟨x, ex, kx⟩ := wdA cw
      have yx := y.tc (M := t.length + 2 + md) (by omega) hM' ex
      have en := m_nameOf z.2.1.1 yx
      have ek1 : (ltk x).1 = 1 := kx
      have et : (ltk x).2.1 = x.2.1 := rfl
      have t2 : ((2 : Int)).toNat = 2 := rfl
      rw [if_pos ek1, et] at en
      unfold F_M_undefine_23
      rw [gd_01b, need_1 z.er, bnd_l, if_neg (by decide), gd_b (by decide) (by decide), t2, en, bnd_l, txA ex, ct]
      dsimp only
      cases hfn : fnd nm x.2.1 with
      | none =>
        rw [if_neg (show ¬ 0 ≤ oJ none by decide)]
        unfold F_M_undefine_57
        rw [gd_rg (by omega) (by omega), sto_e, if_pos (show oJ none < 0 by decide), Int.sub_zero, ← ct, pi_id]
        exact RQO.ok z
      | some k =>
        obtain ⟨hk8, q, hq, -⟩ := fnd_s hfn
        have eo : oJ (some k) = ((7 - k : Nat) : Int) := rfl
        rw [eo, if_pos (by omega)]
        unfold F_M_undefine_57
        rw [gd_rg (by omega) (by omega), sto_e, if_neg (by omega), gd_b (by omega) (by omega), sto_e, Int.toNat_natCast]
        refine RQO.ok (z.nmd hk8 (v := none) (FW.pi (FW.pi FW.rf (by unfold pNr; omega)) (by unfold pNr; omega)) gi_s (z.2.2.1.set (fun q e => (by cases e))) ?_)
        have b1 : bN (some q) = 1 := rfl
        have b0 : bN none = 0 := rfl
        rw [gi_pi, if_neg (by omega), gi_s, ctN_s hk8, hq, b1, b0]
        omega
    · rw [if_neg (fun q => cw (hk.mp q)), if_neg (fun q : wdAt L 2 = true ∧ L.length = 3 => cw q.1)]
      exact bad
  · rw [if_neg (by omega), if_neg (fun q : wdAt L 2 = true ∧ L.length = 3 => c3 q.2)]
    exact bad
end To
