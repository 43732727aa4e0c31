/-! the reference scans a token -/
section Sc
variable {h h' h'' : MH} {M T d : Nat} {v : Int64} {t c : Tk} {m : Bool} {nm : Nm} {rp md : Nat} {w dn R r : List Tk} {ar : List (List Tk)}
def nmW (nm : Nm) : Prop := ∀ k, k < 8 → ∀ q, nm k = some q → wds (q.2.1.getD []) ∧ (q.2.1.getD []).length ≤ 3 ∧ q.2.2.length ≤ 12 ∧ ∀ b ∈ q.2.2, tkW (b.1, b.2, noH) ∧ b.2 ≠ []
theorem nmW.ok (z : nmW nm) : nmOK nm := fun k hk q hq => ⟨(z k hk q hq).1, (z k hk q hq).2.1, (z k hk q hq).2.2.1, fun b hb => ((z k hk q hq).2.2.2 b hb).1.ok⟩
/-- it has failed -/
def XB (d C : Nat) (h h' : MH) (why rp : Nat) : Prop := RX2 d C h h' ∧ mGi h' 107 1 = (why : Int) ∧ mGi h' 107 28 = (rp : Int) ∧ rp ≤ 400
theorem XB.tr {C C' why rp : Nat} (a : RX2 d C h h') (b : XB d C' h' h'' why rp) (hC : C ≤ C') : XB d C h h'' why rp := ⟨a.tr b.1 hC, b.2⟩
theorem XB.up {C why rp : Nat} (b : XB (d + 1) C h h' why rp) : XB d C h h' why rp := ⟨b.1.up, b.2⟩
theorem XB.one {C why : Nat} (z : CmR nm T h rp md) : XB d C h (mPi h 107 1 (why : Int)) why rp := ⟨FW.pi FW.rf (by unfold pX; omega), gi_s, by rw [gi_pi, if_neg (by omega)]; exact z.2.2.1, z.2.2.2.1⟩
theorem ta_0 {f i : Nat} (hd : d < 8) (h40 : isSg c 40 = true) (hr : r.length ≤ 98) (y : TR h M (mGl h 135 (100 * d + r.length)) c false) : taL (f + 1) (d : Int) (i : Int) ((r.length + 1 : Nat) : Int) 0 0 1 1 h = taL f (d : Int) (i : Int) (r.length : Int) 1 0 1 1 h := by
  rw [taL_s, F_M_takeArguments_30_b, if_neg (by decide), if_neg (by omega), gd_rg (by omega) (by omega), gd_rg (by omega) (by omega), show ((r.length + 1 : Nat) : Int) + -1 = (r.length : Int) by omega, gd_rg (by omega) (by omega), gd_b (by omega) (by omega), show ((100 : Int) * (d : Int) + (r.length : Int)).toNat = 100 * d + r.length by omega, if_neg (by decide)]
  unfold F_M_takeArguments_76 F_M_takeArguments_77 F_M_takeArguments_110
  rw [if_pos (by decide)]
  have e := ta_t (G := taL f) (i := i) (p := r.length) (o := 0) (n := 0) (parts := 1) (sp := false) (inn := false) hd (by decide) (by decide) (by decide) y
  rw [if_pos h40] at e
  exact e
theorem take_237 {i n parts ps p : Nat} (hd : d < 8) (hi : i < 8) (hps : mGi h 127 i = (ps : Int)) (hp3 : ps ≤ 3) (er : mGi h 107 1 = 0) :
    ((if ps = 0 then parts = 1 ∧ n = 0 else parts = ps) → F_M_takeArguments_237 (d : Int) (i : Int) (p : Int) (n : Int) (parts : Int) 0 h = some (.inl (p : Int), mPi h 142 (4 * d + parts) (n : Int))) ∧
    ((¬ if ps = 0 then parts = 1 ∧ n = 0 else parts = ps) → F_M_takeArguments_237 (d : Int) (i : Int) (p : Int) (n : Int) (parts : Int) 0 h = some (.inl (-1), mPi h 107 1 8)) := by
  have good : parts ≤ 3 → F_M_takeArguments_277 (d : Int) (p : Int) (n : Int) (parts : Int) h = some (.inl (p : Int), mPi h 142 (4 * d + parts) (n : Int)) := by
    intro q
    unfold F_M_takeArguments_277 F_M_takeArguments_282
    rw [gd_01b, need_1 er, bnd_l, if_neg (by decide), gd_rg (by omega) (by omega), gd_rg (by omega) (by omega), gd_b (by omega) (by omega), sto_e, show ((4 : Int) * (d : Int) + (parts : Int)).toNat = 4 * d + parts by omega]
  have bad : F_M_takeArguments_281 (d : Int) (p : Int) (n : Int) (parts : Int) h = some (.inl (-1), mPi h 107 1 8) := by
    unfold F_M_takeArguments_281 F_M_takeArguments_282
    rw [gd_01a, need_0 er (by decide), bnd_l, if_pos rfl]
  unfold F_M_takeArguments_237
  rw [if_pos rfl, gd_b (by omega) (by omega), Int.toNat_natCast, hps]
  by_cases c0 : ps = 0
  · rw [if_pos c0, if_pos (show (ps : Int) = 0 by omega)]
    refine ⟨fun q => ?_, fun q => ?_⟩
    · rw [if_pos (by omega), if_pos (by omega)]
      exact good (by omega)
    · by_cases c1 : parts = 1
      · rw [if_pos (by omega), if_neg (by omega)]
        exact bad
      · rw [if_neg (by omega)]
        exact bad
  · rw [if_neg c0, if_neg (show ¬ (ps : Int) = 0 by omega)]
    refine ⟨fun q => ?_, fun q => ?_⟩
    · rw [if_pos (by omega)]
      exact good (by omega)
    · rw [if_neg (by omega)]
      exact bad
theorem arOk_i {ps : List (List Int)} (h1 : 1 ≤ ar.length) : (if ps.length = 0 then ar.length = 1 ∧ ar.flatten.length = 0 else ar.length = ps.length) ↔ arOk ps ar = true := by
  unfold arOk
  by_cases c : ps = []
  · subst c
    rw [if_pos (show ([] : List (List Int)).length = 0 from rfl), if_pos rfl, decide_eq_true_eq]
    constructor
    · intro q
      match ar, q.1 with
      | [a], _ =>
        have := q.2
        simp at this
        exact ⟨rfl, this⟩
    · intro q
      match ar, q.1 with
      | [a], _ =>
        have := q.2
        have : a = [] := this
        subst this
        exact ⟨rfl, rfl⟩
  · rw [if_neg (fun q => c (List.eq_nil_of_length_eq_zero q)), if_neg c, decide_eq_true_eq]
theorem m_take {k : Nat} {q : NmD} {ps : List (List Int)} (hd : d < 8) (hk : k < 8) (hq : nm k = some q) (hps : q.2.1 = some ps) (hp3 : ps.length ≤ 3) (z : SR nm T d h rp md (t :: c :: r) dn) (h40 : isSg c 40 = true) :
    ((cutA 0 [] [] (c :: r) = none ∨ ∃ ar cl r', cutA 0 [] [] (c :: r) = some (ar, cl, r') ∧ ¬ arOk ps ar = true) → ∃ h', F_M_takeArguments (d : Int) ((7 - k : Nat) : Int) h = some (.inl (-1), h') ∧ XB d (T + 2 + md) h h' 8 rp) ∧
    (∀ ar cl r', cutA 0 [] [] (c :: r) = some (ar, cl, r') → arOk ps ar = true → ∃ h', F_M_takeArguments (d : Int) ((7 - k : Nat) : Int) h = some (.inl (r'.length : Int), h') ∧ RX2 d (T + 2 + md) h h' ∧ CmR nm T h' rp md ∧ mGi h' 107 48 = (d : Int) ∧ TR h' (T + 2 + md) (mGl h' 135 (100 * d + r'.length)) cl false ∧ RSg h' (T + 2 + md) 135 (100 * d) (um r'.reverse) ∧ DnR h' (T + 2 + md) d dn ∧ ArR h' (T + 2 + md) d ar ∧ r'.length ≤ r.length) := by
  obtain ⟨z1, z2, z3, z4, z5⟩ := z
  have hM := z1.mx
  have er := z1.2.2.2.2
  have h4 := z4.2.1
  rw [List.length_cons, List.length_cons] at h4
  have zt := z4.2.2
  rw [um_rev, RSg.app] at zt
  have zt1 := zt.1
  rw [um_rev, RSg.app, um_len, List.length_reverse] at zt1
  have yc := zt1.2.1
  have F1 : RX2 d (T + 2 + md) h (mPi h 142 (4 * d) 0) := FW.pi FW.rf (by unfold pX; omega)
  have nb : mGi h 127 (7 - k) = (ps.length : Int) := by
    have := z1.1 k hk
    obtain ⟨q1, q2, q3⟩ := q
    rw [hq] at this
    have e := this.2.2.2.1
    have hps' : q2 = some ps := hps
    rw [hps'] at e
    exact e
  have e0 : F_M_takeArguments (d : Int) ((7 - k : Nat) : Int) h = taL 99999999 (d : Int) ((7 - k : Nat) : Int) (r.length : Int) ((1 : Nat) : Int) ((([] : List (List Tk)).flatten.length + ([] : List Tk).length : Nat) : Int) ((([] : List (List Tk)).length + 1 : Nat) : Int) 1 (mPi h 142 (4 * d) 0) := by
    unfold F_M_takeArguments
    rw [gd_b (by omega) (by omega), Int.toNat_natCast, z4.1, List.length_cons, List.length_cons, gd_rg (by omega) (by omega), gd_rg (by omega) (by omega), gd_b (by omega) (by omega), sto_e, show ((4 : Int) * (d : Int)).toNat = 4 * d by omega, show ((r.length + 1 + 1 : Nat) : Int) - 1 = ((r.length + 1 : Nat) : Int) by omega]
    have := ta_0 (f := 99999999) (i := 7 - k) (h := mPi h 142 (4 * d) 0) hd h40 (by omega) (yc.cg (fun j _ => by rw [gi_pi, if_neg (by omega)]) (Nat.le_refl _) hM)
    exact this
  have cA : cutA 0 [] [] (c :: r) = cutA 1 [] [] r := by
    rw [cutA, if_pos h40]
    rfl
  obtain ⟨h1, a1, a2, a3, a3', a4, a5⟩ := ta_l (i := 7 - k) hd hM r 99999999 1 [] [] (mPi h 142 (4 * d) 0) (by omega) (by decide) (by omega) (by simp; omega) (by simp; omega) (RSg.cg (h := h) (fun j _ => by rw [gi_pi, if_neg (by omega)]) (Nat.le_refl _) hM (fun j _ _ => rfl) zt1.1) trivial (fun j h1 _ => by
    have : j = 0 := by simpa using h1
    subst this
    rw [Nat.add_zero, gi_s]
    rfl)
  have gi1 : ∀ b j, b ≠ 142 → mGi h1 b j = mGi h b j := fun b j hb => (a3 b j hb).trans (by rw [gi_pi, if_neg (fun q => hb q.1)])
  have gl1 : ∀ j, mGl h1 135 j = mGl h 135 j := fun j => (a2 j).trans rfl
  have gl6 : ∀ j, mGl h1 136 j = mGl h 136 j := fun j => (a3' j).trans rfl
  have er1 : mGi h1 107 1 = 0 := (gi1 107 1 (by decide)).trans er
  have Fh : RX2 d (T + 2 + md) h h1 := F1.tr a1 (Nat.le_refl _)
  have e28 : mGi h1 107 28 = (rp : Int) := (gi1 107 28 (by decide)).trans z1.2.2.1
  have Xb : XB d (T + 2 + md) h (mPi h1 107 1 8) 8 rp := ⟨FW.pi Fh (by unfold pX; omega), gi_s, by rw [gi_pi, if_neg (by omega)]; exact e28, z1.2.2.2.1⟩
  rw [e0, cA]
  refine ⟨fun hh => ?_, fun ar cl r' e hok => ?_⟩
  · refine ⟨mPi h1 107 1 8, ?_, Xb⟩
    rcases hh with hn | ⟨ar, cl, r', e, hno⟩
    · obtain ⟨n', p', q⟩ := a4 hn
      rw [q]
      unfold F_M_takeArguments_237 F_M_takeArguments_281 F_M_takeArguments_282
      rw [if_neg (by decide), gd_01a, need_0 er1 (by decide), bnd_l, if_pos rfl]
    · obtain ⟨q1, q2, q3, q4, q5⟩ := a5 ar cl r' e
      rw [q1]
      exact (take_237 hd (by omega) ((gi1 127 _ (by decide)).trans nb) hp3 er1).2 (fun q => hno ((arOk_i q4).mp q))
  · obtain ⟨q1, q2, q3, q4, q5, q6, q7, q8⟩ := a5 ar cl r' e
    have har : ar.length ≤ 3 := by
      have := (arOk_i q4).mpr hok
      split at this <;> omega
    refine ⟨mPi h1 142 (4 * d + ar.length) (ar.flatten.length : Int), ?_, FW.pi Fh (by unfold pX; omega), ?_⟩
    · rw [q1]
      exact (take_237 hd (by omega) ((gi1 127 _ (by decide)).trans nb) hp3 er1).1 ((arOk_i q4).mpr hok)
    · have F2 : RX2 d (T + 2 + md) h (mPi h1 142 (4 * d + ar.length) (ar.flatten.length : Int)) := FW.pi Fh (by unfold pX; omega)
      have gi2 : ∀ b j, b ≠ 142 → mGi (mPi h1 142 (4 * d + ar.length) (ar.flatten.length : Int)) b j = mGi h b j := fun b j hb => by rw [gi_pi, if_neg (fun q => hb q.1)]; exact gi1 b j hb
      have gi3 : ∀ j, mGi (mPi h1 142 (4 * d + ar.length) (ar.flatten.length : Int)) 121 j = mGi h1 121 j := fun j => by rw [gi_pi, if_neg (by omega)]
      refine ⟨z1.fx F2 (Nat.le_refl _) (Nat.le_refl _) ⟨(gi2 107 24 (by decide)).trans z1.2.1.1, (gi2 107 25 (by decide)).trans z1.2.1.2.1, z1.2.1.2.2⟩ ((gi2 107 28 (by decide)).trans z1.2.2.1) z1.2.2.2.1 ((gi2 107 1 (by decide)).trans er), (gi2 107 48 (by decide)).trans z2, q6.cg (fun j _ => gi3 j) (Nat.le_refl _) hM, RSg.cg (h := h1) (fun j _ => gi3 j) (Nat.le_refl _) hM (fun j _ _ => rfl) q7, z5.cg2 (fun j _ => gi2 121 j (by decide)) (Nat.le_refl _) hM (gi2 141 d (by decide)) gl6, ⟨fun i hi _ => ?_, har, q3, RSg.cg (h := h1) (fun j _ => gi3 j) (Nat.le_refl _) hM (fun j _ _ => rfl) q2⟩, q8⟩
      by_cases ci : i = ar.length
      · rw [ci, gi_s, List.take_of_length_le (Nat.le_refl _)]
      · rw [gi_pi, if_neg (by omega)]
        exact q5 i (by omega) (by omega)
theorem m_scan (N : nmW nm) (hd : d < 8) (z : SR nm T d h rp md (t :: r) dn) :
    (callT nm t r = none → (100 ≤ dn.length → F_M_scanNext h = some (.inl 1, mPi h 107 1 1)) ∧ (dn.length < 100 → ∃ h', F_M_scanNext h = some (.inl 1, h') ∧ RX2 d (T + 2 + md) h h' ∧ SR nm T d h' rp md r (dn ++ [t]))) ∧
    (callT nm t r = some none → ∃ h', F_M_scanNext h = some (.inl 1, h') ∧ XB d (T + 2 + md) h h' 8 rp) ∧
    (∀ k q H ar r', callT nm t r = some (some (k, q, H, ar, r')) → (400 ≤ rp → ∃ h', F_M_scanNext h = some (.inl 1, h') ∧ XB d (T + 2 + md) h h' 2 rp) ∧ (rp < 400 → ∃ h' g', F_M_scanNext h = some (.inl 1, h') ∧ hR g' (orH H fun i => decide (i = k)) ∧ RX2 d (T + 2 + md) h h' ∧ UR nm T d h' (rp + 1) md k g' 0 r' dn ar [])) := by
  have z0 := z
  obtain ⟨z1, z2, z3, z4, z5⟩ := z
  have hM := z1.mx
  have h4 := z4.2.1
  have e4 := z4.1
  rw [List.length_cons] at h4 e4
  have yt := z4.top.1
  have hv : ∃ v, v = mGl h 135 (100 * d + r.length) := ⟨_, rfl⟩
  obtain ⟨v, hv⟩ := hv
  rw [← hv] at yt
  have hF : F_M_scanNext h = bnd (F_M_nameOf v h) fun x104 h102 => if x104 < 0 then F_M_scanNext_131 (d : Int) ((100 * d + r.length : Nat) : Int) v x104 h102 else bnd (F_M_hidesOf v h102) fun x110 h108 => if (iAnd (iShr x110 x104) (1 : Int)) = 0 then F_M_scanNext_132 (d : Int) ((100 * d + r.length : Nat) : Int) v x104 (1 : Int) h108 else F_M_scanNext_131 (d : Int) ((100 * d + r.length : Nat) : Int) v x104 h108 := by
    unfold F_M_scanNext
    rw [z2, Int.toNat_natCast, e4, show (100 : Int) * (d : Int) + ((r.length + 1 : Nat) : Int) - 1 = ((100 * d + r.length : Nat) : Int) by omega, Int.toNat_natCast, ← hv, gd_rg (by omega) (by omega), gd_b (by omega) (by omega), gd_rg (by omega) (by omega), gd_rg (by omega) (by omega), if_neg (by omega), gd_b (by omega) (by omega)]
  rw [hF, m_nameOf z1.1 yt, bnd_l]
  have fin := sc_fin hd z0 yt
  have fin' : ∀ x : RS Int, x = F_M_scanNext_259 (d : Int) v h → (100 ≤ dn.length → x = some (.inl 1, mPi h 107 1 1)) ∧ (dn.length < 100 → ∃ h', x = some (.inl 1, h') ∧ RX2 d (T + 2 + md) h h' ∧ SR nm T d h' rp md r (dn ++ [t])) := fun x hx => by rw [hx]; exact fin
  have f131 : ∀ x : Int, F_M_scanNext_131 (d : Int) ((100 * d + r.length : Nat) : Int) v x h = F_M_scanNext_259 (d : Int) v h := fun x => by
    unfold F_M_scanNext_131 F_M_scanNext_132 F_M_scanNext_222
    rw [if_pos rfl, if_pos rfl]
  unfold callT
  cases hfn : (if t.1 = 1 then fnd nm t.2.1 else none) with
  | none =>
    rw [if_pos (show oJ none < 0 by decide)]
    exact ⟨fun _ => fin' _ (f131 _), fun e => (by cases e), fun _ _ _ _ _ e => (by cases e)⟩
  | some k =>
    have hk8 : k < 8 ∧ ∃ q, nm k = some q ∧ q.1 = t.2.1 := by
      by_cases c1 : t.1 = 1
      · rw [if_pos c1] at hfn; exact fnd_s hfn
      · rw [if_neg c1] at hfn; cases hfn
    obtain ⟨hk, q, hq, -⟩ := hk8
    obtain ⟨n1, n2, n3, n4⟩ := N k hk q hq
    obtain ⟨g, hg, eg⟩ := mh_e yt
    have eJ : oJ (some k) = ((7 - k : Nat) : Int) := rfl
    rw [eJ, if_neg (by omega), eg, bnd_l]
    dsimp only
    rw [hq]
    dsimp only
    have hb := hbit (k := 7 - k) hg.1 (by omega)
    rw [hg.2 k hk] at hb
    by_cases c2 : t.2.2 k = true
    · rw [if_pos c2, if_neg (fun x => by rw [hb.mp x] at c2; cases c2)]
      exact ⟨fun _ => fin' _ (f131 _), fun e => (by cases e), fun _ _ _ _ _ e => (by cases e)⟩
    rw [if_neg c2, if_pos (hb.mpr (Bool.eq_false_iff.mpr c2))]
    have zk := z1.1 k hk
    obtain ⟨qw, qp, qb⟩ := q
    rw [hq] at zk
    have e131 : mGi h 131 (7 - k) = bI qp.isSome := zk.2.2.1
    unfold F_M_scanNext_132
    rw [if_neg (by decide), gd_b (by omega) (by omega), Int.toNat_natCast, e131]
    dsimp only
    cases hqp : qp with
    | none =>
      dsimp only
      rw [if_pos (show bI (none : Option (List (List Int))).isSome = 0 from rfl)]
      unfold F_M_scanNext_222
      rw [if_neg (by decide), gd_b (by omega) (by omega), Int.toNat_natCast, e131, hqp, if_pos (show bI (none : Option (List (List Int))).isSome = 0 from rfl), gd_b (by omega) (by omega), Int.toNat_natCast, e4, gd_rg (by omega) (by omega), eg, bnd_l, show ((r.length + 1 : Nat) : Int) - 1 = (r.length : Int) by omega]
      refine ⟨fun e => (by cases e), fun e => (by cases e), fun k' q' H' ar' r' e => ?_⟩
      cases e
      obtain ⟨b1, b2⟩ := sc_rep (R := r) (ar := []) hd hk hg z1 z2 (by omega) z4.top.2 z5 ArR.no
      refine ⟨fun c => ?_, fun c => ?_⟩
      · rw [b1 c, bnd_l]
        exact ⟨_, rfl, XB.one (why := 2) z1⟩
      · obtain ⟨h1, g', x1, x2, x3, x4⟩ := b2 c
        rw [x1, bnd_l]
        exact ⟨h1, g', rfl, x2, x3, x4⟩
    | some ps =>
      dsimp only
      rw [if_neg (show ¬ bI (some ps).isSome = 0 from fun q => absurd q (show ¬ bI true = 0 by decide)), gd_b (by omega) (by omega), Int.toNat_natCast, e4]
      have f222 : F_M_scanNext_222 (d : Int) v ((7 - k : Nat) : Int) 1 h = F_M_scanNext_259 (d : Int) v h := by
        unfold F_M_scanNext_222
        rw [if_neg (by decide), gd_b (by omega) (by omega), Int.toNat_natCast, e131, hqp, if_neg (show ¬ bI (some ps).isSome = 0 from fun q => absurd q (show ¬ bI true = 0 by decide))]
      cases r with
      | nil =>
        rw [if_pos (by decide)]
        exact ⟨fun _ => fin' _ f222, fun e => (by cases e), fun _ _ _ _ _ e => (by cases e)⟩
      | cons c r =>
        rw [List.length_cons] at h4 e4
        have zt := z4.2.2
        rw [um_rev, RSg.app] at zt
        have zt1 := zt.1
        rw [um_rev, RSg.app, um_len, List.length_reverse] at zt1
        have yc := zt1.2.1
        rw [List.length_cons, if_neg (by omega), gd_rg (by omega) (by omega), gd_b (by omega) (by omega), show (((100 * d + (r.length + 1) : Nat) : Int) - 1).toNat = 100 * d + r.length by omega, m_sign2 yc, bnd_l]
        dsimp only
        by_cases c40 : isSg c 40 = true
        · rw [c40, if_neg (show ¬ bI true = 0 by decide), if_pos rfl]
          rw [hqp] at n2
          have mt := m_take hd hk hq (show (qw, qp, qb).2.1 = some ps from hqp) n2 z0 c40
          have bad : (cutA 0 [] [] (c :: r) = none ∨ ∃ ar cl r', cutA 0 [] [] (c :: r) = some (ar, cl, r') ∧ ¬ arOk ps ar = true) → ∃ h', (bnd (F_M_takeArguments (d : Int) ((7 - k : Nat) : Int) h) fun x55 h53 => if x55 < 0 then F_M_scanNext_219  h53 else bnd (F_M_hidesOf v h53) fun x61 h59 => gd (inR ((100 : Int) * (d : Int))) (gd (inR (((100 : Int) * (d : Int)) + x55)) (gd (0 ≤ (((100 : Int) * (d : Int)) + x55) ∧ (((100 : Int) * (d : Int)) + x55) < 800) (bnd (F_M_hidesOf (mGl h59 135 (((100 : Int) * (d : Int)) + x55).toNat) h59) fun x69 h67 => bnd (F_M_replace (d : Int) ((7 - k : Nat) : Int) x55 (iAnd x61 x69) h67) fun x74 h72 => F_M_scanNext_219  h72)))) = some (.inl 1, h') ∧ XB d (T + 2 + md) h h' 8 rp := fun e => by
            obtain ⟨h1, x1, x2⟩ := mt.1 e
            rw [x1, bnd_l, if_pos (by decide)]
            exact ⟨h1, rfl, x2⟩
          cases hcu : cutA 0 [] [] (c :: r) with
          | none =>
            dsimp only
            exact ⟨fun e => (by cases e), fun _ => bad (.inl hcu), fun _ _ _ _ _ e => (by cases e)⟩
          | some y =>
            obtain ⟨ar, cl, r'⟩ := y
            dsimp only
            by_cases c3 : arOk ps ar = true
            · rw [if_pos c3]
              refine ⟨fun e => (by cases e), fun e => (by cases e), fun k' q' H' ar' r'' e => ?_⟩
              cases e
              obtain ⟨h1, x1, x2, x3, x4, x5, x6, x7, x8, x9⟩ := mt.2 ar cl r' hcu c3
              obtain ⟨g2, hg2, eg2⟩ := mh_e x5
              rw [x1, bnd_l, if_neg (by omega), eg, bnd_l, gd_rg (by omega) (by omega), gd_rg (by omega) (by omega), gd_b (by omega) (by omega), show ((100 : Int) * (d : Int) + (r'.length : Int)).toNat = 100 * d + r'.length by omega, eg2, bnd_l, iAnd_n hg.1 hg2.1]
              obtain ⟨b1, b2⟩ := sc_rep (R := r') (ar := ar) hd hk (hg.and hg2) x3 x4 (by omega) x6 x7 x8
              refine ⟨fun c => ?_, fun c => ?_⟩
              · rw [b1 c, bnd_l]
                exact ⟨_, rfl, XB.tr x2 (XB.one (why := 2) x3) (Nat.le_refl _)⟩
              · obtain ⟨h2, g', y1, y2, y3, y4⟩ := b2 c
                rw [y1, bnd_l]
                exact ⟨h2, g', rfl, y2, x2.tr y3 (Nat.le_refl _), y4⟩
            · rw [if_neg c3]
              exact ⟨fun e => (by cases e), fun _ => bad (.inr ⟨ar, cl, r', hcu, c3⟩), fun _ _ _ _ _ e => (by cases e)⟩
        · rw [Bool.eq_false_iff.mpr c40, if_pos (show bI false = 0 from rfl), if_neg (show ¬ false = true by decide)]
          exact ⟨fun _ => fin' _ f222, fun e => (by cases e), fun _ _ _ _ _ e => (by cases e)⟩
end Sc
