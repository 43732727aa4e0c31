/-! the reference's values -/
section Er
variable {h h' : MH} {M : Nat} {vs r : VS} {sg : List Int} {s st : Int} {a b v : Int64 × Bool}
theorem work_e {s : Int} {a b : Int64} : F_M_worked s a b h = some (.inl (wk s a b), h) := by
  unfold F_M_worked wk
  simp only [F_M_worked_346, F_M_worked_341, F_M_worked_325, F_M_worked_324, F_M_worked_292, F_M_worked_277, F_M_worked_262, F_M_worked_247, F_M_worked_232, F_M_worked_217, F_M_bit, gd_01a, gd_01b]
  by_cases c0 : s = 37
  · simp only [if_pos c0]
    by_cases d : lgI b (0 : Int64) = 0
    · simp only [if_pos d]
    · simp only [if_neg d]; rw [gd_t (fun e => d (lg_eq.mpr e))]
  simp only [if_neg c0]
  by_cases c1 : s = 38
  · simp only [if_pos c1]
  simp only [if_neg c1]
  by_cases c2 : s = 42
  · simp only [if_pos c2]
  simp only [if_neg c2]
  by_cases c3 : s = 43
  · simp only [if_pos c3]
  simp only [if_neg c3]
  by_cases c4 : s = 45
  · simp only [if_pos c4]
  simp only [if_neg c4]
  by_cases c5 : s = 47
  · simp only [if_pos c5]
    by_cases d : lgI b (0 : Int64) = 0
    · simp only [if_pos d]
    · simp only [if_neg d]; rw [gd_t (fun e => d (lg_eq.mpr e))]
  simp only [if_neg c5]
  by_cases c6 : s = 60
  · simp only [if_pos c6]
    try (split <;> first | rfl | (split <;> rfl))
  simp only [if_neg c6]
  by_cases c7 : s = 62
  · simp only [if_pos c7]
    try (split <;> first | rfl | (split <;> rfl))
  simp only [if_neg c7]
  by_cases c8 : s = 94
  · simp only [if_pos c8]
  simp only [if_neg c8]
  by_cases c9 : s = 124
  · simp only [if_pos c9]
  simp only [if_neg c9]
  by_cases c10 : s = 9766
  · simp only [if_pos c10]
    try (split <;> first | rfl | (split <;> rfl))
  simp only [if_neg c10]
  by_cases c11 : s = 15420
  · simp only [if_pos c11]
  simp only [if_neg c11]
  by_cases c12 : s = 15649
  · simp only [if_pos c12]
    try (split <;> first | rfl | (split <;> rfl))
  simp only [if_neg c12]
  by_cases c13 : s = 15676
  · simp only [if_pos c13]
    try (split <;> first | rfl | (split <;> rfl))
  simp only [if_neg c13]
  by_cases c14 : s = 15677
  · simp only [if_pos c14]
    try (split <;> first | rfl | (split <;> rfl))
  simp only [if_neg c14]
  by_cases c15 : s = 15678
  · simp only [if_pos c15]
    try (split <;> first | rfl | (split <;> rfl))
  simp only [if_neg c15]
  by_cases c16 : s = 15934
  · simp only [if_pos c16]
  simp only [if_neg c16]
  split <;> first | rfl | (split <;> rfl)
theorem strM_e {s : Int} (h1 : s < 65536) : F_M_strength s h = some (.inl (strn s), h) := by
  unfold F_M_strength strn
  by_cases c0 : s = 37
  · simp only [if_pos c0]
  simp only [if_neg c0]
  by_cases c1 : s = 38
  · simp only [if_pos c1]
  simp only [if_neg c1]
  by_cases c2 : s = 42
  · simp only [if_pos c2]
  simp only [if_neg c2]
  by_cases c3 : s = 43
  · simp only [if_pos c3]
  simp only [if_neg c3]
  by_cases c4 : s = 45
  · simp only [if_pos c4]
  simp only [if_neg c4]
  by_cases c5 : s = 47
  · simp only [if_pos c5]
  simp only [if_neg c5]
  by_cases c6 : s = 60
  · simp only [if_pos c6]
  simp only [if_neg c6]
  by_cases c7 : s = 62
  · simp only [if_pos c7]
  simp only [if_neg c7]
  by_cases c8 : s = 94
  · simp only [if_pos c8]
  simp only [if_neg c8]
  by_cases c9 : s = 124
  · simp only [if_pos c9]
  simp only [if_neg c9]
  by_cases c10 : s = 9766
  · simp only [if_pos c10]
  simp only [if_neg c10]
  by_cases c11 : s = 15420
  · simp only [if_pos c11]
  simp only [if_neg c11]
  by_cases c12 : s = 15649
  · simp only [if_pos c12]
  simp only [if_neg c12]
  by_cases c13 : s = 15676
  · simp only [if_pos c13]
  simp only [if_neg c13]
  by_cases c14 : s = 15677
  · simp only [if_pos c14]
  simp only [if_neg c14]
  by_cases c15 : s = 15678
  · simp only [if_pos c15]
  simp only [if_neg c15]
  by_cases c16 : s = 15934
  · simp only [if_pos c16]
  simp only [if_neg c16]
  by_cases c17 : s = 31868
  · simp only [if_pos c17]
  simp only [if_neg c17]
  simp only [if_neg (show ¬ 65536 ≤ s by omega)]
def VsR (h : MH) : VS → Prop
  | [] => True
  | v :: r => mGl h 139 r.length = v.1 ∧ VsR h r
def enc (s : Int) : Int := if s < 65536 then s else 65536 - s
def SgR (h : MH) : List Int → VS → Prop
  | [], _ => True
  | s :: sg, vs => mGi h 147 sg.length = enc s ∧ (if s < 65536 ∧ s ≠ 40 then (match vs with
      | a :: r => mGi h 148 sg.length = bI (stl s a.1) ∧ SgR h sg r
      | [] => True) else SgR h sg vs)
theorem SgR_b (c : s < 65536) (c4 : s ≠ 40) : SgR h (s :: sg) (a :: r) ↔ mGi h 147 sg.length = enc s ∧ mGi h 148 sg.length = bI (stl s a.1) ∧ SgR h sg r := by rw [SgR, if_pos ⟨c, c4⟩]
theorem SgR_u (c : ¬ (s < 65536 ∧ s ≠ 40)) : SgR h (s :: sg) vs ↔ mGi h 147 sg.length = enc s ∧ SgR h sg vs := by rw [SgR.eq_def]; dsimp only; rw [if_neg c]
theorem VsR.cg : ∀ {vs : VS}, (∀ j, j < vs.length → mGl h' 139 j = mGl h 139 j) → VsR h vs → VsR h' vs
  | [], _, _ => trivial
  | v :: r, e, z => ⟨(e r.length (by rw [List.length_cons]; omega)).trans z.1, VsR.cg (fun j hj => e j (by rw [List.length_cons]; omega)) z.2⟩
theorem SgR.cg : ∀ {sg : List Int} {vs : VS}, (∀ j, j < sg.length → mGi h' 147 j = mGi h 147 j ∧ mGi h' 148 j = mGi h 148 j) → SgR h sg vs → SgR h' sg vs
  | [], _, _, _ => trivial
  | s :: sg, vs, e, z => by
    have e0 := e sg.length (by rw [List.length_cons]; omega)
    have e' : ∀ j, j < sg.length → mGi h' 147 j = mGi h 147 j ∧ mGi h' 148 j = mGi h 148 j := fun j hj => e j (by rw [List.length_cons]; omega)
    by_cases c : s < 65536 ∧ s ≠ 40
    · cases vs with
      | nil =>
        rw [SgR, if_pos c] at z ⊢
        exact ⟨e0.1.trans z.1, trivial⟩
      | cons a r =>
        rw [SgR_b c.1 c.2] at z ⊢
        exact ⟨e0.1.trans z.1, e0.2.trans z.2.1, SgR.cg e' z.2.2⟩
    · rw [SgR_u c] at z ⊢
      exact ⟨e0.1.trans z.1, SgR.cg e' z.2⟩
theorem nS_le : ∀ (sg : List Int) (vs : VS), nS sg vs ≤ sg.length
  | [], _ => Nat.le_refl _
  | s :: sg, vs => by
    rw [List.length_cons]
    by_cases c : s < 65536 ∧ s ≠ 40
    · cases vs with
      | nil => rw [nS, if_pos c]; omega
      | cons a r =>
        rw [nS_b c.1 c.2]
        have := nS_le sg r
        split <;> omega
    · rw [nS_u c]
      have := nS_le sg vs
      omega
def rE (h : MH) (P : Prop) : Prop := (P → mGi h 107 1 = 0) ∧ (¬ P → mGi h 107 1 = 9)
def EsT (h : MH) (vs : VS) (sg : List Int) : Prop := mGi h 107 49 = (vs.length : Int) ∧ mGi h 107 50 = (sg.length : Int) ∧ mGi h 107 51 = (nS sg vs : Int) ∧ VsR h vs ∧ SgR h sg vs ∧ rE h (fin' sg vs)
def EsF (h : MH) (v : Int64 × Bool) (r : VS) (sg : List Int) : Prop := mGi h 107 49 = ((r.length + 1 : Nat) : Int) ∧ mGi h 107 50 = (sg.length : Int) ∧ mGi h 107 51 = (nS sg r : Int) ∧ VsR h (v :: r) ∧ SgR h sg r ∧ rE h (finV sg (v :: r))
def pEr (b i : Nat) : Prop := (b = 107 ∧ (i = 1 ∨ i = 49 ∨ i = 50 ∨ i = 51)) ∨ b = 147 ∨ b = 148
def qEr (b _i : Nat) : Prop := b = 139
theorem push_e {n : Nat} {x : Int64} (e : mGi h 107 49 = (n : Int)) (hn : n < 120) : F_M_push x h = some (.inl (), mPi (mPl h 139 n x) 107 49 ((n + 1 : Nat) : Int)) := by
  unfold F_M_push
  rw [e, gd_b (by omega) (by omega), Int.toNat_natCast]
  simp only [sto_e]
  rw [gi_pl, e, gd_rg (by omega) (by omega)]
  rfl
/-- the heap in which a sign and a value are taken off -/
theorem red_h {n m : Nat} (e50 : mGi h 107 50 = ((m + 1 : Nat) : Int)) (e49 : mGi h 107 49 = ((n + 1 : Nat) : Int)) (hm : m < 240) (hn : n < 120) : ∃ h43, FW (fun b i => b = 107 ∧ (i = 49 ∨ i = 50)) noQ h h43 ∧ mGi h43 107 50 = (m : Int) ∧ mGi h43 107 49 = (n : Int) ∧
    F_M_reduce h = (if 0 ≤ (mGi h 147 m) then F_M_reduce_87 (mGi h 147 m) (mGl h 139 n) h43 else if (mGi h 147 m) = (-45 : Int) then F_M_reduce_84 (mGi h 147 m) (mGl h 139 n) (-(mGl h 139 n)) h43 else if (mGi h 147 m) = (-126 : Int) then F_M_reduce_84 (mGi h 147 m) (mGl h 139 n) ((mGl h 139 n) ^^^ (-1 : Int64)) h43 else if (lgI (mGl h 139 n) (0 : Int64)) = 0 then F_M_reduce_81 (mGi h 147 m) (mGl h 139 n) (1 : Int) h43 else F_M_reduce_81 (mGi h 147 m) (mGl h 139 n) (0 : Int) h43) := by
  have F : FW (fun b i => b = 107 ∧ (i = 49 ∨ i = 50)) noQ h (mPi (mPi h 107 50 (m : Int)) 107 49 (n : Int)) := FW.pi (FW.pi FW.rf (by omega)) (by omega)
  have g50 : mGi (mPi (mPi h 107 50 (m : Int)) 107 49 (n : Int)) 107 50 = (m : Int) := by rw [gi_pi, if_neg (by omega), gi_s]
  have g147 : mGi (mPi (mPi h 107 50 (m : Int)) 107 49 (n : Int)) 147 m = mGi h 147 m := F.2.2.1 147 m (by omega)
  have g139 : mGl (mPi (mPi h 107 50 (m : Int)) 107 49 (n : Int)) 139 n = mGl h 139 n := rfl
  refine ⟨mPi (mPi h 107 50 (m : Int)) 107 49 (n : Int), F, g50, gi_s, ?_⟩
  unfold F_M_reduce
  rw [e50, gd_rg (by omega) (by omega), show ((m + 1 : Nat) : Int) - 1 = (m : Int) by omega, sto_e, gi_pi, if_neg (show ¬ ((107 : Nat) = 107 ∧ (49 : Nat) = 50) by omega), e49, gd_rg (by omega) (by omega), show ((n + 1 : Nat) : Int) - 1 = (n : Int) by omega, sto_e, g50, gi_s, gd_b (by omega) (by omega), gd_b (by omega) (by omega), Int.toNat_natCast, Int.toNat_natCast, g147, g139]
theorem red_u (hu : s = 65581 ∨ s = 65569 ∨ s = 65662) (z : EsF h v r (s :: sg)) (hr : r.length < 119) (hs : sg.length < 239) : ∃ h', F_M_reduce h = some (.inl (), h') ∧ FW pEr qEr h h' ∧ EsF h' (apA (s - 65536) v.1, v.2) r sg := by
  obtain ⟨z1, z2, z3, z4, z5, z6⟩ := z
  have hub : ¬ (s < 65536 ∧ s ≠ 40) := by omega
  rw [SgR_u hub] at z5
  rw [nS_u hub] at z3
  obtain ⟨h43, F, g50, g49, e⟩ := red_h (h := h) (m := sg.length) (n := r.length) z2 z1 (by omega) (by omega)
  rw [z5.1, z4.1] at e
  have P : ∀ x : Int64, ∃ h', F_M_reduce_84 (enc s) v.1 x h43 = some (.inl (), h') ∧ FW pEr qEr h h' ∧ ((x = apA (s - 65536) v.1) → EsF h' (apA (s - 65536) v.1, v.2) r sg) := fun x => by
    have F2 : FW pEr qEr h (mPi (mPl h43 139 r.length x) 107 49 ((r.length + 1 : Nat) : Int)) := FW.pi (FW.pl (F.sub (fun b i q => by unfold pEr; omega) (fun _ _ q => q.elim)) rfl) (by unfold pEr; omega)
    have gi : ∀ b i, ¬ (b = 107 ∧ (i = 49 ∨ i = 50)) → mGi (mPi (mPl h43 139 r.length x) 107 49 ((r.length + 1 : Nat) : Int)) b i = mGi h b i := fun b i hb => by rw [gi_pi, if_neg (by omega), gi_pl]; exact F.2.2.1 b i hb
    refine ⟨_, ?_, F2, fun hx => ⟨gi_s, ?_, (gi 107 51 (by omega)).trans z3, ⟨?_, VsR.cg (fun j hj => ?_) z4.2⟩, SgR.cg (fun j _ => ⟨gi 147 j (by omega), gi 148 j (by omega)⟩) z5.2, ?_⟩⟩
    · unfold F_M_reduce_84 F_M_reduce_87
      rw [push_e g49 (by omega), bnd_l, if_neg]
      unfold enc
      rw [if_neg (by omega)]
      omega
    · rw [gi_pi, if_neg (by omega), gi_pl]; exact g50
    · rw [gl_pi, gl_pl, if_pos ⟨rfl, rfl⟩, hx]
    · rw [gl_pi, gl_pl, if_neg (by omega)]; exact F.2.2.2 139 j id
    · have e1 := gi 107 1 (by omega)
      refine ⟨fun q => e1.trans (z6.1 ((finV_u hub).mpr (finV_a.mp q))), fun q => e1.trans (z6.2 (fun y => q (finV_a.mpr ((finV_u hub).mp y))))⟩
  rw [e]
  rcases hu with rfl | rfl | rfl
  · rw [if_neg (show ¬ 0 ≤ enc 65581 by decide), if_pos (show enc 65581 = -45 by decide)]
    obtain ⟨h', p1, p2, p3⟩ := P (-v.1)
    exact ⟨h', p1, p2, p3 rfl⟩
  · rw [if_neg (show ¬ 0 ≤ enc 65569 by decide), if_neg (show ¬ enc 65569 = -45 by decide), if_neg (show ¬ enc 65569 = -126 by decide)]
    have ea : apA (65569 - 65536) v.1 = if lgI v.1 (0 : Int64) = 0 then 1 else 0 := rfl
    unfold F_M_reduce_81 F_M_bit
    by_cases c : lgI v.1 (0 : Int64) = 0
    · rw [if_pos c] at ea
      rw [if_pos c, gd_01b, if_neg (by decide), bnd_l]
      obtain ⟨h', p1, p2, p3⟩ := P 1
      exact ⟨h', p1, p2, p3 ea.symm⟩
    · rw [if_neg c] at ea
      rw [if_neg c, gd_01a, if_pos rfl, bnd_l]
      obtain ⟨h', p1, p2, p3⟩ := P 0
      exact ⟨h', p1, p2, p3 ea.symm⟩
  · rw [if_neg (show ¬ 0 ≤ enc 65662 by decide), if_neg (show ¬ enc 65662 = -45 by decide), if_pos (show enc 65662 = -126 by decide)]
    obtain ⟨h', p1, p2, p3⟩ := P (v.1 ^^^ -1)
    exact ⟨h', p1, p2, p3 rfl⟩
theorem fail_e {P Q : Prop} (z : rE h P) (hPQ : Q → P) : ∃ h', F_M_fail 9 h = some (.inl (), h') ∧ FW (fun b i => b = 107 ∧ i = 1) noQ h h' ∧ mGi h' 107 1 = 9 := by
  unfold F_M_fail F_M_fail_16
  by_cases c : mGi h 107 1 = 0
  · rw [if_pos c, sto_e]
    exact ⟨_, rfl, FW.pi FW.rf ⟨rfl, rfl⟩, gi_s⟩
  · rw [if_neg c, sto_e]
    refine ⟨_, rfl, FW.pi FW.rf ⟨rfl, rfl⟩, ?_⟩
    rw [gi_s]
    exact z.2 (fun p => c (z.1 p))
theorem red_b (h0 : 0 ≤ s) (c : s < 65536) (c4 : s ≠ 40) (z : EsF h b (a :: r) (s :: sg)) (hr : r.length < 118) (hs : sg.length < 239) : ∃ h', F_M_reduce h = some (.inl (), h') ∧ FW pEr qEr h h' ∧ EsF h' (apB s a b) r sg := by
  obtain ⟨z1, z2, z3, z4, z5, z6⟩ := z
  rw [SgR_b c c4] at z5
  rw [nS_b c c4] at z3
  have hen : enc s = s := by unfold enc; rw [if_pos c]
  have hns := nS_le sg r
  obtain ⟨h43, F, g50, g49, e⟩ := red_h (h := h) (m := sg.length) (n := (a :: r).length) z2 z1 (by omega) (by rw [List.length_cons]; omega)
  rw [z5.1, z4.1, hen, if_pos h0] at e
  rw [e]
  rw [List.length_cons] at g49
  have g51 : mGi h43 107 51 = (((if stl s a.1 = true then 1 else 0) + nS sg r : Nat) : Int) := (F.2.2.1 107 51 (by omega)).trans z3
  have r43 : rE h43 (finV (s :: sg) (b :: a :: r)) := by
    have e1 := F.2.2.1 107 1 (by omega)
    exact ⟨fun q => e1.trans (z6.1 q), fun q => e1.trans (z6.2 q)⟩
  have fb := finV_b (sg := sg) (a := a) (b := b) (r := r) c c4
  -- division by nothing
  have mid : ∃ h5, F_M_reduce_87 s b.1 h43 = F_M_reduce_123 s b.1 h5 ∧ FW (fun b i => b = 107 ∧ i = 1) noQ h43 h5 ∧ rE h5 (finV sg (apB s a b :: r)) := by
    have keep : ¬ ((s = 47 ∨ s = 37) ∧ b.1 = 0) ∨ nS sg r ≠ 0 → rE h43 (finV sg (apB s a b :: r)) := fun q => by
      have : finV sg (apB s a b :: r) ↔ finV (s :: sg) (b :: a :: r) := ⟨fun y => (fb.mp y).1, fun y => fb.mpr ⟨y, fun w => q.elim (fun q => q w.1) (fun q => q w.2)⟩⟩
      exact ⟨fun y => r43.1 (this.mp y), fun y => r43.2 (fun w => y (this.mpr w))⟩
    unfold F_M_reduce_87
    rw [if_pos h0]
    by_cases cd : s = 47 ∨ s = 37
    · have e104 : (if s = 47 then F_M_reduce_104 s b.1 h43 else if s = 37 then F_M_reduce_104 s b.1 h43 else F_M_reduce_123 s b.1 h43) = F_M_reduce_104 s b.1 h43 := by
        rcases cd with q | q
        · rw [if_pos q]
        · rw [if_neg (by omega), if_pos q]
      have ns : stl s a.1 = false := by
        unfold stl
        refine decide_eq_false (fun q => ?_)
        rcases q with q | q <;> omega
      rw [ns, if_neg (show ¬ false = true by decide), Nat.zero_add] at g51
      rw [e104]
      unfold F_M_reduce_104
      by_cases cb : b.1 = 0
      · rw [if_pos (lg_eq.mpr cb), g51]
        by_cases cn : nS sg r = 0
        · obtain ⟨h5, e5, F5, q5⟩ := fail_e r43 (Q := False) (fun q => q.elim)
          rw [if_pos (by omega), e5, bnd_l]
          refine ⟨h5, rfl, F5, fun q => absurd ⟨⟨cd, cb⟩, cn⟩ (fb.mp q).2, fun _ => q5⟩
        · rw [if_neg (by omega)]
          exact ⟨h43, rfl, FW.rf, keep (.inr cn)⟩
      · rw [if_neg (fun q => cb (lg_eq.mp q))]
        exact ⟨h43, rfl, FW.rf, keep (.inl (fun q => cb q.2))⟩
    · rw [if_neg (fun q => cd (.inl q)), if_neg (fun q => cd (.inr q))]
      exact ⟨h43, rfl, FW.rf, keep (.inl (fun q => cd q.1))⟩
  obtain ⟨h5, e5, F5, q5⟩ := mid
  rw [e5]
  have gi5 : ∀ b i, ¬ (b = 107 ∧ (i = 1 ∨ i = 49 ∨ i = 50)) → mGi h5 b i = mGi h b i := fun b i hb => (F5.2.2.1 b i (by omega)).trans (F.2.2.1 b i (by omega))
  have gl5 : ∀ b i, mGl h5 b i = mGl h b i := fun b i => (F5.2.2.2 b i id).trans (F.2.2.2 b i id)
  have g49' : mGi h5 107 49 = ((r.length + 1 : Nat) : Int) := (F5.2.2.1 107 49 (by omega)).trans g49
  have g50' : mGi h5 107 50 = (sg.length : Int) := (F5.2.2.1 107 50 (by omega)).trans g50
  have g51' : mGi h5 107 51 = (((if stl s a.1 = true then 1 else 0) + nS sg r : Nat) : Int) := (F5.2.2.1 107 51 (by omega)).trans g51
  have ga : mGl h5 139 r.length = a.1 := (gl5 139 _).trans z4.2.1
  have g148 : mGi h5 148 sg.length = bI (stl s a.1) := (gi5 148 _ (by omega)).trans z5.2.1
  unfold F_M_reduce_123 F_M_reduce_172
  rw [g49', gd_rg (by omega) (by omega), show ((r.length + 1 : Nat) : Int) - 1 = (r.length : Int) by omega, gd_b (by omega) (by omega), Int.toNat_natCast, ga, work_e, bnd_l, sto_e, gi_pl, gi_pl, gi_pl, g50', g51', gd_b (by omega) (by omega), Int.toNat_natCast, g148]
  have ef : (if bI (stl s a.1) = 0 then gd (inR ((((if stl s a.1 = true then 1 else 0) + nS sg r : Nat) : Int) - 0)) (sto (mPi (mPl h5 139 r.length (wk s a.1 b.1)) 107 51 ((((if stl s a.1 = true then 1 else 0) + nS sg r : Nat) : Int) - 0)) fun h2 => some (.inl (), h2)) else gd (inR ((((if stl s a.1 = true then 1 else 0) + nS sg r : Nat) : Int) - 1)) (sto (mPi (mPl h5 139 r.length (wk s a.1 b.1)) 107 51 ((((if stl s a.1 = true then 1 else 0) + nS sg r : Nat) : Int) - 1)) fun h2 => some (.inl (), h2)) : RS Unit) = some (.inl (), mPi (mPl h5 139 r.length (wk s a.1 b.1)) 107 51 (nS sg r : Int)) := by
    cases stl s a.1 with
    | true => rw [if_neg (show ¬ bI true = 0 by decide), if_pos rfl, gd_rg (by omega) (by omega), sto_e, show ((1 + nS sg r : Nat) : Int) - 1 = (nS sg r : Int) by omega]
    | false => rw [if_pos (show bI false = 0 from rfl), if_neg (show ¬ false = true by decide), gd_rg (by omega) (by omega), sto_e, show ((0 + nS sg r : Nat) : Int) - 0 = (nS sg r : Int) by omega]
  rw [ef]
  have F6 : FW pEr qEr h (mPi (mPl h5 139 r.length (wk s a.1 b.1)) 107 51 (nS sg r : Int)) := FW.pi (FW.pl ((F.sub (fun b i q => by unfold pEr; omega) (fun _ _ q => q.elim)).tr (F5.sub (fun b i q => by unfold pEr; omega) (fun _ _ q => q.elim))) rfl) (by unfold pEr; omega)
  have gi6 : ∀ c i, ¬ (c = 107 ∧ i = 51) → mGi (mPi (mPl h5 139 r.length (wk s a.1 b.1)) 107 51 (nS sg r : Int)) c i = mGi h5 c i := fun c i hb => by rw [gi_pi, if_neg hb, gi_pl]
  refine ⟨_, rfl, F6, (gi6 107 49 (by omega)).trans g49', (gi6 107 50 (by omega)).trans g50', gi_s, ⟨?_, VsR.cg (fun j hj => ?_) z4.2.2⟩, SgR.cg (fun j _ => ⟨(gi6 147 j (by omega)).trans (gi5 147 j (by omega)), (gi6 148 j (by omega)).trans (gi5 148 j (by omega))⟩) z5.2.2, ?_⟩
  · rw [gl_pi, gl_pl, if_pos ⟨rfl, rfl⟩]; rfl
  · rw [gl_pi, gl_pl, if_neg (by omega)]; exact gl5 139 j
  · have e1 := gi6 107 1 (by omega)
    exact ⟨fun q => e1.trans (q5.1 q), fun q => e1.trans (q5.2 q)⟩
noncomputable def rdL (f : Nat) (v1 : Int) (h : MH) : RS Unit := itr (fun self (q : Int × MH) => F_M_reduceTo_0_b (fun v1 h => self (v1, h)) q.1 q.2) f (v1, h)
theorem rdL_s {f : Nat} {v1 : Int} : rdL (f + 1) v1 h = F_M_reduceTo_0_b (rdL f) v1 h := rfl
theorem rd_l (h1 : 1 ≤ st) (h10 : st ≤ 10) : ∀ (sg : List Int) (f : Nat) (v : Int64 × Bool) (r : VS) (h : MH), sg.length < f → EsF h v r sg → (∀ s ∈ sg, sgP s) → r.length = bin sg → r.length ≤ 110 → sg.length ≤ 110 →
    ∃ h' v' r' sg', apd st sg (v :: r) = (v' :: r', sg') ∧ rdL f st h = some (.inl (), h') ∧ FW pEr qEr h h' ∧ EsF h' v' r' sg' ∧ r'.length = bin sg' ∧ (∀ s ∈ sg', sgP s) ∧ r'.length ≤ r.length ∧ sg'.length ≤ sg.length ∧ ∀ x q, sg' = x :: q → strn x < st := by
  intro sg
  induction sg with
  | nil =>
    intro f v r h hf z w hb hv hs
    obtain ⟨f, rfl⟩ : ∃ g, f = g + 1 := ⟨f - 1, by omega⟩
    refine ⟨h, v, r, [], ?_, ?_, FW.rf, z, hb, w, Nat.le_refl _, Nat.le_refl _, fun x q e => (by cases e)⟩
    · rw [apd]
    · rw [rdL_s, F_M_reduceTo_0_b, z.2.1, if_pos (by decide)]
  | cons s sg ih =>
    intro f v r h hf z w hb hv hs
    obtain ⟨f, rfl⟩ : ∃ g, f = g + 1 := ⟨f - 1, by omega⟩
    rw [List.length_cons] at hf hs
    have ws := (w s List.mem_cons_self).1
    have w' : ∀ x ∈ sg, sgP x := fun x hx => w x (List.mem_cons_of_mem _ hx)
    have z2 := z.2.1
    rw [List.length_cons] at z2
    have z147 : mGi h 147 sg.length = enc s := by
      have z5 := z.2.2.2.2.1
      rw [SgR.eq_def] at z5
      exact z5.1
    have e0 : rdL (f + 1) st h = if st ≤ strn s then F_M_reduceTo_39 (rdL f) st h else some (.inl (), h) := by
      rw [rdL_s, F_M_reduceTo_0_b, z2, if_neg (by omega), gd_rg (by omega) (by omega), show ((sg.length + 1 : Nat) : Int) - 1 = (sg.length : Int) by omega, gd_b (by omega) (by omega), Int.toNat_natCast, z147]
      rcases ws with q | q
      · have he : enc s = s := by unfold enc; rw [if_pos q.2]
        rw [he, if_neg (by omega), strM_e q.2, bnd_l]
        by_cases c : st ≤ strn s
        · rw [if_neg (by omega), if_pos c]
        · rw [if_pos (by omega), if_neg c]
      · have he : enc s < 0 := by unfold enc; rw [if_neg (by omega)]; omega
        rw [if_pos he, strn_u q, if_pos (by omega)]
    rw [e0]
    by_cases c : st ≤ strn s
    · rw [if_pos c]
      unfold F_M_reduceTo_39
      by_cases c2 : 65536 ≤ s
      · have hu : s = 65581 ∨ s = 65569 ∨ s = 65662 := by rcases ws with q | q; omega; exact q
        rw [bin_u (by omega)] at hb
        obtain ⟨h2, e2, f2, y2⟩ := red_u hu z (by omega) (by omega)
        rw [e2, bnd_l, apd_u c c2]
        obtain ⟨h3, v', r', sg', a1, a2, a3, a4, a5, a6, a7, a8, a9⟩ := ih f (apA (s - 65536) v.1, v.2) r h2 (by omega) y2 w' hb (by omega) (by omega)
        exact ⟨h3, v', r', sg', a1, a2, f2.tr a3, a4, a5, a6, a7, by rw [List.length_cons]; omega, a9⟩
      · have h40 : s ≠ 40 := fun q => by rw [q, strn_40] at c; omega
        rw [bin_c (by omega) h40] at hb
        cases r with
        | nil => rw [List.length_nil] at hb; omega
        | cons a r =>
          rw [List.length_cons] at hb hv
          obtain ⟨h2, e2, f2, y2⟩ := red_b (by rcases ws with q | q <;> omega) (by omega) h40 z (by omega) (by omega)
          rw [e2, bnd_l, apd_b c c2]
          obtain ⟨h3, v', r', sg', a1, a2, a3, a4, a5, a6, a7, a8, a9⟩ := ih f (apB s a v) r h2 (by omega) y2 w' (by omega) (by omega) (by omega)
          exact ⟨h3, v', r', sg', a1, a2, f2.tr a3, a4, a5, a6, by rw [List.length_cons]; omega, by rw [List.length_cons]; omega, a9⟩
    · rw [if_neg c, apd_n c]
      exact ⟨h, v, r, s :: sg, rfl, rfl, FW.rf, z, hb, w, Nat.le_refl _, Nat.le_refl _, fun x q e => by cases e; omega⟩
end Er
