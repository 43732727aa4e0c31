/-! the class's values -/
section Es
variable {h h' : MH} {M : Nat} {vs : VS} {sg : List Int}
def VsC (h : MH) : VS → Prop
  | [] => True
  | v :: r => mGl h 98 r.length = v.1 ∧ mGi h 99 r.length = bI v.2 ∧ VsC h r
def SgC (h : MH) : List Int → Prop
  | [] => True
  | s :: r => mGi h 100 r.length = s ∧ SgC h r
def EsC (h : MH) (vs : VS) (sg : List Int) : Prop := mGi h 97 3 = (vs.length : Int) ∧ mGi h 97 5 = (sg.length : Int) ∧ VsC h vs ∧ SgC h sg
def pE (b i : Nat) : Prop := (b = 97 ∧ (i = 3 ∨ i = 5)) ∨ b = 99 ∨ b = 100
def qE (b _i : Nat) : Prop := b = 98
def sgW (s : Int) : Prop := (0 ≤ s ∧ s < 65536) ∨ s = 65581 ∨ s = 65569 ∨ s = 65662
def bin : List Int → Nat
  | [] => 0
  | s :: r => (if s < 65536 ∧ s ≠ 40 then 1 else 0) + bin r
theorem VsC.cg : ∀ {vs : VS}, (∀ j, j < vs.length → mGl h' 98 j = mGl h 98 j ∧ mGi h' 99 j = mGi h 99 j) → VsC h vs → VsC h' vs
  | [], _, _ => trivial
  | v :: r, e, z => ⟨(e r.length (by rw [List.length_cons]; omega)).1.trans z.1, (e r.length (by rw [List.length_cons]; omega)).2.trans z.2.1, VsC.cg (fun j hj => e j (by rw [List.length_cons]; omega)) z.2.2⟩
theorem SgC.cg : ∀ {sg : List Int}, (∀ j, j < sg.length → mGi h' 100 j = mGi h 100 j) → SgC h sg → SgC h' sg
  | [], _, _ => trivial
  | s :: r, e, z => ⟨(e r.length (by rw [List.length_cons]; omega)).trans z.1, SgC.cg (fun j hj => e j (by rw [List.length_cons]; omega)) z.2⟩
theorem a16 {s : Int} (h0 : 0 ≤ s) (h1 : s < 65536) : iAnd s 65536 = 0 := by
  obtain ⟨n, rfl⟩ : ∃ n : Nat, s = (n : Int) := ⟨s.toNat, by omega⟩
  unfold iAnd
  have e : (Int32.ofInt (65536 : Int)).toBitVec.toNat = 2 ^ 16 := by decide
  refine i32_i (x := 0) ?_ (by decide)
  rw [Int32.toBitVec_and, BitVec.toNat_and, i32_n (by omega), e, and_bit, if_neg]
  rw [Nat.div_eq_of_lt (by omega)]
  decide
theorem sgW.and {s : Int} (z : sgW s) : (iAnd s 65536 = 0) ↔ s < 65536 := by
  rcases z with ⟨h0, h1⟩ | h | h | h
  · exact ⟨fun _ => h1, fun _ => a16 h0 h1⟩
  all_goals
    subst h
    exact ⟨fun q => absurd q (by decide), fun q => absurd q (by decide)⟩
theorem str_e {s : Int} (z : sgW s) : F_Es_strengthOf s h = some (.inl (strn s), h) := by
  unfold F_Es_strengthOf strn
  have e := z.and
  by_cases c1 : s = 37
  · simp only [if_pos c1]
  simp only [if_neg c1]
  by_cases c2 : s = 38
  · simp only [if_pos c2]
  simp only [if_neg c2]
  by_cases c3 : s = 42
  · simp only [if_pos c3]
  simp only [if_neg c3]
  by_cases c4 : s = 43
  · simp only [if_pos c4]
  simp only [if_neg c4]
  by_cases c5 : s = 45
  · simp only [if_pos c5]
  simp only [if_neg c5]
  by_cases c6 : s = 47
  · simp only [if_pos c6]
  simp only [if_neg c6]
  by_cases c7 : s = 60
  · simp only [if_pos c7]
  simp only [if_neg c7]
  by_cases c8 : s = 62
  · simp only [if_pos c8]
  simp only [if_neg c8]
  by_cases c9 : s = 94
  · simp only [if_pos c9]
  simp only [if_neg c9]
  by_cases c10 : s = 124
  · simp only [if_pos c10]
  simp only [if_neg c10]
  by_cases c11 : s = 9766
  · simp only [if_pos c11]
  simp only [if_neg c11]
  by_cases c12 : s = 15420
  · simp only [if_pos c12]
  simp only [if_neg c12]
  by_cases c13 : s = 15649
  · simp only [if_pos c13]
  simp only [if_neg c13]
  by_cases c14 : s = 15676
  · simp only [if_pos c14]
  simp only [if_neg c14]
  by_cases c15 : s = 15677
  · simp only [if_pos c15]
  simp only [if_neg c15]
  by_cases c16 : s = 15678
  · simp only [if_pos c16]
  simp only [if_neg c16]
  by_cases c17 : s = 15934
  · simp only [if_pos c17]
  simp only [if_neg c17]
  by_cases c18 : s = 31868
  · simp only [if_pos c18]
  simp only [if_neg c18]
  by_cases c : s < 65536
  · rw [if_pos (e.mpr c), if_neg (by omega)]
  · rw [if_neg (fun q => c (e.mp q)), if_pos (by omega)]
theorem strn_b {s : Int} (h1 : s < 65536) : strn s ≤ 10 ∧ 0 ≤ strn s := by
  unfold strn
  by_cases c0 : s = 37
  · simp only [if_pos c0]; decide
  simp only [if_neg c0]
  by_cases c1 : s = 38
  · simp only [if_pos c1]; decide
  simp only [if_neg c1]
  by_cases c2 : s = 42
  · simp only [if_pos c2]; decide
  simp only [if_neg c2]
  by_cases c3 : s = 43
  · simp only [if_pos c3]; decide
  simp only [if_neg c3]
  by_cases c4 : s = 45
  · simp only [if_pos c4]; decide
  simp only [if_neg c4]
  by_cases c5 : s = 47
  · simp only [if_pos c5]; decide
  simp only [if_neg c5]
  by_cases c6 : s = 60
  · simp only [if_pos c6]; decide
  simp only [if_neg c6]
  by_cases c7 : s = 62
  · simp only [if_pos c7]; decide
  simp only [if_neg c7]
  by_cases c8 : s = 94
  · simp only [if_pos c8]; decide
  simp only [if_neg c8]
  by_cases c9 : s = 124
  · simp only [if_pos c9]; decide
  simp only [if_neg c9]
  by_cases c10 : s = 9766
  · simp only [if_pos c10]; decide
  simp only [if_neg c10]
  by_cases c11 : s = 15420
  · simp only [if_pos c11]; decide
  simp only [if_neg c11]
  by_cases c12 : s = 15649
  · simp only [if_pos c12]; decide
  simp only [if_neg c12]
  by_cases c13 : s = 15676
  · simp only [if_pos c13]; decide
  simp only [if_neg c13]
  by_cases c14 : s = 15677
  · simp only [if_pos c14]; decide
  simp only [if_neg c14]
  by_cases c15 : s = 15678
  · simp only [if_pos c15]; decide
  simp only [if_neg c15]
  by_cases c16 : s = 15934
  · simp only [if_pos c16]; decide
  simp only [if_neg c16]
  by_cases c17 : s = 31868
  · simp only [if_pos c17]; decide
  simp only [if_neg c17]
  rw [if_neg (by omega)]
  decide
theorem strn_40 : strn 40 = 0 := by decide
theorem ahead_e {s : Int} {v : Int64 × Bool} {r : VS} (z : EsC h (v :: r) sg) (hv : r.length < 100) : ∃ h', F_Es_applyAhead s h = some (.inl (), h') ∧ FW pE qE h h' ∧ EsC h' ((apA s v.1, v.2) :: r) sg := by
  obtain ⟨z1, z2, ⟨z3, z4, z5⟩, z6⟩ := z
  rw [List.length_cons] at z1
  have fin : ∀ x : Int64, x = apA s v.1 → FW pE qE h (mPl h 98 r.length x) ∧ EsC (mPl h 98 r.length x) ((apA s v.1, v.2) :: r) sg := fun x hx => by
    refine ⟨FW.pl FW.rf rfl, by rw [gi_pl, z1]; rfl, by rw [gi_pl, z2], ⟨?_, by rw [gi_pl]; exact z4, VsC.cg (fun j hj => ⟨?_, by rw [gi_pl]⟩) z5⟩, SgC.cg (fun j _ => by rw [gi_pl]) z6⟩
    · rw [gl_pl, if_pos ⟨rfl, rfl⟩, hx]
    · rw [gl_pl, if_neg (by omega)]
  unfold F_Es_applyAhead F_Es_applyAhead_75
  rw [z1, gd_rg (by omega) (by omega), show ((r.length + 1 : Nat) : Int) - 1 = (r.length : Int) by omega]
  simp only [Int.toNat_natCast, z3, sto_e]
  by_cases c1 : s = 45
  · rw [if_pos c1, gd_b (by omega) (by omega)]
    exact ⟨_, rfl, fin _ (by unfold apA; rw [if_pos c1])⟩
  rw [if_neg c1]
  by_cases c2 : s = 126
  · rw [if_pos c2, gd_b (by omega) (by omega)]
    exact ⟨_, rfl, fin _ (by unfold apA; rw [if_neg c1, if_pos c2])⟩
  rw [if_neg c2, gd_b (by omega) (by omega)]
  by_cases c3 : lgI v.1 (0 : Int64) = 0
  · rw [if_pos c3, gd_b (by omega) (by omega)]
    exact ⟨_, rfl, fin _ (by unfold apA; rw [if_neg c1, if_neg c2, if_pos c3])⟩
  · rw [if_neg c3, gd_b (by omega) (by omega)]
    exact ⟨_, rfl, fin _ (by unfold apA; rw [if_neg c1, if_neg c2, if_neg c3])⟩
theorem bt_133 {s : Int} {a b : Int64} {n : Nat} {v7 x : Int} (hn : n < 100) (h7 : s = 37 ∨ s = 47 → (v7 = 0 ↔ ¬ lgI b (0 : Int64) = 0)) (hx : p01 x) : F_Es_applyBetween_133 s (n : Int) a b v7 (n : Int) x h = some (.inl (), mPl (mPi h 99 n x) 98 n (wk s a b)) := by
  have t : ∀ w : Int64, w = wk s a b → F_Es_applyBetween_547 (n : Int) w (mPi h 99 n x) = some (.inl (), mPl (mPi h 99 n x) 98 n (wk s a b)) := fun w hw => by
    unfold F_Es_applyBetween_547
    rw [gd_b (by omega) (by omega), hw, Int.toNat_natCast]
    rfl
  unfold F_Es_applyBetween_133
  rw [gd_b (by omega) (by omega), gd_t hx, Int.toNat_natCast]
  simp only [sto_e, F_Es_applyBetween_545, F_Es_applyBetween_540, F_Es_applyBetween_522, F_Es_applyBetween_521, F_Es_applyBetween_472, F_Es_applyBetween_455, F_Es_applyBetween_438, F_Es_applyBetween_421, F_Es_applyBetween_404, F_Es_applyBetween_387, F_Es_applyBetween_324, F_Es_applyBetween_306]
  unfold wk at t ⊢
  by_cases c0 : s = 37
  · simp only [if_pos c0] at t ⊢
    by_cases d : lgI b (0 : Int64) = 0
    · rw [if_neg (fun q => (h7 (.inl c0)).mp q d)]; simp only [if_pos d] at t ⊢; exact t _ rfl
    · rw [if_pos ((h7 (.inl c0)).mpr d), gd_t (fun e => d (lg_eq.mpr e))]; simp only [if_neg d] at t ⊢; exact t _ rfl
  simp only [if_neg c0] at t ⊢
  by_cases c1 : s = 38
  · simp only [if_pos c1] at t ⊢
    exact t _ rfl
  simp only [if_neg c1] at t ⊢
  by_cases c2 : s = 42
  · simp only [if_pos c2] at t ⊢
    exact t _ rfl
  simp only [if_neg c2] at t ⊢
  by_cases c3 : s = 43
  · simp only [if_pos c3] at t ⊢
    exact t _ rfl
  simp only [if_neg c3] at t ⊢
  by_cases c4 : s = 45
  · simp only [if_pos c4] at t ⊢
    exact t _ rfl
  simp only [if_neg c4] at t ⊢
  by_cases c5 : s = 47
  · simp only [if_pos c5] at t ⊢
    by_cases d : lgI b (0 : Int64) = 0
    · rw [if_neg (fun q => (h7 (.inr c5)).mp q d)]; simp only [if_pos d] at t ⊢; exact t _ rfl
    · rw [if_pos ((h7 (.inr c5)).mpr d), gd_t (fun e => d (lg_eq.mpr e))]; simp only [if_neg d] at t ⊢; exact t _ rfl
  simp only [if_neg c5] at t ⊢
  by_cases c6 : s = 60
  · simp only [if_pos c6] at t ⊢
    by_cases d1 : 0 ≤ lgI a b
    · simp only [if_pos d1] at t ⊢; exact t _ rfl
    · simp only [if_neg d1] at t ⊢; exact t _ rfl
  simp only [if_neg c6] at t ⊢
  by_cases c7 : s = 62
  · simp only [if_pos c7] at t ⊢
    by_cases d1 : lgI a b ≤ 0
    · simp only [if_pos d1] at t ⊢; exact t _ rfl
    · simp only [if_neg d1] at t ⊢; exact t _ rfl
  simp only [if_neg c7] at t ⊢
  by_cases c8 : s = 94
  · simp only [if_pos c8] at t ⊢
    exact t _ rfl
  simp only [if_neg c8] at t ⊢
  by_cases c9 : s = 124
  · simp only [if_pos c9] at t ⊢
    exact t _ rfl
  simp only [if_neg c9] at t ⊢
  by_cases c10 : s = 9766
  · simp only [if_pos c10] at t ⊢
    by_cases d1 : lgI a (0 : Int64) = 0
    · simp only [if_pos d1] at t ⊢; exact t _ rfl
    · simp only [if_neg d1] at t ⊢
      by_cases d2 : lgI b (0 : Int64) = 0
      · simp only [if_pos d2] at t ⊢; exact t _ rfl
      · simp only [if_neg d2] at t ⊢; exact t _ rfl
  simp only [if_neg c10] at t ⊢
  by_cases c11 : s = 15420
  · simp only [if_pos c11] at t ⊢
    exact t _ rfl
  simp only [if_neg c11] at t ⊢
  by_cases c12 : s = 15649
  · simp only [if_pos c12] at t ⊢
    by_cases d1 : lgI a b = 0
    · simp only [if_pos d1] at t ⊢; exact t _ rfl
    · simp only [if_neg d1] at t ⊢; exact t _ rfl
  simp only [if_neg c12] at t ⊢
  by_cases c13 : s = 15676
  · simp only [if_pos c13] at t ⊢
    by_cases d1 : 0 < lgI a b
    · simp only [if_pos d1] at t ⊢; exact t _ rfl
    · simp only [if_neg d1] at t ⊢; exact t _ rfl
  simp only [if_neg c13] at t ⊢
  by_cases c14 : s = 15677
  · simp only [if_pos c14] at t ⊢
    by_cases d1 : lgI a b = 0
    · simp only [if_pos d1] at t ⊢; exact t _ rfl
    · simp only [if_neg d1] at t ⊢; exact t _ rfl
  simp only [if_neg c14] at t ⊢
  by_cases c15 : s = 15678
  · simp only [if_pos c15] at t ⊢
    by_cases d1 : lgI a b < 0
    · simp only [if_pos d1] at t ⊢; exact t _ rfl
    · simp only [if_neg d1] at t ⊢; exact t _ rfl
  simp only [if_neg c15] at t ⊢
  by_cases c16 : s = 15934
  · simp only [if_pos c16] at t ⊢
    exact t _ rfl
  simp only [if_neg c16] at t ⊢
  by_cases d1 : lgI a (0 : Int64) = 0
  · simp only [if_pos d1] at t ⊢
    by_cases d2 : lgI b (0 : Int64) = 0
    · simp only [if_pos d2] at t ⊢; exact t _ rfl
    · simp only [if_neg d2] at t ⊢; exact t _ rfl
  · simp only [if_neg d1] at t ⊢; exact t _ rfl
theorem bI_p (b : Bool) : p01 (bI b) := by cases b; exact .inl rfl; exact .inr rfl
theorem btw_e {s : Int} {a b : Int64 × Bool} {r : VS} (z : EsC h (b :: a :: r) sg) (hv : r.length + 1 < 100) : ∃ h', F_Es_applyBetween s h = some (.inl (), h') ∧ FW pE qE h h' ∧ EsC h' (apB s a b :: r) sg := by
  obtain ⟨z1, z2, ⟨z3, z4, z5, z6, z7⟩, z8⟩ := z
  rw [List.length_cons] at z3 z4
  rw [List.length_cons, List.length_cons] at z1
  have g1 : mGi (mPi h 97 3 (((r.length + 1 + 1 : Nat) : Int) - 1)) 97 3 = ((r.length + 1 : Nat) : Int) := by rw [gi_s]; omega
  refine ⟨mPl (mPi (mPi h 97 3 (((r.length + 1 + 1 : Nat) : Int) - 1)) 99 r.length (bI (spl s a b))) 98 r.length (wk s a.1 b.1), ?_, FW.pl (FW.pi (FW.pi FW.rf (by unfold pE; omega)) (by unfold pE; omega)) rfl, ?_, ?_, ⟨?_, ?_, ?_⟩, ?_⟩
  · have key : ∀ (v7 s0 : Int), (s = 37 ∨ s = 47 → (v7 = 0 ↔ ¬ lgI b.1 (0 : Int64) = 0)) → (v7 = 0 ↔ ¬ ((s = 47 ∨ s = 37) ∧ b.1 = 0)) → (s0 = 0 ↔ ¬ ((s = 9766 ∧ a.1 = 0) ∨ (s = 31868 ∧ a.1 ≠ 0))) → F_Es_applyBetween_91 s (r.length : Int) a.1 b.1 v7 s0 (mPi h 97 3 (((r.length + 1 + 1 : Nat) : Int) - 1)) = some (.inl (), mPl (mPi (mPi h 97 3 (((r.length + 1 + 1 : Nat) : Int) - 1)) 99 r.length (bI (spl s a b))) 98 r.length (wk s a.1 b.1)) := by
      intro v7 s0 h7 h7' hs0
      unfold F_Es_applyBetween_91 F_Es_applyBetween_132 F_Es_applyBetween_128
      have t0 := bt_133 (h := mPi h 97 3 (((r.length + 1 + 1 : Nat) : Int) - 1)) (s := s) (a := a.1) (b := b.1) (n := r.length) (v7 := v7) (x := 0) (by omega) h7 (.inl rfl)
      have t1 := bt_133 (h := mPi h 97 3 (((r.length + 1 + 1 : Nat) : Int) - 1)) (s := s) (a := a.1) (b := b.1) (n := r.length) (v7 := v7) (x := 1) (by omega) h7 (.inr rfl)
      have m0 : mGi (mPi h 97 3 (((r.length + 1 + 1 : Nat) : Int) - 1)) 99 r.length = bI a.2 := by rw [gi_pi, if_neg (by omega)]; exact z6
      have m1 : mGi (mPi h 97 3 (((r.length + 1 + 1 : Nat) : Int) - 1)) 99 (r.length + 1) = bI b.2 := by rw [gi_pi, if_neg (by omega)]; exact z4
      rw [gd_b (by omega) (by omega), gd_rg (by omega) (by omega), gd_b (by omega) (by omega), Int.toNat_natCast, show ((r.length : Int) + 1).toNat = r.length + 1 by omega, m0, m1, t0, t1]
      unfold spl
      have q1 : decide ((s = 47 ∨ s = 37) ∧ b.1 = 0) = !decide (v7 = 0) := by
        by_cases c : v7 = 0
        · rw [decide_eq_true c, decide_eq_false (h7'.mp c)]; rfl
        · rw [decide_eq_false c, decide_eq_true (Classical.byContradiction fun q => c (h7'.mpr q))]; rfl
      have q2 : decide ((s = 9766 ∧ a.1 = 0) ∨ (s = 31868 ∧ a.1 ≠ 0)) = !decide (s0 = 0) := by
        by_cases c : s0 = 0
        · rw [decide_eq_true c, decide_eq_false (hs0.mp c)]; rfl
        · rw [decide_eq_false c, decide_eq_true (Classical.byContradiction fun q => c (hs0.mpr q))]; rfl
      rw [q1, q2]
      by_cases c1 : v7 = 0
      · by_cases c2 : s0 = 0
        · rw [if_pos c1, if_pos c2, decide_eq_true c1, decide_eq_true c2]
          cases a.2 <;> cases b.2 <;> rfl
        · rw [if_pos c1, if_neg c2, decide_eq_true c1, decide_eq_false c2]
          cases a.2 <;> cases b.2 <;> rfl
      · rw [if_neg c1, decide_eq_false c1]
        cases a.2 <;> cases b.2 <;> rfl
    have k58 : ∀ v7 : Int, (s = 37 ∨ s = 47 → (v7 = 0 ↔ ¬ lgI b.1 (0 : Int64) = 0)) → (v7 = 0 ↔ ¬ ((s = 47 ∨ s = 37) ∧ b.1 = 0)) → F_Es_applyBetween_58 s (r.length : Int) a.1 b.1 v7 (mPi h 97 3 (((r.length + 1 + 1 : Nat) : Int) - 1)) = some (.inl (), mPl (mPi (mPi h 97 3 (((r.length + 1 + 1 : Nat) : Int) - 1)) 99 r.length (bI (spl s a b))) 98 r.length (wk s a.1 b.1)) := by
      intro v7 h7 h7'
      unfold F_Es_applyBetween_58 F_Es_applyBetween_73 F_Es_applyBetween_86 F_Es_applyBetween_90
      by_cases c1 : s = 9766
      · rw [if_pos c1]
        by_cases c2 : lgI a.1 (0 : Int64) = 0
        · rw [if_pos c2]
          exact key v7 1 h7 h7' ⟨fun q => absurd q (by decide), fun q => absurd (.inl ⟨c1, lg_eq.mp c2⟩) q⟩
        · rw [if_neg c2, if_neg (by omega)]
          exact key v7 0 h7 h7' ⟨fun _ q => by rcases q with q | q; exact c2 (lg_eq.mpr q.2); omega, fun _ => rfl⟩
      · rw [if_neg c1]
        by_cases c3 : s = 31868
        · rw [if_pos c3]
          by_cases c2 : lgI a.1 (0 : Int64) = 0
          · rw [if_pos c2]
            exact key v7 0 h7 h7' ⟨fun _ q => by rcases q with q | q; exact c1 q.1; exact q.2 (lg_eq.mp c2), fun _ => rfl⟩
          · rw [if_neg c2]
            exact key v7 1 h7 h7' ⟨fun q => absurd q (by decide), fun q => absurd (.inr ⟨c3, fun e => c2 (lg_eq.mpr e)⟩) q⟩
        · rw [if_neg c3]
          exact key v7 0 h7 h7' ⟨fun _ q => by rcases q with q | q; exact c1 q.1; exact c3 q.1, fun _ => rfl⟩
    have k46 : (s = 47 ∨ s = 37) → F_Es_applyBetween_46 s (r.length : Int) a.1 b.1 (mPi h 97 3 (((r.length + 1 + 1 : Nat) : Int) - 1)) = some (.inl (), mPl (mPi (mPi h 97 3 (((r.length + 1 + 1 : Nat) : Int) - 1)) 99 r.length (bI (spl s a b))) 98 r.length (wk s a.1 b.1)) := by
      intro hs
      unfold F_Es_applyBetween_46 F_Es_applyBetween_57
      by_cases c2 : lgI b.1 (0 : Int64) = 0
      · rw [if_pos c2]
        exact k58 1 (fun _ => ⟨fun q => absurd q (by decide), fun q => absurd c2 q⟩) ⟨fun q => absurd q (by decide), fun q => absurd ⟨hs, lg_eq.mp c2⟩ q⟩
      · rw [if_neg c2]
        exact k58 0 (fun _ => ⟨fun _ => c2, fun _ => rfl⟩) ⟨fun _ q => c2 (lg_eq.mpr q.2), fun _ => rfl⟩
    unfold F_Es_applyBetween
    rw [z1, gd_rg (by omega) (by omega)]
    simp only [sto_e]
    rw [g1, gd_rg (by omega) (by omega), show ((r.length + 1 : Nat) : Int) - 1 = (r.length : Int) by omega, gd_b (by omega) (by omega), gd_rg (by omega) (by omega), gd_b (by omega) (by omega), Int.toNat_natCast, show ((r.length : Int) + 1).toNat = r.length + 1 by omega, gl_pi, gl_pi, z5, z3]
    by_cases c1 : s = 47
    · rw [if_pos c1]
      exact k46 (.inl c1)
    rw [if_neg c1]
    by_cases c2 : s = 37
    · rw [if_pos c2]
      exact k46 (.inr c2)
    rw [if_neg c2]
    unfold F_Es_applyBetween_57
    exact k58 0 (fun q => by omega) ⟨fun _ q => by omega, fun _ => rfl⟩
  · rw [gi_pl, gi_pi, if_neg (by omega), g1, List.length_cons]
  · rw [gi_pl, gi_pi, if_neg (by omega), gi_pi, if_neg (by omega), z2]
  · rw [gl_pl, if_pos ⟨rfl, rfl⟩]; rfl
  · rw [gi_pl, gi_s]; rfl
  · refine VsC.cg (fun j hj => ⟨?_, ?_⟩) z7
    · rw [gl_pl, if_neg (by omega), gl_pi, gl_pi]
    · rw [gi_pl, gi_pi, if_neg (by omega), gi_pi, if_neg (by omega)]
  · refine SgC.cg (fun j hj => ?_) z8
    rw [gi_pl, gi_pi, if_neg (by omega), gi_pi, if_neg (by omega)]
end Es
