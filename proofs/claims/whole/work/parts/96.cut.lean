/-! the class's arguments in a row of tokens -/
section Cut
variable {h h' : MH} {M r : Nat} {t : Tk} {m : Bool} {w : List Tk}
def CuP (h : MH) (M r : Nat) : Nat → Nat → List (List Tk) → Prop
  | _, _, [] => True
  | j, c, a :: l => (j < 3 → mGi h (r + 4) (j + 1) = ((c + 1 + a.length : Nat) : Int)) ∧ TSg h M (r + 1) (c + 1) (um a) ∧ CuP h M r (j + 1) (c + 1 + a.length) l
def lp : Nat → List (List Tk) → Nat
  | c, [] => c
  | c, a :: l => lp (c + 1 + a.length) l
theorem lp_app : ∀ (l : List (List Tk)) (c : Nat) (a : List Tk), lp c (l ++ [a]) = lp c l + 1 + a.length
  | [], _, _ => rfl
  | b :: l, c, a => lp_app l _ a
theorem CuP.cg {M' : Nat} (e : ∀ j, j < M → mGi h' 88 j = mGi h 88 j) (h1 : M ≤ M') (h2 : M' ≤ 1302) (el : ∀ j, mGl h' (r + 1) j = mGl h (r + 1) j) : ∀ {l : List (List Tk)} {j c : Nat}, (∀ i, j < i → i < 4 → i ≤ j + l.length → mGi h' (r + 4) i = mGi h (r + 4) i) → CuP h M r j c l → CuP h' M' r j c l
  | [], _, _, _, _ => trivial
  | a :: l, j, c, ei, z => ⟨fun hj => (ei (j + 1) (by omega) (by omega) (by rw [List.length_cons]; omega)).trans (z.1 hj), TSg.cg e h1 h2 (fun j _ _ => el j) z.2.1, CuP.cg e h1 h2 el (fun i a b c => ei i (by omega) b (by rw [List.length_cons]; omega)) z.2.2⟩
theorem CuP.app : ∀ {l : List (List Tk)} {j c : Nat} {a : List Tk}, CuP h M r j c l → (j + l.length < 3 → mGi h (r + 4) (j + l.length + 1) = ((lp c l + 1 + a.length : Nat) : Int)) → TSg h M (r + 1) (lp c l + 1) (um a) → CuP h M r j c (l ++ [a])
  | [], j, c, a, _, e, s => ⟨e, s, trivial⟩
  | b :: l, j, c, a, z, e, s => by
    refine ⟨z.1, z.2.1, CuP.app z.2.2 (fun hj => ?_) s⟩
    have q := e (by rw [List.length_cons]; omega)
    rw [List.length_cons, show j + (l.length + 1) + 1 = j + 1 + l.length + 1 by omega] at q
    exact q
theorem CuP.get : ∀ {l : List (List Tk)} {j c : Nat} (_ : CuP h M r j c l) (_ : j ≤ 3 → mGi h (r + 4) j = (c : Int)) {i : Nat}, i < l.length → j + i < 3 → ∃ p : Nat, mGi h (r + 4) (j + i) = (p : Int) ∧ mGi h (r + 4) (j + i + 1) = ((p + 1 + (l.getD i []).length : Nat) : Int) ∧ TSg h M (r + 1) (p + 1) (um (l.getD i []))
  | [], _, _, _, _, i, hi, _ => absurd hi (Nat.not_lt_zero _)
  | a :: l, j, c, z, e, 0, _, h3 => ⟨c, e (by omega), z.1 (by omega), z.2.1⟩
  | a :: l, j, c, z, e, i + 1, hi, h3 => by
    rw [List.length_cons] at hi
    have q := CuP.get z.2.2 (fun _ => z.1 (by omega)) (i := i) (by omega) (by omega)
    rw [show j + 1 + i = j + (i + 1) by omega] at q
    exact q
def pU (r b i : Nat) : Prop := (b = r ∧ i = 7) ∨ b = r + 4
theorem sg_x {a b : Int} (hab : a ≠ b) (z : isSg t a = true) : isSg t b = false := by
  unfold isSg at z ⊢
  rw [decide_eq_true_eq] at z
  refine decide_eq_false fun q => hab ?_
  have := z.2.symm.trans q.2
  simpa using this
theorem cu_l {c0 : Nat} (h88 : r ≠ 88) (hr4 : r + 4 ≠ 88) (hb : M ≤ 1302) : ∀ (rest : List Tk) (f k o : Nat) (cu : List Tk) (ar : List (List Tk)) (h : MH), rest.length < f → k + rest.length = 100 → 1 ≤ o → o ≤ k → ar.length ≤ k → k = lp c0 ar + 1 + cu.length → TSg h M (r + 1) k (um rest) → TSg h M (r + 1) (lp c0 ar + 1) (um cu) → mGi h r 7 = (ar.length : Int) → mGi h (r + 4) 0 = (c0 : Int) → CuP h M r 0 c0 ar →
    ∃ h', FW (pU r) (fun _ _ => False) h h' ∧ (cutA o cu ar rest = none → itr (fun self (q : Nat × Int × Int × MH) => F_Ro_cutArguments_26_b (fun v0 v2 v3 h => self (v0, v2, v3, h)) q.1 q.2.1 q.2.2.1 q.2.2.2) f (r, (o : Int), (k : Int), h) = some (.inl (-1), h')) ∧
      (∀ ar' cl r', cutA o cu ar rest = some (ar', cl, r') → itr (fun self (q : Nat × Int × Int × MH) => F_Ro_cutArguments_26_b (fun v0 v2 v3 h => self (v0, v2, v3, h)) q.1 q.2.1 q.2.2.1 q.2.2.2) f (r, (o : Int), (k : Int), h) = some (.inl ((lp c0 ar' : Nat) : Int), h') ∧ mGi h' r 7 = (ar'.length : Int) ∧ mGi h' (r + 4) 0 = (c0 : Int) ∧ CuP h' M r 0 c0 ar' ∧ lp c0 ar' + 1 + r'.length = 100 ∧ TC h' M (mGl h' (r + 1) (lp c0 ar')) cl false ∧ TSg h' M (r + 1) (lp c0 ar' + 1) (um r')) := by
  intro rest
  induction rest with
  | nil =>
    intro f k o cu ar h hf hk ho hok hak ek s s2 e7 e0 cp
    obtain ⟨f, rfl⟩ : ∃ g, f = g + 1 := ⟨f - 1, by omega⟩
    rw [List.length_nil] at hk
    refine ⟨h, FW.rf, fun _ => ?_, fun ar' cl r' e => (by cases e)⟩
    rw [itr_s]
    dsimp only
    rw [F_Ro_cutArguments_26_b, if_pos (by omega)]
  | cons t rest ih =>
    intro f k o cu ar h hf hk ho hok hak ek s s2 e7 e0 cp
    obtain ⟨f, rfl⟩ : ∃ g, f = g + 1 := ⟨f - 1, by omega⟩
    rw [List.length_cons] at hk hf
    have s' : TC h M (mGl h (r + 1) k) t false ∧ TSg h M (r + 1) (k + 1) (um rest) := s
    have sg : ∀ c : Int, F_To_isSign (mGl h (r + 1) k) c h = some (.inl (bI (isSg t c)), h) := fun c => to_sign s'.1
    -- the token goes into the argument
    have grow : TSg h M (r + 1) (lp c0 ar + 1) (um (cu ++ [t])) := by
      rw [um_app, TSg.app]
      refine ⟨s2, ?_, trivial⟩
      rw [um_len, show lp c0 ar + 1 + cu.length = k by omega]
      exact s'.1
    rw [itr_s]
    dsimp only
    rw [F_Ro_cutArguments_26_b]
    unfold F_Ro_cutArguments_76 F_Ro_cutArguments_87
    rw [if_neg (show ¬ (100 : Int) ≤ (k : Int) by omega), gd_b (by omega) (by omega), Int.toNat_natCast, sg 41, bnd_l, sg 40, bnd_l, cutA]
    by_cases c40 : isSg t 40 = true
    · have c41 := sg_x (b := 41) (by decide) c40
      have c44 := sg_x (b := 44) (by decide) c40
      rw [if_pos c40, c40, c41, if_neg (show ¬ bI true = 0 by decide), gd_rg (by omega) (by omega), if_pos (show bI false = 0 from rfl), if_neg (show ¬ (o : Int) + 1 = 1 by omega)]
      unfold F_Ro_cutArguments_139 F_Ro_cutArguments_150
      rw [if_pos (show bI false = 0 from rfl), gd_rg (by omega) (by omega), show (o : Int) + 1 = ((o + 1 : Nat) : Int) by omega, show (k : Int) + 1 = ((k + 1 : Nat) : Int) by omega, if_neg (show ¬ o = 0 by omega)]
      exact ih f (k + 1) (o + 1) (cu ++ [t]) ar h (by omega) (by omega) (by omega) (by omega) (by omega) (by rw [List.length_append, List.length_singleton]; omega) s'.2 grow e7 e0 cp
    rw [if_neg c40, Bool.eq_false_iff.mpr c40, if_pos (show bI false = 0 from rfl)]
    -- an argument ends here
    have cut : ∀ (o' : Int) (b : Bool), ∃ h1, FW (pU r) (fun _ _ => False) h h1 ∧ F_Ro_cutArguments_107 (fun v0 v2 v3 h => itr (fun self (q : Nat × Int × Int × MH) => F_Ro_cutArguments_26_b (fun v0 v2 v3 h => self (v0, v2, v3, h)) q.1 q.2.1 q.2.2.1 q.2.2.2) f (v0, v2, v3, h)) r o' (k : Int) (bI b) h = F_Ro_cutArguments_139 (fun v0 v2 v3 h => itr (fun self (q : Nat × Int × Int × MH) => F_Ro_cutArguments_26_b (fun v0 v2 v3 h => self (v0, v2, v3, h)) q.1 q.2.1 q.2.2.1 q.2.2.2) f (v0, v2, v3, h)) r o' (k : Int) (bI b) h1 ∧ mGi h1 r 7 = ((ar ++ [cu]).length : Int) ∧ mGi h1 (r + 4) 0 = (c0 : Int) ∧ CuP h1 M r 0 c0 (ar ++ [cu]) := by
      intro o' b
      have el : lp c0 ar + 1 + cu.length = k := by omega
      unfold F_Ro_cutArguments_107
      rw [e7, gd_rg (by omega) (by omega)]
      simp only [sto_e]
      rw [gi_s]
      have f1 : FW (pU r) (fun _ _ => False) h (mPi h r 7 ((ar.length : Int) + 1)) := FW.pi FW.rf (by unfold pU; omega)
      by_cases c4 : 4 ≤ ar.length + 1
      · rw [if_pos (by show (4 : Int) ≤ _; omega)]
        refine ⟨_, f1, rfl, ?_, ?_, ?_⟩
        · rw [gi_s, List.length_append]; simp
        · rw [gi_pi, if_neg (by omega), e0]
        · refine CuP.app (CuP.cg (h := h) (fun j _ => f1.2.2.1 88 j (by unfold pU; omega)) (Nat.le_refl _) hb (fun j => rfl) (fun i _ _ _ => by rw [gi_pi, if_neg (by omega)]) cp) (fun hj => by omega) (TSg.cg (h := h) (fun j _ => f1.2.2.1 88 j (by unfold pU; omega)) (Nat.le_refl _) hb (fun j _ _ => rfl) s2)
      · rw [if_neg (by show ¬ (4 : Int) ≤ _; omega), gd_b (by omega) (by omega), show ((ar.length : Int) + 1).toNat = ar.length + 1 by omega]
        have f2 : FW (pU r) (fun _ _ => False) h (mPi (mPi h r 7 ((ar.length : Int) + 1)) (r + 4) (ar.length + 1) (k : Int)) := FW.pi f1 (by unfold pU; omega)
        refine ⟨_, f2, rfl, ?_, ?_, ?_⟩
        · rw [gi_pi, if_neg (by omega), gi_s, List.length_append]; simp
        · rw [gi_pi, if_neg (by omega), gi_pi, if_neg (by omega), e0]
        · refine CuP.app (CuP.cg (h := h) (fun j _ => f2.2.2.1 88 j (by unfold pU; omega)) (Nat.le_refl _) hb (fun j => rfl) (fun i a1 a2 a3 => by rw [gi_pi, if_neg (by omega), gi_pi, if_neg (by omega)]) cp) (fun hj => ?_) (TSg.cg (h := h) (fun j _ => f2.2.2.1 88 j (by unfold pU; omega)) (Nat.le_refl _) hb (fun j _ _ => rfl) s2)
          rw [gi_pi, if_pos ⟨rfl, by omega⟩, el]
    have stay : ∀ h1, FW (pU r) (fun _ _ => False) h h1 → TSg h1 M (r + 1) (k + 1) (um rest) ∧ TC h1 M (mGl h1 (r + 1) k) t false := fun h1 f1 => ⟨TSg.cg (fun j _ => f1.2.2.1 88 j (by unfold pU; omega)) (Nat.le_refl _) hb (fun j _ _ => f1.2.2.2 _ j id) s'.2, by rw [f1.2.2.2 _ k id]; exact s'.1.cg (fun j _ => f1.2.2.1 88 j (by unfold pU; omega)) (Nat.le_refl _) hb⟩
    by_cases c41 : isSg t 41 = true
    · have c44 := sg_x (b := 44) (by decide) c41
      rw [if_pos c41, c41, if_neg (show ¬ bI true = 0 by decide), gd_rg (by omega) (by omega), if_neg (show ¬ bI true = 0 by decide)]
      by_cases o1 : o ≤ 1
      · have ho1 : o = 1 := by omega
        obtain ⟨h1, f1, e1, a1, a2, a3⟩ := cut ((o : Int) + -1) true
        rw [if_pos (show (o : Int) + -1 = 0 by omega), if_pos o1, e1]
        unfold F_Ro_cutArguments_139
        rw [if_neg (show ¬ bI true = 0 by decide), if_pos (show (o : Int) + -1 = 0 by omega)]
        refine ⟨h1, f1, fun e => (by cases e), fun ar' cl r' e => ?_⟩
        cases e
        have el : lp c0 (ar ++ [cu]) = k := by rw [lp_app]; omega
        rw [el]
        exact ⟨rfl, a1, a2, a3, by omega, (stay h1 f1).2, (stay h1 f1).1⟩
      · rw [if_neg (show ¬ (o : Int) + -1 = 0 by omega), if_neg o1]
        unfold F_Ro_cutArguments_139 F_Ro_cutArguments_150
        rw [gd_b (by omega) (by omega), sg 44, bnd_l, c44, if_pos (show bI false = 0 from rfl), ite_self, if_neg (show ¬ bI true = 0 by decide), if_neg (show ¬ (o : Int) + -1 = 0 by omega), gd_rg (by omega) (by omega), show (o : Int) + -1 = ((o - 1 : Nat) : Int) by omega, show (k : Int) + 1 = ((k + 1 : Nat) : Int) by omega]
        exact ih f (k + 1) (o - 1) (cu ++ [t]) ar h (by omega) (by omega) (by omega) (by omega) (by omega) (by rw [List.length_append, List.length_singleton]; omega) s'.2 grow e7 e0 cp
    rw [if_neg c41, Bool.eq_false_iff.mpr c41, if_pos (show bI false = 0 from rfl), gd_rg (by omega) (by omega), if_pos (show bI false = 0 from rfl), Int.add_zero]
    by_cases c44 : isSg t 44 = true
    · by_cases o1 : o = 1
      · obtain ⟨h1, f1, e1, a1, a2, a3⟩ := cut (o : Int) false
        rw [if_pos (show isSg t 44 = true ∧ o = 1 from ⟨c44, o1⟩), if_pos (show (o : Int) = 1 by omega), gd_b (by omega) (by omega), sg 44, bnd_l, c44, if_neg (show ¬ bI true = 0 by decide), e1]
        unfold F_Ro_cutArguments_139 F_Ro_cutArguments_150
        rw [if_pos (show bI false = 0 from rfl), gd_rg (by omega) (by omega), show (k : Int) + 1 = ((k + 1 : Nat) : Int) by omega]
        have el : lp c0 (ar ++ [cu]) = k := by rw [lp_app]; omega
        obtain ⟨h2, f2, i1, i2⟩ := ih f (k + 1) o [] (ar ++ [cu]) h1 (by omega) (by omega) ho (by omega) (by rw [List.length_append, List.length_singleton]; omega) (by rw [el]; simp) (stay h1 f1).1 trivial a1 a2 a3
        exact ⟨h2, f1.tr f2, i1, i2⟩
      · rw [if_neg (show ¬ (isSg t 44 = true ∧ o = 1) from fun q => o1 q.2), if_neg (show ¬ (o : Int) = 1 by omega)]
        unfold F_Ro_cutArguments_139 F_Ro_cutArguments_150
        rw [if_pos (show bI false = 0 from rfl), gd_rg (by omega) (by omega), show (k : Int) + 1 = ((k + 1 : Nat) : Int) by omega]
        exact ih f (k + 1) o (cu ++ [t]) ar h (by omega) (by omega) ho (by omega) (by omega) (by rw [List.length_append, List.length_singleton]; omega) s'.2 grow e7 e0 cp
    · rw [if_neg (show ¬ (isSg t 44 = true ∧ o = 1) from fun q => c44 q.1), gd_b (by omega) (by omega), sg 44, bnd_l, Bool.eq_false_iff.mpr c44, if_pos (show bI false = 0 from rfl), ite_self]
      unfold F_Ro_cutArguments_139 F_Ro_cutArguments_150
      rw [if_pos (show bI false = 0 from rfl), gd_rg (by omega) (by omega), show (k : Int) + 1 = ((k + 1 : Nat) : Int) by omega]
      exact ih f (k + 1) o (cu ++ [t]) ar h (by omega) (by omega) ho (by omega) (by omega) (by rw [List.length_append, List.length_singleton]; omega) s'.2 grow e7 e0 cp
theorem ro_cut {c : Tk} (h88 : r ≠ 88) (hr4 : r + 4 ≠ 88) (hb : M ≤ 1302) (z : RowW h M r (t :: c :: w)) (h40 : isSg c 40 = true) : ∃ h', FW (pU r) (fun _ _ => False) h h' ∧ (cutA 0 [] [] (c :: w) = none → F_Ro_cutArguments r h = some (.inl (-1), h')) ∧
      (∀ ar' cl r', cutA 0 [] [] (c :: w) = some (ar', cl, r') → F_Ro_cutArguments r h = some (.inl ((lp (100 - (w.length + 2) + 1) ar' : Nat) : Int), h') ∧ mGi h' r 7 = (ar'.length : Int) ∧ mGi h' (r + 4) 0 = ((100 - (w.length + 2) + 1 : Nat) : Int) ∧ CuP h' M r 0 (100 - (w.length + 2) + 1) ar' ∧ lp (100 - (w.length + 2) + 1) ar' + 1 + r'.length = 100 ∧ TC h' M (mGl h' (r + 1) (lp (100 - (w.length + 2) + 1) ar')) cl false ∧ TSg h' M (r + 1) (lp (100 - (w.length + 2) + 1) ar' + 1) (um r')) := by
  obtain ⟨z1, z2, z3⟩ := z
  rw [List.length_cons, List.length_cons] at z1 z2 z3
  have z3' : TC h M _ t false ∧ TC h M (mGl h (r + 1) (100 - (w.length + 1 + 1) + 1)) c false ∧ TSg h M (r + 1) (100 - (w.length + 1 + 1) + 1 + 1) (um w) := z3
  have c41 := sg_x (b := 41) (by decide) h40
  have c44 := sg_x (b := 44) (by decide) h40
  have f1 : FW (pU r) (fun _ _ => False) h (mPi (mPi h r 7 0) (r + 4) 0 ((100 - (w.length + 2) + 1 : Nat) : Int)) := FW.pi (FW.pi FW.rf (by unfold pU; omega)) (by unfold pU; omega)
  have g1 : mGi (mPi h r 7 0) r 1 = ((100 - (w.length + 2) : Nat) : Int) := by rw [gi_pi, if_neg (by omega), z1]
  have g2 : ∀ x, mGi (mPi (mPi h r 7 0) (r + 4) 0 x) r 1 = ((100 - (w.length + 2) : Nat) : Int) := fun x => by rw [gi_pi, if_neg (by omega), g1]
  have g7 : mGi (mPi (mPi h r 7 0) (r + 4) 0 ((100 - (w.length + 2) + 1 : Nat) : Int)) r 7 = 0 := by rw [gi_pi, if_neg (by omega), gi_s]
  have g0 : mGi (mPi (mPi h r 7 0) (r + 4) 0 ((100 - (w.length + 2) + 1 : Nat) : Int)) (r + 4) 0 = ((100 - (w.length + 2) + 1 : Nat) : Int) := gi_s
  have hd : F_Ro_cutArguments r h = itr (fun self (q : Nat × Int × Int × MH) => F_Ro_cutArguments_26_b (fun v0 v2 v3 h => self (v0, v2, v3, h)) q.1 q.2.1 q.2.2.1 q.2.2.2) (99999999 + 1) (r, 0, ((100 - (w.length + 2) + 1 : Nat) : Int), mPi (mPi h r 7 0) (r + 4) 0 ((100 - (w.length + 2) + 1 : Nat) : Int)) := by
    unfold F_Ro_cutArguments F_Ro_cutArguments_26
    simp only [sto_e]
    rw [g1, gd_rg (by omega) (by omega), gd_b (by decide) (by decide), show ((100 - (w.length + 2) : Nat) : Int) + 1 = ((100 - (w.length + 2) + 1 : Nat) : Int) by omega, show (0 : Int).toNat = 0 from rfl, g2, gd_rg (by omega) (by omega), show ((100 - (w.length + 2) : Nat) : Int) + 1 = ((100 - (w.length + 2) + 1 : Nat) : Int) by omega]
    rfl
  rw [hd, itr_s]
  dsimp only
  generalize mPi (mPi h r 7 0) (r + 4) 0 ((100 - (w.length + 2) + 1 : Nat) : Int) = h1 at *
  have y1 : TC h1 M (mGl h1 (r + 1) (100 - (w.length + 2) + 1)) c false := by
    rw [f1.2.2.2 _ _ id]
    exact z3'.2.1.cg (fun j _ => f1.2.2.1 88 j (by unfold pU; omega)) (Nat.le_refl _) hb
  have y2 : TSg h1 M (r + 1) (100 - (w.length + 2) + 1 + 1) (um w) := TSg.cg (fun j _ => f1.2.2.1 88 j (by unfold pU; omega)) (Nat.le_refl _) hb (fun j _ _ => f1.2.2.2 _ j id) z3'.2.2
  rw [F_Ro_cutArguments_26_b]
  unfold F_Ro_cutArguments_76 F_Ro_cutArguments_87 F_Ro_cutArguments_139 F_Ro_cutArguments_150
  rw [if_neg (show ¬ (100 : Int) ≤ ((100 - (w.length + 2) + 1 : Nat) : Int) by omega), gd_b (by omega) (by omega), Int.toNat_natCast, to_sign y1, bnd_l, to_sign y1, bnd_l, cutA, if_pos h40, h40, c41, if_neg (show ¬ bI true = 0 by decide), gd_rg (by decide) (by decide), if_pos (show bI false = 0 from rfl), if_pos (show (0 : Int) + 1 = 1 by decide), gd_b (by omega) (by omega), to_sign y1, bnd_l, c44, if_pos (show bI false = 0 from rfl), if_pos (show bI false = 0 from rfl), gd_rg (by omega) (by omega), show ((100 - (w.length + 2) + 1 : Nat) : Int) + 1 = ((100 - (w.length + 2) + 1 + 1 : Nat) : Int) by omega, if_pos rfl]
  obtain ⟨h2, f2, i1, i2⟩ := cu_l (c0 := 100 - (w.length + 2) + 1) h88 hr4 hb w 99999999 (100 - (w.length + 2) + 1 + 1) 1 [] [] h1 (by omega) (by omega) (Nat.le_refl _) (by omega) (by simp) (by simp [lp]) y2 trivial g7 g0 trivial
  exact ⟨h2, f1.tr f2, i1, i2⟩
end Cut
