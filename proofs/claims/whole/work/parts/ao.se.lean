/-! the reference's second mill, the whole run -/
section Se
variable {B h h' : MH} {t x : List Int} {s : S2} {n : Int} {why : Nat}
def nl (l : List Int) : List Int := l.takeWhile fun c => decide (c ≠ 10)
theorem nl_le (l : List Int) : (nl l).length ≤ l.length := (List.takeWhile_sublist _).length_le
theorem nl_take (l : List Int) : l.take (nl l).length = nl l := by
  have e : l = nl l ++ l.dropWhile fun c => decide (c ≠ 10) := (List.takeWhile_append_dropWhile).symm
  generalize hd : l.dropWhile (fun c => decide (c ≠ 10)) = d at e
  generalize nl l = m at *
  rw [e, List.take_left]
theorem lns_u : ∀ (rest : List Int) (a : Nat) (cu : List Int), lns a cu rest = if cu ++ rest = [] then [] else (a, cu ++ nl rest) :: lns (a + cu.length + (nl rest).length + 1) [] (rest.drop ((nl rest).length + 1)) := by
  intro rest
  induction rest with
  | nil =>
    intro a cu
    rw [lns, List.append_nil]
    by_cases c : cu = []
    · rw [if_pos c, if_pos c]
    · rw [if_neg c, if_neg c]
      have : nl [] = [] := rfl
      rw [this, List.append_nil, List.drop_nil, lns, if_pos rfl]
  | cons c rest ih =>
    intro a cu
    have hne : ¬ cu ++ c :: rest = [] := fun q => absurd (List.append_eq_nil_iff.mp q).2 (List.cons_ne_nil _ _)
    rw [lns, if_neg hne]
    by_cases c10 : c = 10
    · have : nl (c :: rest) = [] := by unfold nl; rw [List.takeWhile_cons, if_neg (by simp [c10])]
      rw [if_pos c10, this, List.append_nil]
      rfl
    · have : nl (c :: rest) = c :: nl rest := by unfold nl; rw [List.takeWhile_cons, if_pos (by simp [c10])]
      have hne2 : ¬ cu ++ [c] ++ rest = [] := fun q => absurd (List.append_eq_nil_iff.mp (List.append_eq_nil_iff.mp q).1).2 (List.cons_ne_nil _ _)
      rw [if_neg c10, ih, if_neg hne2, this, List.append_assoc, List.length_append, List.length_singleton, List.length_cons]
      show (a, cu ++ c :: nl rest) :: _ = (a, cu ++ c :: nl rest) :: lns (a + cu.length + ((nl rest).length + 1) + 1) [] (rest.drop ((nl rest).length + 1))
      rw [show a + (cu.length + 1) + (nl rest).length + 1 = a + cu.length + ((nl rest).length + 1) + 1 by omega]
noncomputable def siL (G112 : Int → Int → Int → MH → RS Int) (f : Nat) (v1 v2 v3 v4 : Int) (h : MH) : RS Int := itr (fun self (q : Int × Int × Int × Int × MH) => F_M_second_127_b G112 (fun v1 v2 v3 v4 h => self (v1, v2, v3, v4, h)) q.1 q.2.1 q.2.2.1 q.2.2.2.1 q.2.2.2.2) f (v1, v2, v3, v4, h)
theorem siL_s {G112 : Int → Int → Int → MH → RS Int} {f : Nat} {v1 v2 v3 v4 : Int} : siL G112 (f + 1) v1 v2 v3 v4 h = F_M_second_127_b G112 (siL G112 f) v1 v2 v3 v4 h := rfl
theorem si_l {G112 : Int → Int → Int → MH → RS Int} {p : Int} (ht : t.length ≤ 400) : ∀ (rest : List Int) (f a : Nat), rest.length < f → a + rest.length = t.length → Seg h 121 (a + 2) rest → siL G112 f ((t.length + 2 : Nat) : Int) n p ((a + 2 : Nat) : Int) h = F_M_second_151 G112 ((t.length + 2 : Nat) : Int) n p ((a + (nl rest).length + 2 : Nat) : Int) h := by
  intro rest
  induction rest with
  | nil =>
    intro f a hf ha sg
    obtain ⟨f, rfl⟩ : ∃ g, f = g + 1 := ⟨f - 1, by omega⟩
    rw [List.length_nil] at ha
    rw [siL_s, F_M_second_127_b, if_pos (by omega)]
    rfl
  | cons c rest ih =>
    intro f a hf ha sg
    obtain ⟨f, rfl⟩ : ∃ g, f = g + 1 := ⟨f - 1, by omega⟩
    rw [List.length_cons] at ha hf
    rw [siL_s, F_M_second_127_b, if_neg (by omega), gd_b (by omega) (by omega), Int.toNat_natCast, sg.1]
    by_cases c10 : c = 10
    · have : nl (c :: rest) = [] := by unfold nl; rw [List.takeWhile_cons, if_neg (by simp [c10])]
      rw [if_pos c10, this]
      rfl
    · have : nl (c :: rest) = c :: nl rest := by unfold nl; rw [List.takeWhile_cons, if_pos (by simp [c10])]
      rw [if_neg c10, gd_rg (by omega) (by omega), this, List.length_cons, show ((a + 2 : Nat) : Int) + 1 = ((a + 1 + 2 : Nat) : Int) by omega, show a + ((nl rest).length + 1) + 2 = a + 1 + (nl rest).length + 2 by omega]
      exact ih f (a + 1) (by omega) (by omega) (by rw [show a + 1 + 2 = a + 2 + 1 by omega]; exact sg.2)
def MQ2 (B : MH) (t : List Int) (x : RS Int) (q : S2 × Nat × Int) : Prop := (q.2.1 = 0 → ∃ h', x = some (.inl (q.1.2.2.1.length : Int), mPi h' 107 27 0) ∧ RQ B t h' q.1) ∧ (q.2.1 ≠ 0 → ∃ h', x = some (.inl 0, mPi (mPi h' 107 27 q.2.2) 107 0 1) ∧ RQX B h' q.1 q.2.1)
theorem s169 (z : RQ B t h s) : MQ2 B t (F_M_second_169 n h) (s, if s.2.1 = [] then 0 else 10, n) := by
  have l1 := z.2.2.2.1.1
  unfold F_M_second_169 F_M_second_182 F_M_second_200
  rw [l1]
  by_cases c : s.2.1 = []
  · rw [if_pos c, if_pos (by rw [c]; rfl), gd_01b, need_1 z.er, bnd_l, if_neg (by decide), sto_e, if_neg (by decide), gi_pi, if_neg (by omega), z.2.2.2.2.1.1]
    exact ⟨fun _ => ⟨h, rfl, z⟩, fun q => absurd rfl q⟩
  · have hl : s.2.1.length ≠ 0 := fun q => c (List.eq_nil_of_length_eq_zero q)
    rw [if_neg c, if_neg (by omega), gd_01a, need_0 z.er (by decide), bnd_l, if_pos rfl, sto_e, if_pos rfl]
    unfold F_M_refuse
    rw [sto_e, bnd_l]
    exact ⟨fun q => absurd q (show ¬ (10 : Nat) = 0 by decide), fun _ => ⟨_, rfl, z.bad1 (why := 10)⟩⟩
theorem need_xx {v : Int} (hv : p01 v) (e : mGi h 107 1 = (why : Int)) (hw : why ≠ 0) : F_M_need v 10 h = some (.inl 0, h) := by
  unfold F_M_need F_M_need_9
  rcases hv with rfl | rfl
  · unfold F_M_fail F_M_fail_16
    rw [if_pos rfl, if_neg (by omega), sto_e, pi_id, bnd_l, if_neg (by omega)]
  · rw [if_neg (by decide), if_neg (by omega)]
theorem s169x (z : RQX B h s why) (hw : why ≠ 0) : MQ2 B t (F_M_second_169 n h) (s, why, n) := by
  unfold F_M_second_169 F_M_second_182 F_M_second_200
  rw [gd_01a, gd_01b, need_xx (.inl rfl) z.2.1 hw, need_xx (.inr rfl) z.2.1 hw, bnd_l, if_pos rfl, ite_self, sto_e, if_pos rfl]
  unfold F_M_refuse
  rw [sto_e, bnd_l]
  exact ⟨fun q => absurd q hw, fun _ => ⟨_, rfl, z⟩⟩
noncomputable def soL (f : Nat) (v1 v2 v3 : Int) (h : MH) : RS Int := itr (fun self (q : Int × Int × Int × MH) => F_M_second_112_b (fun v1 v2 v3 h => self (v1, v2, v3, h)) q.1 q.2.1 q.2.2.1 q.2.2.2) f (v1, v2, v3, h)
theorem soL_s {f : Nat} {v1 v2 v3 : Int} : soL (f + 1) v1 v2 v3 h = F_M_second_112_b (soL f) v1 v2 v3 h := rfl
theorem so_l (ht : t.length ≤ 400) (ok : ∀ c ∈ t, lgl c) : ∀ (N : Nat) (rest : List Int) (f a n : Nat) (h : MH) (s : S2), rest.length ≤ N → N + 1 < f → t.drop a = rest → a ≤ t.length + 1 → n ≤ a → RQ B t h s → MQ2 B t (soL f ((t.length + 2 : Nat) : Int) ((n : Int) - 1) ((a + 2 : Nat) : Int) h) (run2 (lns a [] rest) ((n : Int) - 1) s) := by
  have fin : ∀ (rest : List Int) (f a n : Nat) (h : MH) (s : S2), 0 < f → t.drop a = rest → rest = [] → RQ B t h s → MQ2 B t (soL f ((t.length + 2 : Nat) : Int) ((n : Int) - 1) ((a + 2 : Nat) : Int) h) (run2 (lns a [] rest) ((n : Int) - 1) s) := by
    intro rest f a n h s hf hd hr z
    obtain ⟨f, rfl⟩ : ∃ g, f = g + 1 := ⟨f - 1, by omega⟩
    subst hr
    have hl : t.length ≤ a := by
      have := congrArg List.length hd
      rw [List.length_drop, List.length_nil] at this
      omega
    rw [soL_s, F_M_second_112_b, if_pos (by omega), lns, if_pos rfl, run2]
    exact s169 z
  intro N
  induction N with
  | zero =>
    intro rest f a n h s hN hf hd ha hn z
    exact fin rest f a n h s (by omega) hd (List.eq_nil_of_length_eq_zero (by omega)) z
  | succ N ih =>
    intro rest f a n h s hN hf hd ha hn z
    by_cases c : rest = []
    · exact fin rest f a n h s (by omega) hd c z
    obtain ⟨f, rfl⟩ : ∃ g, f = g + 1 := ⟨f - 1, by omega⟩
    have hl : a + rest.length = t.length := by
      have := congrArg List.length hd
      rw [List.length_drop] at this
      have : rest.length ≠ 0 := fun q => c (List.eq_nil_of_length_eq_zero q)
      omega
    have hpos : rest.length ≠ 0 := fun q => c (List.eq_nil_of_length_eq_zero q)
    have sr : Seg h 121 (a + 2) rest := by
      have := z.2.2.2.2.2.2.1.drop a (by omega)
      rw [hd, show 2 + a = a + 2 by omega] at this
      exact this
    have nle := nl_le rest
    have sx : Seg h 121 (a + 2) (nl rest) := by
      have q := sr
      rw [← List.take_append_drop (nl rest).length rest, Seg.app, nl_take] at q
      exact q.1
    have okr : ∀ c ∈ rest, lgl c := fun c hc => ok c (List.mem_of_mem_drop (by rw [hd]; exact hc))
    have okx : ∀ c ∈ nl rest, lgl c := fun c hc => okr c ((List.takeWhile_sublist _).subset hc)
    have A := m_line (p := a) (x := nl rest) z (by omega) ht sx okx
    have e1 : F_M_second_127 (soL f) ((t.length + 2 : Nat) : Int) ((n : Int) - 1) ((a + 2 : Nat) : Int) ((a + 2 : Nat) : Int) h = _ := si_l (G112 := soL f) (n := (n : Int) - 1) (p := ((a + 2 : Nat) : Int)) ht rest FU a (by unfold FU; omega) hl sr
    have eu := lns_u rest a []
    rw [List.nil_append, List.nil_append, if_neg c, List.length_nil, Nat.add_zero] at eu
    rw [soL_s, F_M_second_112_b, if_neg (by omega), z.er, if_pos rfl, e1, eu, run2]
    unfold F_M_second_151
    rw [gd_rg (by omega) (by omega)]
    by_cases q : (lineL (cutL ((nl rest).length + 1) a (nl rest)) s).2 = 0
    · obtain ⟨h1, a1, a2⟩ := A.1 q
      rw [if_pos q, a1, bnd_l, gd_rg (by omega) (by omega), show (n : Int) - 1 + 1 = ((n + 1 : Nat) : Int) - 1 by omega, show ((a + (nl rest).length + 2 : Nat) : Int) + 1 = ((a + (nl rest).length + 1 + 2 : Nat) : Int) by omega]
      exact ih (rest.drop ((nl rest).length + 1)) f (a + (nl rest).length + 1) (n + 1) h1 _ (by rw [List.length_drop]; omega) (by omega) (by rw [← hd, List.drop_drop]; congr 1) (by omega) (by omega) a2
    · obtain ⟨h1, a1, a2⟩ := A.2 q
      rw [if_neg q, a1, bnd_l, gd_rg (by omega) (by omega)]
      obtain ⟨f, rfl⟩ : ∃ g, f = g + 1 := ⟨f - 1, by omega⟩
      rw [soL_s, F_M_second_112_b, if_neg (show ¬ mGi h1 107 1 = 0 by rw [a2.2.1]; omega), ite_self]
      exact s169x a2 q
/-! the start -/
theorem s31_l : ∀ (q f k : Nat) (h : MH), k + q = 8 → q < f → (∀ j, j < k → mGi h 130 j = 0) → ∃ h', itr (fun self (q : Int × MH) => F_M_second_31_b (fun v1 h => self (v1, h)) q.1 q.2) f ((k : Int), h) = F_M_second_68 0 (mPi (mPi h' 121 0 48) 121 1 49) ∧ FW (fun b _ => b = 130) noQ h h' ∧ ∀ j, j < 8 → mGi h' 130 j = 0 := by
  intro q
  induction q with
  | zero =>
    intro f k h hk hf z
    obtain ⟨f, rfl⟩ : ∃ g, f = g + 1 := ⟨f - 1, by omega⟩
    refine ⟨h, ?_, FW.rf, fun j hj => z j (by omega)⟩
    rw [itr_s]
    dsimp only
    rw [F_M_second_31_b, if_pos (by omega), gd_b (by decide) (by decide), sto_e, gd_b (by decide) (by decide), sto_e]
    rfl
  | succ q ih =>
    intro f k h hk hf z
    obtain ⟨f, rfl⟩ : ∃ g, f = g + 1 := ⟨f - 1, by omega⟩
    obtain ⟨h1, e1, f1, y1⟩ := ih f (k + 1) (mPi h 130 k 0) (by omega) (by omega) (fun j hj => by
      rw [gi_pi]
      by_cases c : j = k
      · rw [if_pos ⟨rfl, c⟩]
      · rw [if_neg (by omega)]; exact z j (by omega))
    have f0 : FW (fun b _ => b = 130) noQ h (mPi h 130 k 0) := FW.pi FW.rf rfl
    refine ⟨h1, ?_, f0.tr f1, y1⟩
    rw [itr_s]
    dsimp only
    rw [F_M_second_31_b, if_neg (by omega), gd_b (by omega) (by omega), Int.toNat_natCast]
    simp only [sto_e]
    rw [gd_rg (by omega) (by omega), show (k : Int) + 1 = ((k + 1 : Nat) : Int) by omega]
    exact e1
theorem s68_l (ht : t.length ≤ 400) : ∀ (q f k : Nat) (h : MH), k + q = t.length → q < f → mGi h 107 5 = (t.length : Int) → Seg h 110 0 t → (∀ j, j < k → mGi h 121 (2 + j) = t.getD j 0) →
    ∃ h', itr (fun self (q : Int × MH) => F_M_second_68_b (fun v1 h => self (v1, h)) q.1 q.2) f ((k : Int), h) = F_M_second_112 ((t.length + 2 : Nat) : Int) (-1) 2 (mPi h' 107 24 ((t.length + 2 : Nat) : Int)) ∧ FW (fun b i => b = 121 ∧ 2 ≤ i) noQ h h' ∧ Seg h' 121 2 t := by
  intro q
  induction q with
  | zero =>
    intro f k h hk hf e5 s z
    obtain ⟨f, rfl⟩ : ∃ g, f = g + 1 := ⟨f - 1, by omega⟩
    refine ⟨h, ?_, FW.rf, Seg.mk fun j hj => z j (by omega)⟩
    rw [itr_s]
    dsimp only
    rw [F_M_second_68_b, e5, if_pos (by omega), gd_rg (by omega) (by omega), sto_e, show (t.length : Int) + 2 = ((t.length + 2 : Nat) : Int) by omega]
  | succ q ih =>
    intro f k h hk hf e5 s z
    obtain ⟨f, rfl⟩ : ∃ g, f = g + 1 := ⟨f - 1, by omega⟩
    have hx := s.get k (by omega)
    rw [Nat.zero_add] at hx
    obtain ⟨h1, e1, f1, y1⟩ := ih f (k + 1) (mPi h 121 (2 + k) (t.getD k 0)) (by omega) (by omega) (by rw [gi_pi, if_neg (by omega), e5]) (Seg.cg (fun j _ _ => by rw [gi_pi, if_neg (by omega)]) s) (fun j hj => by
      rw [gi_pi]
      by_cases d : j = k
      · rw [d, if_pos ⟨rfl, rfl⟩]
      · rw [if_neg (by omega)]; exact z j (by omega))
    have f0 : FW (fun b i => b = 121 ∧ 2 ≤ i) noQ h (mPi h 121 (2 + k) (t.getD k 0)) := FW.pi FW.rf ⟨rfl, by omega⟩
    refine ⟨h1, ?_, f0.tr f1, y1⟩
    rw [itr_s]
    dsimp only
    rw [F_M_second_68_b, e5, if_neg (by omega), gd_rg (by omega) (by omega), gd_b (by omega) (by omega), gd_b (by omega) (by omega), Int.toNat_natCast, hx, show ((2 : Int) + (k : Int)).toNat = 2 + k by omega]
    simp only [sto_e]
    rw [gd_rg (by omega) (by omega), show (k : Int) + 1 = ((k + 1 : Nat) : Int) by omega]
    exact e1
def r2 (t : List Int) : S2 × Nat × Int := run2 (lns 0 [] t) (-1) s20
def pR3 (b i : Nat) : Prop := (b = 107 ∧ (i = 0 ∨ i = 1 ∨ (24 ≤ i ∧ i ≤ 51))) ∨ (121 ≤ b ∧ b ≤ 148)
theorem m_second (ht : t.length ≤ 400) (hc : ∀ c ∈ t, lgl c) (e5 : mGi h 107 5 = (t.length : Int)) (sg : Seg h 110 0 t) : ∃ h', F_M_second h = some (.inl (if (r2 t).2.1 = 0 then ((r2 t).1.2.2.1.length : Int) else 0), h') ∧ mGi h' 107 0 = (if (r2 t).2.1 = 0 then 0 else 1) ∧ FW pR3 qR2 h h' ∧ mGi h' 107 1 = ((r2 t).2.1 : Int) ∧ mGi h' 107 27 = (if (r2 t).2.1 = 0 then 0 else (r2 t).2.2) ∧ mGi h' 107 28 = ((r2 t).1.2.2.2.1 : Int) ∧ Wr h' (r2 t).1.2.2.1 ∧ mGi h' 107 32 = ctN (r2 t).1.1 := by
  have HA : ∃ ha, F_M_second h = F_M_second_31 0 ha ∧ FW (fun b i => b = 107 ∧ (i = 0 ∨ i = 1 ∨ (24 ≤ i ∧ i ≤ 51))) noQ h ha ∧ mGi ha 107 0 = 0 ∧ mGi ha 107 1 = 0 ∧ mGi ha 107 25 = 0 ∧ mGi ha 107 26 = 0 ∧ mGi ha 107 28 = 0 ∧ mGi ha 107 32 = 0 ∧ mGi ha 107 33 = 0 := by
    refine ⟨mPi (mPi (mPi (mPi (mPi (mPi (mPi (mPi h 107 0 0) 107 1 0) 107 27 0) 107 28 0) 107 26 0) 107 32 0) 107 33 0) 107 25 0, ?_, FW.pi (FW.pi (FW.pi (FW.pi (FW.pi (FW.pi (FW.pi (FW.pi FW.rf (by omega)) (by omega)) (by omega)) (by omega)) (by omega)) (by omega)) (by omega)) (by omega), rfl, rfl, rfl, rfl, rfl, rfl, rfl⟩
    unfold F_M_second F_M_start
    simp only [sto_e, bnd_l]
  obtain ⟨ha, ea, fa, a0, a1, a25, a26, a28, a32, a33⟩ := HA
  obtain ⟨hb, eb, fb, yb⟩ := s31_l 8 FU 0 ha rfl (by unfold FU; omega) (fun j hj => absurd hj (Nat.not_lt_zero _))
  have eb' : F_M_second_31 0 ha = _ := eb
  have fc : FW (fun b i => b = 121 ∧ i < 2) noQ hb (mPi (mPi hb 121 0 48) 121 1 49) := FW.pi (FW.pi FW.rf (by omega)) (by omega)
  have c0 : mGi (mPi (mPi hb 121 0 48) 121 1 49) 121 0 = 48 := rfl
  have c1 : mGi (mPi (mPi hb 121 0 48) 121 1 49) 121 1 = 49 := rfl
  generalize mPi (mPi hb 121 0 48) 121 1 49 = hcc at *
  have g5 : mGi hcc 107 5 = (t.length : Int) := (fc.2.2.1 107 5 (by omega)).trans ((fb.2.2.1 107 5 (by omega)).trans ((fa.2.2.1 107 5 (by omega)).trans e5))
  have gs : Seg hcc 110 0 t := Seg.cg (fun j _ _ => (fc.2.2.1 110 j (by omega)).trans ((fb.2.2.1 110 j (by omega)).trans (fa.2.2.1 110 j (by omega)))) sg
  obtain ⟨hd, ed, fd, yd⟩ := s68_l ht t.length FU 0 hcc (by omega) (by unfold FU; omega) g5 gs (fun j hj => absurd hj (Nat.not_lt_zero _))
  have ed' : F_M_second_68 0 hcc = _ := ed
  have fe : FW (fun b i => b = 107 ∧ i = 24) noQ hd (mPi hd 107 24 ((t.length + 2 : Nat) : Int)) := FW.pi FW.rf ⟨rfl, rfl⟩
  have e24 : mGi (mPi hd 107 24 ((t.length + 2 : Nat) : Int)) 107 24 = ((t.length + 2 : Nat) : Int) := gi_s
  rw [ea, eb', ed']
  generalize mPi hd 107 24 ((t.length + 2 : Nat) : Int) = he at *
  have F : FW pR2 qR2 ha he := (((fb.sub (fun b i q => by unfold pR2; omega) (fun b i q => q.elim)).tr (fc.sub (fun b i q => by unfold pR2; omega) (fun b i q => q.elim))).tr (fd.sub (fun b i q => by unfold pR2; omega) (fun b i q => q.elim))).tr (fe.sub (fun b i q => by unfold pR2; omega) (fun b i q => q.elim))
  have k107 : ∀ i, i ≠ 24 → mGi he 107 i = mGi ha 107 i := fun i hi => (fe.2.2.1 107 i (by omega)).trans ((fd.2.2.1 107 i (by omega)).trans ((fc.2.2.1 107 i (by omega)).trans (fb.2.2.1 107 i (by omega))))
  have z : RQ ha t he s20 := by
    refine ⟨F, ⟨fun k hk => ?_, ⟨e24, (k107 25 (by omega)).trans a25, Nat.zero_le _, ht⟩, (k107 28 (by omega)).trans a28, Nat.zero_le _, (k107 1 (by omega)).trans a1⟩, fun k hk q e => (by cases e), ⟨(k107 33 (by omega)).trans a33, Nat.zero_le _, trivial⟩, ⟨(k107 26 (by omega)).trans a26, Nat.zero_le _, trivial⟩, (k107 32 (by omega)).trans a32, Seg.cg (fun j _ _ => fe.2.2.1 121 j (by omega)) yd, ?_, ?_⟩
    · show mGi he 130 (7 - k) = 0
      exact (fe.2.2.1 130 (7 - k) (by omega)).trans ((fd.2.2.1 130 (7 - k) (by omega)).trans ((fc.2.2.1 130 (7 - k) (by omega)).trans (yb (7 - k) (by omega))))
    · exact (fe.2.2.1 121 0 (by omega)).trans ((fd.2.2.1 121 0 (by omega)).trans c0)
    · exact (fe.2.2.1 121 1 (by omega)).trans ((fd.2.2.1 121 1 (by omega)).trans c1)
  have A := so_l ht hc t.length t FU 0 0 he s20 (Nat.le_refl _) (by unfold FU; omega) rfl (by omega) (Nat.le_refl _) z
  have A' : MQ2 ha t (F_M_second_112 ((t.length + 2 : Nat) : Int) (-1) 2 he) (r2 t) := A
  generalize r2 t = R at *
  have fa3 : FW pR3 qR2 h ha := fa.sub (fun b i q => by unfold pR3; omega) (fun b i q => q.elim)
  have up : ∀ {h1 h2 : MH}, GR h1 h2 → FW pR3 qR2 h1 h2 := fun q => FW.sub q (fun b i q => by unfold pR2 at q; unfold pR3; omega) (fun b i q => q)
  by_cases c : R.2.1 = 0
  · obtain ⟨h1, x1, x2⟩ := A'.1 c
    rw [if_pos c, if_pos c, if_pos c]
    refine ⟨_, x1, ?_, (fa3.tr (up x2.1)).tr (FW.pi FW.rf (by unfold pR3; omega)), ?_, gi_s, ?_, ⟨?_, x2.2.2.2.2.1.2.1, Seg.cg (fun j _ _ => by rw [gi_pi, if_neg (by omega)]) x2.2.2.2.2.1.2.2⟩, ?_⟩
    · rw [gi_pi, if_neg (by omega), x2.1.2.2.1 107 0 (by unfold pR2; omega)]; exact a0
    · rw [gi_pi, if_neg (by omega), x2.er, c]; rfl
    · rw [gi_pi, if_neg (by omega)]; exact x2.2.1.2.2.1
    · rw [gi_pi, if_neg (by omega)]; exact x2.2.2.2.2.1.1
    · rw [gi_pi, if_neg (by omega)]; exact x2.2.2.2.2.2.1
  · obtain ⟨h1, x1, x2⟩ := A'.2 c
    rw [if_neg c, if_neg c, if_neg c]
    obtain ⟨w1, w2, w3, w4, w5⟩ := x2
    refine ⟨_, x1, gi_s, (fa3.tr (up w1)).tr (FW.pi (FW.pi FW.rf (by unfold pR3; omega)) (by unfold pR3; omega)), ?_, ?_, ?_, ⟨?_, w4.2.1, Seg.cg (fun j _ _ => by rw [gi_pi, if_neg (by omega), gi_pi, if_neg (by omega)]) w4.2.2⟩, ?_⟩
    · rw [gi_pi, if_neg (by omega), gi_pi, if_neg (by omega)]; exact w2
    · rw [gi_pi, if_neg (by omega), gi_s]
    · rw [gi_pi, if_neg (by omega), gi_pi, if_neg (by omega)]; exact w3.1
    · rw [gi_pi, if_neg (by omega), gi_pi, if_neg (by omega)]; exact w4.1
    · rw [gi_pi, if_neg (by omega), gi_pi, if_neg (by omega)]; exact w5
end Se
