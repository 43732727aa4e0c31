/-! the reference's first mill: incr, shift, dnl, the end of a call -/
section Ref5
variable {P Q : Nat → Nat → Prop} {h h' h'' h0 : MH} {T : Nat} {c : List Int} {w : Int} {pv : List (List Int)} {cu i : List Int} {op : Nat} {r fs : List Fm1} {ds : List Nat} {wd tx : Nat → List Int}
theorem in_b {p : Nat} {g : Int} {n : Nat} (hp : p + n ≤ 200) : ∀ (t : List Int) (f j : Nat) (x : Int), t.length + 1 < f → j + t.length = n → Seg h 112 (p + j) t → 0 ≤ x → x < 10 ^ (9 - t.length) → t.length ≤ 9 →
    (t.all cD = true → 0 ≤ numV x t ∧ numV x t < 1000000000 ∧ itr (fun self (q : Int × Int × Int × Int × Int × Int × MH) => F_M_increase_81_b (fun v2 v3 v4 v5 v6 v7 h => self (v2, v3, v4, v5, v6, v7, h)) q.1 q.2.1 q.2.2.1 q.2.2.2.1 q.2.2.2.2.1 q.2.2.2.2.2.1 q.2.2.2.2.2.2) f ((p : Int), g, (n : Int), 1, x, (j : Int), h) = F_M_increase_133 g 1 (numV x t) h) ∧
    ((∀ y ∈ t, lgl y) → ¬ t.all cD = true → ∃ v, itr (fun self (q : Int × Int × Int × Int × Int × Int × MH) => F_M_increase_81_b (fun v2 v3 v4 v5 v6 v7 h => self (v2, v3, v4, v5, v6, v7, h)) q.1 q.2.1 q.2.2.1 q.2.2.2.1 q.2.2.2.2.1 q.2.2.2.2.2.1 q.2.2.2.2.2.2) f ((p : Int), g, (n : Int), 1, x, (j : Int), h) = F_M_increase_133 g 0 v h) := by
  intro t
  induction t with
  | nil =>
    intro f j x hf hj s x0 x1 hl
    obtain ⟨f, rfl⟩ : ∃ g, f = g + 1 := ⟨f - 1, by omega⟩
    rw [List.length_nil] at hj x1
    have := pw9 (k := 9 - 0) (by omega)
    refine ⟨fun _ => ⟨x0, by show x < _; omega, ?_⟩, fun _ ha => absurd rfl ha⟩
    rw [itr_s]
    dsimp only
    rw [F_M_increase_81_b, if_pos (by omega)]
    rfl
  | cons y t ih =>
    intro f j x hf hj s x0 x1 hl
    obtain ⟨f, rfl⟩ : ∃ g, f = g + 1 := ⟨f - 1, by omega⟩
    rw [List.length_cons] at hj x1 hl hf
    have p1 := pw9 (k := 9 - (t.length + 1)) (by omega)
    have p2 : (10 : Int) ^ (9 - t.length) = 10 ^ (9 - (t.length + 1)) * 10 := by rw [← Int.pow_succ]; congr 1; omega
    have pp := pw9 (k := 9 - t.length) (by omega)
    have s2 : Seg h 112 (p + (j + 1)) t := by have := s.2; rw [show p + j + 1 = p + (j + 1) by omega] at this; exact this
    have step : (y = 10 ∨ (32 ≤ y ∧ y ≤ 126)) → itr (fun self (q : Int × Int × Int × Int × Int × Int × MH) => F_M_increase_81_b (fun v2 v3 v4 v5 v6 v7 h => self (v2, v3, v4, v5, v6, v7, h)) q.1 q.2.1 q.2.2.1 q.2.2.2.1 q.2.2.2.2.1 q.2.2.2.2.2.1 q.2.2.2.2.2.2) (f + 1) ((p : Int), g, (n : Int), 1, x, (j : Int), h) = itr (fun self (q : Int × Int × Int × Int × Int × Int × MH) => F_M_increase_81_b (fun v2 v3 v4 v5 v6 v7 h => self (v2, v3, v4, v5, v6, v7, h)) q.1 q.2.1 q.2.2.1 q.2.2.2.1 q.2.2.2.2.1 q.2.2.2.2.2.1 q.2.2.2.2.2.2) f ((p : Int), g, (n : Int), bI (cD y), x * 10 + y - 48, ((j + 1 : Nat) : Int), h) := by
      intro hy
      rw [itr_s]
      dsimp only
      rw [F_M_increase_81_b, if_neg (by omega), if_neg (by decide), gd_rg (by omega) (by omega), gd_b (by omega) (by omega), isMD_e, bnd_l, show ((p : Int) + (j : Int)).toNat = p + j by omega, s.1, gd_rg (by omega) (by omega), gd_rg (by omega) (by omega), gd_rg (by omega) (by omega), gd_rg (by omega) (by omega), show (j : Int) + 1 = ((j + 1 : Nat) : Int) by omega]
    refine ⟨fun ha => ?_, fun hg ha => ?_⟩
    · obtain ⟨a1, a2⟩ := all_c ha
      have hd := a1
      unfold cD at hd
      rw [decide_eq_true_eq] at hd
      have q := (ih f (j + 1) (x * 10 + y - 48) (by omega) (by omega) s2 (by omega) (by rw [p2]; omega) (by omega)).1 a2
      refine ⟨q.1, q.2.1, ?_⟩
      rw [step (by omega), a1]
      exact q.2.2
    · have hy := hg y List.mem_cons_self
      unfold lgl at hy
      rw [step hy]
      by_cases a1 : cD y = true
      · have hd := a1
        unfold cD at hd
        rw [decide_eq_true_eq] at hd
        rw [a1]
        exact (ih f (j + 1) (x * 10 + y - 48) (by omega) (by omega) s2 (by omega) (by rw [p2]; omega) (by omega)).2 (fun z hz => hg z (List.mem_cons_of_mem _ hz)) (fun q => ha (by rw [List.all_cons, a1, q]; rfl))
      · rw [Bool.eq_false_iff.mpr a1]
        obtain ⟨f, rfl⟩ : ∃ g, f = g + 1 := ⟨f - 1, by omega⟩
        refine ⟨x * 10 + y - 48, ?_⟩
        rw [itr_s]
        dsimp only
        rw [F_M_increase_81_b, if_pos (show bI false = 0 from rfl), ite_self]
        rfl
theorem m_inc (z : ArgM h ((w, pv, cu, op) :: r)) (hF : (flat ((w, pv, cu, op) :: r)).length ≤ 200) (hr : r.length < 6) (hl : ∀ x ∈ flat ((w, pv, cu, op) :: r), lgl x) (e1 : mGi h 107 1 = 0) (y : Com h T []) :
    ((1 ≤ (digs ((pv ++ [cu]).getD 0 [])).length ∧ (digs ((pv ++ [cu]).getD 0 [])).length ≤ 9 ∧ (digs ((pv ++ [cu]).getD 0 [])).all cD = true) → ∃ h', F_M_increase (r.length : Int) h = some (.inl (), h') ∧ FP pC h h' ∧ Com h' T (numL ((if decide (((pv ++ [cu]).getD 0 []).getD 0 0 = 45) = true then - numV 0 (digs ((pv ++ [cu]).getD 0 [])) else numV 0 (digs ((pv ++ [cu]).getD 0 []))) + 1))) ∧
    (¬ (1 ≤ (digs ((pv ++ [cu]).getD 0 [])).length ∧ (digs ((pv ++ [cu]).getD 0 [])).length ≤ 9 ∧ (digs ((pv ++ [cu]).getD 0 [])).all cD = true) → F_M_increase (r.length : Int) h = some (.inl (), mPi h 107 1 5)) := by
  obtain ⟨s0, l0⟩ := m_seg 0 z hF
  have g0 := m_from (k := 0) z hr (by omega)
  have g1 := m_size (k := 0) z hF hr (by omega)
  have g2 := m_to (k := 0) z hr (by omega)
  rw [if_pos (by omega)] at g0 g2
  rw [fl_len] at g2
  rw [List.take_zero, List.flatten_nil, List.length_nil, Nat.add_zero] at s0 l0 g0
  rw [List.take_zero, List.flatten_nil, List.length_nil, Nat.zero_add] at g2
  rw [show ((0 : Nat) : Int) = 0 from rfl] at g0 g1 g2
  have hla : ∀ x ∈ (pv ++ [cu]).getD 0 [], lgl x := fun x hx => hl x (by rw [flat_c, fl_split (pv ++ [cu]) 0]; exact List.mem_append.mpr (.inr (List.mem_append.mpr (.inr (List.mem_append.mpr (.inl hx))))))
  generalize (pv ++ [cu]).getD 0 [] = a at s0 l0 g0 g1 g2 hla ⊢
  generalize (flat r).length = p at s0 l0 g0 g2
  have bad : ∀ g v, F_M_increase_133 g 0 v h = some (.inl (), mPi h 107 1 5) := fun g v => by
    unfold F_M_increase_133
    rw [gd_01a, need_0 e1 (by decide), bnd_l, if_pos rfl]
  have main : ∀ (g : Int) (t : List Int) (q : Nat), (g = 0 ∨ g = 1) → q + t.length = p + a.length → Seg h 112 q t → (∀ x ∈ t, lgl x) →
      ((1 ≤ t.length ∧ t.length ≤ 9 ∧ t.all cD = true) → ∃ h', F_M_increase_43 (r.length : Int) g (q : Int) 0 h = some (.inl (), h') ∧ FP pC h h' ∧ Com h' T (numL ((if g = 0 then numV 0 t else - numV 0 t) + 1))) ∧
      (¬ (1 ≤ t.length ∧ t.length ≤ 9 ∧ t.all cD = true) → F_M_increase_43 (r.length : Int) g (q : Int) 0 h = some (.inl (), mPi h 107 1 5)) := by
    intro g t q hg hq st ht
    unfold F_M_increase_43
    rw [gd_rg (by omega) (by omega), g2, bnd_l, gd_rg (by omega) (by omega), show (q : Int) + 0 = (q : Int) by omega, show ((p + a.length : Nat) : Int) - (q : Int) = (t.length : Int) by omega]
    refine ⟨fun ⟨k1, k2, k3⟩ => ?_, fun hn => ?_⟩
    · obtain ⟨n1, n2, n3⟩ := (in_b (h := h) (p := q) (g := g) (n := t.length) (by omega) t FU 0 0 (by unfold FU; omega) (by omega) st (by omega) (p10 _) k2).1 k3
      rw [if_neg (by omega), if_neg (by omega)]
      unfold F_M_increase_73 F_M_increase_81
      rw [show (0 : Int) = ((0 : Nat) : Int) from rfl] at n3
      have n3' := n3
      rw [show ((0 : Nat) : Int) = 0 from rfl] at n3'
      rw [n3']
      unfold F_M_increase_133 F_M_increase_156
      rw [gd_01b, need_1 e1, bnd_l, if_neg (by decide)]
      by_cases c1 : g = 0
      · rw [if_pos c1, if_pos c1, gd_rg (by omega) (by omega)]
        obtain ⟨h1, e1, f1, y1⟩ := m_num (v := numV 0 t + 1) y (by omega) (by omega)
        rw [e1, bnd_l]
        exact ⟨h1, rfl, f1, y1⟩
      · rw [if_neg c1, if_neg c1, gd_rg (by omega) (by omega), gd_rg (by omega) (by omega)]
        obtain ⟨h1, e1, f1, y1⟩ := m_num (v := -numV 0 t + 1) y (by omega) (by omega)
        rw [e1, bnd_l]
        exact ⟨h1, rfl, f1, y1⟩
    · have z72 : ∀ n : Int, F_M_increase_72 (q : Int) g n h = some (.inl (), mPi h 107 1 5) := fun n => by
        unfold F_M_increase_72 F_M_increase_73 F_M_increase_81
        rw [show FU = 99999999 + 1 from rfl, itr_s]
        dsimp only
        rw [F_M_increase_81_b, if_pos (show (0 : Int) = 0 from rfl), ite_self]
        exact bad g 0
      by_cases k1 : t.length < 1
      · rw [if_pos (by omega)]; exact z72 _
      · rw [if_neg (by omega)]
        by_cases k2 : 9 < t.length
        · rw [if_pos (by omega)]; exact z72 _
        · rw [if_neg (by omega)]
          obtain ⟨v, n3⟩ := (in_b (h := h) (p := q) (g := g) (n := t.length) (by omega) t FU 0 0 (by unfold FU; omega) (by omega) st (by omega) (p10 _) (by omega)).2 ht (fun k3 => hn ⟨by omega, by omega, k3⟩)
          exact n3.trans (bad g v)
  have hd : F_M_increase (r.length : Int) h = if decide (a.getD 0 0 = 45) = true then F_M_increase_43 (r.length : Int) 1 (p : Int) 1 h else F_M_increase_43 (r.length : Int) 0 (p : Int) 0 h := by
    unfold F_M_increase F_M_increase_31
    rw [g0, bnd_l, g1, bnd_l]
    cases a with
    | nil =>
      rw [if_pos (by simp), if_neg (by simp)]
      unfold F_M_increase_32
      rw [if_pos rfl]
    | cons x t =>
      rw [List.length_cons] at l0
      rw [if_neg (by rw [List.length_cons]; omega), gd_b (by omega) (by omega), Int.toNat_natCast, s0.1]
      by_cases c : x = 45
      · rw [if_pos c, if_pos (by simp [c])]
        unfold F_M_increase_32
        rw [if_neg (by decide)]
      · rw [if_neg c, if_neg (by simp [c])]
        unfold F_M_increase_32
        rw [if_pos rfl]
  rw [hd]
  unfold digs
  by_cases c : decide (a.getD 0 0 = 45) = true
  · simp only [if_pos c]
    have ha : 1 ≤ a.length := by
      cases a with
      | nil => simp at c
      | cons x t => simp
    have q := main 1 (a.drop 1) (p + 1) (.inr rfl) (by rw [List.length_drop]; omega) (s0.drop 1 ha) (fun x hx => hla x (List.mem_of_mem_drop hx))
    have e : F_M_increase_43 (r.length : Int) 1 (p : Int) 1 h = F_M_increase_43 (r.length : Int) 1 ((p + 1 : Nat) : Int) 0 h := by
      unfold F_M_increase_43
      rw [show ((p + 1 : Nat) : Int) + 0 = (p : Int) + 1 by omega]
    rw [e]
    exact q
  · simp only [if_neg c]
    exact main 0 a p (.inl rfl) rfl s0 hla
/-! shift -/
theorem ms_l (z0 : ArgM h0 ((w, pv, cu, op) :: r)) (hF : (flat ((w, pv, cu, op) :: r)).length ≤ 200) (hr : r.length < 6) (hl : ∀ x ∈ flat ((w, pv, cu, op) :: r), lgl x) (hp : pv.length ≤ 4) : ∀ (q f k : Nat) (h : MH) (c : List Int), k + q = pv.length + 1 → q < f → 1 ≤ k → FP pC h0 h → Com h T c →
    ∃ h', itr (fun self (q : Int × Int × Int × MH) => F_M_shift_2_b (fun v1 v2 v3 h => self (v1, v2, v3, h)) q.1 q.2.1 q.2.2.1 q.2.2.2) f ((r.length : Int), ((pv.length + 1 : Nat) : Int), (k : Int), h) = some (.inl (), h') ∧ FP pC h0 h' ∧ Com h' T (c ++ if k ≤ 1 then shf ((pv ++ [cu]).drop k) else shfT ((pv ++ [cu]).drop k)) := by
  intro q
  induction q with
  | zero =>
    intro f k h c hk hf h1 f0 y
    obtain ⟨f, rfl⟩ : ∃ g, f = g + 1 := ⟨f - 1, by omega⟩
    have e0 : (pv ++ [cu]).drop k = [] := List.drop_of_length_le (by simp; omega)
    refine ⟨h, ?_, f0, ?_⟩
    · rw [itr_s]
      dsimp only
      rw [F_M_shift_2_b, if_pos (by omega)]
    · rw [e0]
      simp only [shf, shfT, ite_self, List.append_nil]
      exact y
  | succ q ih =>
    intro f k h c hk hf h1 f0 y
    obtain ⟨f, rfl⟩ : ∃ g, f = g + 1 := ⟨f - 1, by omega⟩
    have ed : (pv ++ [cu]).drop k = (pv ++ [cu]).getD k [] :: (pv ++ [cu]).drop (k + 1) := by
      rw [List.drop_eq_getElem_cons (by simp; omega), List.getD_eq_getElem?_getD, List.getElem?_eq_getElem (by simp; omega)]
      rfl
    have main : ∀ h c, FP pC h0 h → Com h T c → ∃ h', F_M_shift_18 (fun v1 v2 v3 h => itr (fun self (q : Int × Int × Int × MH) => F_M_shift_2_b (fun v1 v2 v3 h => self (v1, v2, v3, h)) q.1 q.2.1 q.2.2.1 q.2.2.2) f (v1, v2, v3, h)) (r.length : Int) ((pv.length + 1 : Nat) : Int) (k : Int) h = some (.inl (), h') ∧ FP pC h0 h' ∧ Com h' T (c ++ (quo ((pv ++ [cu]).getD k []) ++ shfT ((pv ++ [cu]).drop (k + 1)))) := by
      intro h c f0 y
      obtain ⟨h1, e1, f1, y1⟩ := m_come (x := 96) y (by decide) (by decide)
      obtain ⟨h2, e2, f2, y2⟩ := m_arg (k := k) (z0.fp (f0.tr f1) pC_A) hF hr (by omega) hl y1
      obtain ⟨h3, e3, f3, y3⟩ := m_come (x := 39) y2 (by decide) (by decide)
      obtain ⟨h4, e4, f4, y4⟩ := ih f (k + 1) h3 _ (by omega) (by omega) (by omega) (((f0.tr f1).tr f2).tr f3) y3
      refine ⟨h4, ?_, f4, ?_⟩
      · unfold F_M_shift_18
        rw [e1, bnd_l, e2, bnd_l, e3, bnd_l, gd_rg (by omega) (by omega), show (k : Int) + 1 = ((k + 1 : Nat) : Int) by omega]
        exact e4
      · rw [if_neg (by omega)] at y4
        unfold quo
        simp only [List.append_assoc, List.cons_append, List.nil_append] at y4 ⊢
        exact y4
    rw [itr_s]
    dsimp only
    rw [F_M_shift_2_b, if_neg (by omega), ed]
    by_cases c1 : k ≤ 1
    · rw [if_pos (by omega), if_pos c1, shf]
      exact main h c f0 y
    · rw [if_neg (by omega), if_neg c1, shfT]
      obtain ⟨h1, e1, f1, y1⟩ := m_come (x := 44) y (by decide) (by decide)
      obtain ⟨h2, e2, f2, y2⟩ := main h1 _ (f0.tr f1) y1
      rw [e1, bnd_l]
      refine ⟨h2, e2, f2, ?_⟩
      rw [List.append_assoc] at y2
      exact y2
/-! the input, from its end -/
def SegR (h : MH) (c : Nat) : List Int → Prop
  | [] => True
  | x :: l => mGi h c l.length = x ∧ SegR h c l
theorem SegR.cg {c : Nat} : ∀ {l : List Int}, (∀ j, j < l.length → mGi h' c j = mGi h c j) → SegR h c l → SegR h' c l
  | [], _, _ => trivial
  | x :: l, e, z => ⟨(e _ (by rw [List.length_cons]; omega)).trans z.1, SegR.cg (fun j hj => e j (by rw [List.length_cons]; omega)) z.2⟩
theorem SegR.get {c : Nat} : ∀ {l : List Int} (_ : SegR h c l) {k : Nat}, k < l.length → mGi h c (l.length - 1 - k) = l.getD k 0
  | [], _, k, hk => absurd hk (Nat.not_lt_zero _)
  | x :: l, z, 0, _ => by
    show mGi h c (l.length + 1 - 1 - 0) = x
    rw [show l.length + 1 - 1 - 0 = l.length by omega]
    exact z.1
  | x :: l, z, k + 1, hk => by
    rw [List.length_cons] at hk
    have q := SegR.get z.2 (k := k) (by omega)
    rw [List.length_cons, show l.length + 1 - 1 - (k + 1) = l.length - 1 - k by omega, q]
    rfl
theorem SegR.drop {c : Nat} : ∀ {l : List Int} (_ : SegR h c l) (k : Nat), SegR h c (l.drop k)
  | [], _, k => by rw [List.drop_nil]; trivial
  | x :: l, z, 0 => z
  | x :: l, z, k + 1 => SegR.drop z.2 k
def InpM (h : MH) (i : List Int) : Prop := mGi h 107 3 = (i.length : Int) ∧ i.length ≤ 500 ∧ SegR h 109 i
theorem InpM.fp (z : InpM h i) (f : FP P h h') (hP : ∀ b j, P b j → ¬ (b = 109 ∨ (b = 107 ∧ j = 3))) : InpM h' i :=
  ⟨(f.2.2 107 3 (fun q => hP _ _ q (.inr ⟨rfl, rfl⟩))).trans z.1, z.2.1, SegR.cg (fun j _ => f.2.2 109 j (fun q => hP _ _ q (.inl rfl))) z.2.2⟩
def pI (b i : Nat) : Prop := b = 107 ∧ i = 3
theorem dm_l : ∀ (t : List Int) (f : Nat) (h : MH), t.length < f → InpM h t → ∃ h', (∀ v : Int, (v = if t = [] then 0 else 1) → itr (fun self (q : Int × MH) => F_M_dropLine_13_b (fun v1 h => self (v1, h)) q.1 q.2) f (v, h) = some (.inl (), h')) ∧ FP pI h h' ∧ InpM h' (dropLn t) := by
  intro t
  induction t with
  | nil =>
    intro f h hf z
    obtain ⟨f, rfl⟩ : ∃ g, f = g + 1 := ⟨f - 1, by omega⟩
    refine ⟨h, fun v hv => ?_, FP.rf, z⟩
    rw [if_pos rfl] at hv
    rw [itr_s]
    dsimp only
    rw [F_M_dropLine_13_b, if_pos hv]
  | cons x t ih =>
    intro f h hf z
    obtain ⟨f, rfl⟩ : ∃ g, f = g + 1 := ⟨f - 1, by omega⟩
    rw [List.length_cons] at hf
    obtain ⟨z1, z2, z3⟩ := z
    rw [List.length_cons] at z1 z2
    have f1 : FP pI h (mPi h 107 3 (t.length : Int)) := FP.pi FP.rf ⟨rfl, rfl⟩
    have zt : InpM (mPi h 107 3 (t.length : Int)) t := ⟨gi_s, by omega, SegR.cg (fun j _ => by rw [gi_pi, if_neg (by omega)]) z3.2⟩
    have hx : mGi (mPi h 107 3 (t.length : Int)) 109 t.length = x := by rw [gi_pi, if_neg (by omega)]; exact z3.1
    have stop : ∀ h, itr (fun self (q : Int × MH) => F_M_dropLine_13_b (fun v1 h => self (v1, h)) q.1 q.2) f (0, h) = some (.inl (), h) := fun h => by
      obtain ⟨f, rfl⟩ : ∃ g, f = g + 1 := ⟨f - 1, by omega⟩
      rw [itr_s]
      dsimp only
      rw [F_M_dropLine_13_b, if_pos rfl]
    have red : itr (fun self (q : Int × MH) => F_M_dropLine_13_b (fun v1 h => self (v1, h)) q.1 q.2) (f + 1) (1, h) = if (t.length : Int) ≤ 0 then itr (fun self (q : Int × MH) => F_M_dropLine_13_b (fun v1 h => self (v1, h)) q.1 q.2) f (0, mPi h 107 3 (t.length : Int)) else if x = 10 then itr (fun self (q : Int × MH) => F_M_dropLine_13_b (fun v1 h => self (v1, h)) q.1 q.2) f (0, mPi h 107 3 (t.length : Int)) else itr (fun self (q : Int × MH) => F_M_dropLine_13_b (fun v1 h => self (v1, h)) q.1 q.2) f (1, mPi h 107 3 (t.length : Int)) := by
      rw [itr_s]
      dsimp only
      rw [F_M_dropLine_13_b, if_neg (by decide), z1, gd_rg (by omega) (by omega), show ((t.length + 1 : Nat) : Int) - 1 = (t.length : Int) by omega]
      simp only [sto_e]
      unfold F_M_dropLine_52 F_M_dropLine_53
      rw [gi_s]
      by_cases c1 : (t.length : Int) ≤ 0
      · rw [if_pos c1, if_pos c1]
      · rw [if_neg c1, if_neg c1, gd_b (by omega) (by omega), Int.toNat_natCast, hx]
    have hv1 : ∀ v : Int, (v = if (x :: t : List Int) = [] then 0 else 1) → v = 1 := fun v hv => by rw [if_neg (by simp)] at hv; exact hv
    rw [dropLn]
    by_cases ct : t = []
    · refine ⟨_, fun v hv => ?_, f1, ?_⟩
      · rw [hv1 v hv, red, if_pos (by rw [ct]; simp), stop]
      · rw [ct] at zt ⊢
        rw [show dropLn [] = [] from rfl, ite_self]
        exact zt
    · have hl : ¬ (t.length : Int) ≤ 0 := fun q => ct (List.eq_nil_of_length_eq_zero (by omega))
      by_cases c10 : x = 10
      · rw [if_pos c10]
        refine ⟨_, fun v hv => ?_, f1, zt⟩
        rw [hv1 v hv, red, if_neg hl, if_pos c10, stop]
      · rw [if_neg c10]
        obtain ⟨h2, e2, f2, y2⟩ := ih f (mPi h 107 3 (t.length : Int)) (by omega) zt
        refine ⟨h2, fun v hv => ?_, f1.tr f2, y2⟩
        rw [hv1 v hv, red, if_neg hl, if_neg c10]
        exact e2 1 (by rw [if_neg ct])
theorem m_dropLine (z : InpM h i) : ∃ h', F_M_dropLine h = some (.inl (), h') ∧ FP pI h h' ∧ InpM h' (dropLn i) := by
  obtain ⟨h1, e1, f1, y1⟩ := dm_l i FU h (by have := z.2.1; unfold FU; omega) z
  refine ⟨h1, ?_, f1, y1⟩
  unfold F_M_dropLine F_M_dropLine_12
  rw [z.1]
  by_cases c : i = []
  · rw [if_pos (by rw [c]; simp)]
    exact e1 0 (by rw [if_pos c])
  · rw [if_neg (fun q => c (List.eq_nil_of_length_eq_zero (by omega)))]
    exact e1 1 (by rw [if_neg c])
/-! what came goes ahead of the input -/
theorem SegR.app {c : Nat} : ∀ {l1 l2 : List Int}, (∀ k, k < l1.length → mGi h c (l2.length + l1.length - 1 - k) = l1.getD k 0) → SegR h c l2 → SegR h c (l1 ++ l2)
  | [], _, _, z => z
  | x :: l, l2, e, z => by
    refine ⟨?_, SegR.app (fun k hk => ?_) z⟩
    · have q := e 0 (by rw [List.length_cons]; omega)
      rw [List.length_cons, show l2.length + (l.length + 1) - 1 - 0 = l2.length + l.length by omega] at q
      show mGi h c (l ++ l2).length = x
      rw [List.length_append, Nat.add_comm]
      exact q
    · have q := e (k + 1) (by rw [List.length_cons]; omega)
      rw [List.length_cons, show l2.length + (l.length + 1) - 1 - (k + 1) = l2.length + l.length - 1 - k by omega] at q
      exact q
def pG (b i : Nat) : Prop := b = 109 ∨ (b = 107 ∧ i = 3)
theorem go_l {c : List Int} (hc : c.length + i.length ≤ 500) : ∀ (q f k : Nat) (h : MH), k + q = c.length → q < f → mGi h 107 3 = (i.length : Int) → mGi h 107 9 = (c.length : Int) → Seg h 113 0 c → SegR h 109 i → (∀ j, j < k → mGi h 109 (i.length + c.length - 1 - j) = c.getD j 0) →
    ∃ h', itr (fun self (q : Int × MH) => F_M_call_113_b (fun v4 h => self (v4, h)) q.1 q.2) f ((k : Int), h) = some (.inl (), h') ∧ FP pG h h' ∧ InpM h' (c ++ i) := by
  intro q
  induction q with
  | zero =>
    intro f k h hk hf e3 e9 s z y
    obtain ⟨f, rfl⟩ : ∃ g, f = g + 1 := ⟨f - 1, by omega⟩
    refine ⟨mPi h 107 3 ((i.length : Int) + (c.length : Int)), ?_, FP.pi FP.rf (.inr ⟨rfl, rfl⟩), ?_, ?_, ?_⟩
    · rw [itr_s]
      dsimp only
      rw [F_M_call_113_b, e9, e3, if_pos (by omega), gd_rg (by omega) (by omega)]
      rfl
    · rw [gi_s, List.length_append]; omega
    · rw [List.length_append]; exact hc
    · refine SegR.app (fun j hj => ?_) (SegR.cg (fun j _ => by rw [gi_pi, if_neg (by omega)]) z)
      rw [gi_pi, if_neg (by omega)]
      exact y j (by omega)
  | succ q ih =>
    intro f k h hk hf e3 e9 s z y
    obtain ⟨f, rfl⟩ : ∃ g, f = g + 1 := ⟨f - 1, by omega⟩
    have hx := s.get k (by omega)
    rw [Nat.zero_add] at hx
    obtain ⟨h1, e1, f1, y1⟩ := ih f (k + 1) (mPi h 109 (i.length + c.length - 1 - k) (c.getD k 0)) (by omega) (by omega) (by rw [gi_pi, if_neg (by omega), e3]) (by rw [gi_pi, if_neg (by omega), e9]) (s.pio (.inl (by decide))) (SegR.cg (fun j hj => by rw [gi_pi, if_neg (by omega)]) z) (fun j hj => by
      rw [gi_pi]
      by_cases d : j = k
      · rw [d, if_pos ⟨rfl, rfl⟩]
      · rw [if_neg (by omega)]; exact y j (by omega))
    refine ⟨h1, ?_, (FP.pi FP.rf (.inl rfl)).tr f1, y1⟩
    rw [itr_s]
    dsimp only
    rw [F_M_call_113_b, e9, e3, if_neg (by omega), gd_rg (by omega) (by omega), gd_rg (by omega) (by omega), gd_rg (by omega) (by omega), gd_b (by omega) (by omega), gd_b (by omega) (by omega)]
    simp only [sto_e]
    rw [gd_rg (by omega) (by omega), Int.toNat_natCast, hx, show ((i.length : Int) + (c.length : Int) - 1 - (k : Int)).toNat = i.length + c.length - 1 - k by omega, show (k : Int) + 1 = ((k + 1 : Nat) : Int) by omega]
    exact e1
end Ref5
