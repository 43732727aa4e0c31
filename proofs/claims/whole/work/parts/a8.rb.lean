/-! the reference begins and ends rows -/
section Rb
variable {h h' h'' : MH} {M T d D C c p : Nat} {v : Int64} {t : Tk} {m : Bool} {nm : Nm} {rp md rp' md' : Nat} {k g pa pa' : Nat} {R dn l : List Tk} {ar : List (List Tk)} {cm cm' : List (Tk × Bool)}
def UF (T d : Nat) (h : MH) (md k g at' : Nat) (R dn : List Tk) (ar : List (List Tk)) (cm : List (Tk × Bool)) : Prop :=
  mGi h 144 d = ((7 - k : Nat) : Int) ∧ mGi h 145 d = (at' : Int) ∧ mGi h 146 d = (g : Int) ∧ TdR h (T + 2 + md) d R ∧ DnR h (T + 2 + md) d dn ∧ ArR h (T + 2 + md) d ar ∧ RwR h (T + 2 + md) d cm
theorem UF.dp (z : UF T d h md k g pa R dn ar cm) (f : RX2 (d + 1) C h h') (hC : T + 2 + md ≤ C) (hm : md ≤ md') (h2 : T + 2 + md' ≤ 1302) : UF T d h' md' k g pa R dn ar cm := by
  obtain ⟨z3, z4, z5, z6, z7, z8, z9⟩ := z
  exact ⟨(f.2.2.1 144 d (by unfold pX; omega)).trans z3, (f.2.2.1 145 d (by unfold pX; omega)).trans z4, (f.2.2.1 146 d (by unfold pX; omega)).trans z5, z6.dp f hC (by omega) h2, z7.dp f hC (by omega) h2, z8.dp f hC (by omega) h2, z9.dp f hC (by omega) h2⟩
theorem UR.of (z1 : CmR nm T h rp md) (z2 : mGi h 107 48 = (d : Int)) (z3 : UF T d h md k g pa R dn ar cm) : UR nm T d h rp md k g pa R dn ar cm := ⟨z1, z2, z3⟩
theorem UR.uf (z : UR nm T d h rp md k g pa R dn ar cm) : UF T d h md k g pa R dn ar cm := z.2.2
/-- the row goes on at another place -/
theorem UR.at' (z : UR nm T d h rp md k g pa R dn ar cm) : RX2 d (T + 2 + md) h (mPi h 145 d (pa' : Int)) ∧ UR nm T d (mPi h 145 d (pa' : Int)) rp md k g pa' R dn ar cm := by
  have F : RX2 d (T + 2 + md) h (mPi h 145 d (pa' : Int)) := FW.pi FW.rf (by unfold pX; omega)
  have gi : ∀ b i, b ≠ 145 → mGi (mPi h 145 d (pa' : Int)) b i = mGi h b i := fun b i hb => by rw [gi_pi, if_neg (fun q => hb q.1)]
  obtain ⟨z1, z2, z3, z4, z5, z6, z7, z8, z9⟩ := z
  have hM := z1.mx
  have e : ∀ j, j < T + 2 + md → mGi (mPi h 145 d (pa' : Int)) 121 j = mGi h 121 j := fun j _ => gi 121 j (by decide)
  exact ⟨F, z1.fx F (Nat.le_refl _) (Nat.le_refl _) ⟨(gi 107 24 (by decide)).trans z1.2.1.1, (gi 107 25 (by decide)).trans z1.2.1.2.1, z1.2.1.2.2⟩ ((gi 107 28 (by decide)).trans z1.2.2.1) z1.2.2.2.1 ((gi 107 1 (by decide)).trans z1.2.2.2.2), (gi 107 48 (by decide)).trans z2, (gi 144 d (by decide)).trans z3, gi_s, (gi 146 d (by decide)).trans z5, z6.cg2 e (Nat.le_refl _) hM (gi 140 d (by decide)) (fun j => rfl), z7.cg2 e (Nat.le_refl _) hM (gi 141 d (by decide)) (fun j => rfl), z8.cg2 e (Nat.le_refl _) hM (fun j => gi 142 j (by decide)) (fun j => rfl), z9.cg2 e (Nat.le_refl _) hM (gi 143 d (by decide)) (fun j => rfl)⟩
/-! a row begins -/
def pB (D b i : Nat) : Prop := (b = 140 ∨ b = 141 ∨ b = 144) ∧ i = D
def qB (D b i : Nat) : Prop := b = 135 ∧ 100 * D ≤ i
noncomputable def brL (f : Nat) (v1 v2 v3 v4 : Int) (h : MH) : RS Unit := itr (fun self (q : Int × Int × Int × Int × MH) => F_M_beginRow_34_b (fun v1 v2 v3 v4 h => self (v1, v2, v3, v4, h)) q.1 q.2.1 q.2.2.1 q.2.2.2.1 q.2.2.2.2) f (v1, v2, v3, v4, h)
theorem brL_s {f : Nat} {v1 v2 v3 v4 : Int} : brL (f + 1) v1 v2 v3 v4 h = F_M_beginRow_34_b (brL f) v1 v2 v3 v4 h := rfl
theorem br_l (hD : D < 8) (hc : c = if D = 0 then 123 else 137) (hM : M ≤ 1302) : ∀ (suf pre : List Tk) (f : Nat) (h : MH), suf.length < f → p + (pre.length + suf.length) ≤ (if D = 0 then 400 else 800) → pre.length + suf.length ≤ 100 → RSg h M c (p + pre.length) (um suf) → RSg h M 135 (100 * D + suf.length) (um pre.reverse) →
    ∃ h', brL f (D : Int) (p : Int) ((pre.length + suf.length : Nat) : Int) (pre.length : Int) h = some (.inl (), h') ∧ FW (pB D) (qB D) h h' ∧ RSg h' M 135 (100 * D) (um (pre ++ suf).reverse) ∧ mGi h' 140 D = ((pre.length + suf.length : Nat) : Int) ∧ mGi h' 141 D = 0 ∧ mGi h' 144 D = -1 := by
  intro suf
  have hc' : c ≠ 135 := by rw [hc]; split <;> decide
  induction suf with
  | nil =>
    intro pre f h hf hp hl s1 s2
    obtain ⟨f, rfl⟩ : ∃ g, f = g + 1 := ⟨f - 1, by omega⟩
    rw [List.length_nil, Nat.add_zero] at *
    refine ⟨mPi (mPi (mPi h 140 D (pre.length : Int)) 141 D 0) 144 D (-1), ?_, FW.pi (FW.pi (FW.pi FW.rf (by unfold pB; omega)) (by unfold pB; omega)) (by unfold pB; omega), ?_, ?_, ?_, gi_s⟩
    · rw [brL_s, F_M_beginRow_34_b, if_pos (by omega), gd_b (by omega) (by omega), Int.toNat_natCast]
      rfl
    · rw [List.append_nil]
      exact RSg.cg (h := h) (fun j _ => by rw [gi_pi, if_neg (by omega), gi_pi, if_neg (by omega), gi_pi, if_neg (by omega)]) (Nat.le_refl _) hM (fun j _ _ => rfl) s2
    · rw [gi_pi, if_neg (by omega), gi_pi, if_neg (by omega), gi_s]; rfl
    · rw [gi_pi, if_neg (by omega), gi_s]
  | cons t suf ih =>
    intro pre f h hf hp hl s1 s2
    obtain ⟨f, rfl⟩ : ∃ g, f = g + 1 := ⟨f - 1, by omega⟩
    rw [List.length_cons] at *
    have hh1 : ∃ h1, h1 = mPl h 135 (100 * D + suf.length) (mGl h c (p + pre.length)) := ⟨_, rfl⟩
    obtain ⟨h1, hh1⟩ := hh1
    have gi1 : ∀ b j, mGi h1 b j = mGi h b j := fun b j => by rw [hh1]; rfl
    have gl1 : ∀ b j, ¬ (b = 135 ∧ j = 100 * D + suf.length) → mGl h1 b j = mGl h b j := fun b j hb => by rw [hh1, gl_pl, if_neg hb]
    have step : brL (f + 1) (D : Int) (p : Int) ((pre.length + (suf.length + 1) : Nat) : Int) (pre.length : Int) h = brL f (D : Int) (p : Int) ((pre.length + (suf.length + 1) : Nat) : Int) ((pre.length + 1 : Nat) : Int) h1 := by
      rw [brL_s, F_M_beginRow_34_b, if_neg (by omega), gd_rg (by omega) (by omega), gd_rg (by omega) (by omega), gd_rg (by omega) (by omega), gd_rg (by omega) (by omega), show (100 : Int) * (D : Int) + ((pre.length + (suf.length + 1) : Nat) : Int) - 1 - (pre.length : Int) = ((100 * D + suf.length : Nat) : Int) by omega, show (p : Int) + (pre.length : Int) = ((p + pre.length : Nat) : Int) by omega, Int.toNat_natCast]
      unfold F_M_beginRow_80
      rw [Int.toNat_natCast, hh1, hc]
      by_cases d0 : D = 0
      · rw [if_pos d0] at hp
        rw [if_pos (show (D : Int) = 0 by omega), if_pos d0, gd_rg (by omega) (by omega), gd_b (by omega) (by omega), gd_b (by omega) (by omega), sto_e, gd_rg (by omega) (by omega)]
        rfl
      · rw [if_neg d0] at hp
        rw [if_neg (show ¬ (D : Int) = 0 by omega), if_neg d0, gd_rg (by omega) (by omega), gd_b (by omega) (by omega), gd_b (by omega) (by omega), sto_e, gd_rg (by omega) (by omega)]
        rfl
    obtain ⟨h2, a1, a2, a3, a4⟩ := ih (pre ++ [t]) f h1 (by omega) (by rw [List.length_append, List.length_singleton]; omega) (by rw [List.length_append, List.length_singleton]; omega) (by
      rw [List.length_append, List.length_singleton, ← Nat.add_assoc]
      exact RSg.cg (h := h) (fun j _ => gi1 121 j) (Nat.le_refl _) hM (fun j _ _ => gl1 c j (fun q => hc' q.1)) s1.2) (by
      rw [List.reverse_append]
      show TR h1 M (mGl h1 135 (100 * D + suf.length)) t false ∧ RSg h1 M 135 (100 * D + suf.length + 1) (um pre.reverse)
      refine ⟨?_, RSg.cg (h := h) (fun j _ => gi1 121 j) (Nat.le_refl _) hM (fun j hj _ => gl1 135 j (by omega)) s2⟩
      rw [hh1, gl_pl, if_pos ⟨rfl, rfl⟩, ← hh1]
      exact s1.1.cg (fun j _ => gi1 121 j) (Nat.le_refl _) hM)
    rw [List.length_append, List.length_singleton, show pre.length + 1 + suf.length = pre.length + (suf.length + 1) by omega] at a1 a4
    rw [List.append_assoc] at a3
    refine ⟨h2, step.trans a1, FW.tr ?_ a2, a3, a4⟩
    rw [hh1]
    exact FW.pl FW.rf (by unfold qB; omega)
theorem m_begin (hD : D < 8) (hc : c = if D = 0 then 123 else 137) (z : CmR nm T h rp md) (hl : l.length ≤ 100) (hp : p + l.length ≤ (if D = 0 then 400 else 800)) (s : RSg h (T + 2 + md) c p (um l)) : ∃ h', F_M_beginRow (D : Int) (p : Int) (l.length : Int) h = some (.inl (), h') ∧ RX2 D (T + 2 + md) h h' ∧ SR nm T D h' rp md l [] := by
  have hM := z.mx
  have er := z.2.2.2.2
  have hcc : c = 123 ∨ c = 137 := by rw [hc]; split; exact .inl rfl; exact .inr rfl
  have F1 : RX2 D (T + 2 + md) h (mPi h 107 48 (D : Int)) := FW.pi FW.rf (by unfold pX; omega)
  obtain ⟨h2, a1, a2, a3, a4, a5, a6⟩ := br_l (p := p) hD hc hM l [] FU (mPi h 107 48 (D : Int)) (by unfold FU; omega) (by rw [List.length_nil, Nat.zero_add]; exact hp) (by rw [List.length_nil, Nat.zero_add]; exact hl) (RSg.cg (h := h) (fun j _ => by rw [gi_pi, if_neg (by omega)]) (Nat.le_refl _) hM (fun j _ _ => rfl) s) trivial
  rw [List.length_nil, Nat.zero_add] at a1 a4
  rw [List.nil_append] at a3
  have F : RX2 D (T + 2 + md) h h2 := F1.tr (RX2.mk a2 (fun b i q => by unfold pB at q; unfold pX; omega) (fun b i q => by unfold qB at q; unfold qX; omega)) (Nat.le_refl _)
  have gi : ∀ b i, b ≠ 140 → b ≠ 141 → b ≠ 144 → ¬ (b = 107 ∧ i = 48) → mGi h2 b i = mGi h b i := fun b i q1 q2 q3 q4 => (a2.2.2.1 b i (by unfold pB; omega)).trans (by rw [gi_pi, if_neg q4])
  refine ⟨h2, ?_, F, z.fx F (Nat.le_refl _) (Nat.le_refl _) ⟨(gi 107 24 (by omega) (by omega) (by omega) (by omega)).trans z.2.1.1, (gi 107 25 (by omega) (by omega) (by omega) (by omega)).trans z.2.1.2.1, z.2.1.2.2⟩ ((gi 107 28 (by omega) (by omega) (by omega) (by omega)).trans z.2.2.1) z.2.2.2.1 ((gi 107 1 (by omega) (by omega) (by omega) (by omega)).trans er), (a2.2.2.1 107 48 (by unfold pB; omega)).trans gi_s, a6, ⟨a4, hl, a3⟩, a5, by simp, trivial⟩
  unfold F_M_beginRow F_M_beginRow_18
  rw [if_neg (by omega), if_neg (by omega), gd_01b, need_1 er, bnd_l, if_neg (by decide), sto_e]
  exact a1
theorem m_nobegin {n : Nat} (hh : 8 ≤ D ∨ 100 < n) (er : mGi h 107 1 = 0) : F_M_beginRow (D : Int) (p : Int) (n : Int) h = some (.inl (), mPi h 107 1 1) := by
  have key : F_M_beginRow_17 (D : Int) (p : Int) (n : Int) h = some (.inl (), mPi h 107 1 1) := by
    unfold F_M_beginRow_17 F_M_beginRow_18
    rw [gd_01a, need_0 er (by decide), bnd_l, if_pos rfl]
  unfold F_M_beginRow
  by_cases c8 : 8 ≤ D
  · rw [if_pos (by omega)]; exact key
  · rw [if_neg (by omega), if_pos (by omega)]; exact key
/-! a row ends -/
noncomputable def spL (f : Nat) (v1 v3 : Int) (h : MH) : RS Int := itr (fun self (q : Int × Int × MH) => F_M_scanNext_48_b (fun v1 v3 h => self (v1, v3, h)) q.1 q.2.1 q.2.2) f (v1, v3, h)
theorem spL_s {f : Nat} {v1 v3 : Int} : spL (f + 1) v1 v3 h = F_M_scanNext_48_b (spL f) v1 v3 h := rfl
theorem spp_l (hd : d < 7) : ∀ (suf : List Tk) (f j : Nat) (h : MH) (cm : List (Tk × Bool)), suf.length < f → UR nm T d h rp md k g pa R dn ar cm → mGi h 141 (d + 1) = ((j + suf.length : Nat) : Int) → j + suf.length ≤ 100 → RSg h (T + 2 + md) 136 (100 * (d + 1) + j) (um suf) → cm.length + suf.length ≤ 1300 →
    ∃ h', spL f ((d + 1 : Nat) : Int) (j : Int) h = some (.inl 1, h') ∧ RX2 d (T + 2 + md) h h' ∧ UR nm T d h' rp md k g pa R dn ar (cm ++ um suf) := by
  intro suf
  induction suf with
  | nil =>
    intro f j h cm hf z e hj s hc
    obtain ⟨f, rfl⟩ : ∃ g, f = g + 1 := ⟨f - 1, by omega⟩
    rw [List.length_nil, Nat.add_zero] at e hj
    refine ⟨h, ?_, RX2.rf, ?_⟩
    · rw [spL_s, F_M_scanNext_48_b, gd_b (by omega) (by omega), Int.toNat_natCast, e, if_pos (by omega), F_M_scanNext_86, if_neg (by omega)]
    · show UR nm T d h rp md k g pa R dn ar (cm ++ [])
      rw [List.append_nil]; exact z
  | cons t suf ih =>
    intro f j h cm hf z e hj s hc
    obtain ⟨f, rfl⟩ : ∃ g, f = g + 1 := ⟨f - 1, by omega⟩
    rw [List.length_cons] at e hj hf hc
    have hM := z.1.mx
    obtain ⟨h1, a1, a2, a3, a4, a5⟩ := m_app (by omega) z s.1 (by omega)
    obtain ⟨h2, b1, b2, b3⟩ := ih f (j + 1) h1 (cm ++ [(t, false)]) (by omega) a3 ((a5 141 (d + 1) (by decide)).trans (by rw [e]; omega)) (by omega) (RSg.cg (h := h) (fun j _ => a5 121 j (by decide)) (Nat.le_refl _) hM (fun j _ _ => a4 136 j (by decide)) s.2) (by rw [List.length_append, List.length_singleton]; omega)
    rw [List.append_assoc] at b3
    refine ⟨h2, ?_, a2.tr b2 (Nat.le_refl _), b3⟩
    rw [spL_s, F_M_scanNext_48_b, gd_b (by omega) (by omega), Int.toNat_natCast, e, if_neg (by omega), if_neg (by omega), gd_rg (by omega) (by omega), gd_rg (by omega) (by omega), gd_rg (by omega) (by omega), gd_b (by omega) (by omega), show (((d + 1 : Nat) : Int) - 1) = (d : Int) by omega, show ((100 : Int) * ((d + 1 : Nat) : Int) + (j : Int)).toNat = 100 * (d + 1) + j by omega, a1, bnd_l, gd_rg (by omega) (by omega)]
    exact b1
theorem m_popR (hd : d < 7) (z : SR nm T (d + 1) h rp md [] l) (u : UF T d h md k g pa R dn ar cm) (hc : cm.length + l.length ≤ 1300) : ∃ h', F_M_scanNext h = some (.inl 1, h') ∧ RX2 d (T + 2 + md) h h' ∧ UR nm T d h' rp md k g pa R dn ar (cm ++ um l) := by
  obtain ⟨z1, z2, z3, z4, z5⟩ := z
  have hM := z1.mx
  have F1 : RX2 d (T + 2 + md) h (mPi h 107 48 (d : Int)) := FW.pi FW.rf (by unfold pX; omega)
  have gi : ∀ b i, b ≠ 107 → mGi (mPi h 107 48 (d : Int)) b i = mGi h b i := fun b i hb => by rw [gi_pi, if_neg (fun q => hb q.1)]
  have e : ∀ j, j < T + 2 + md → mGi (mPi h 107 48 (d : Int)) 121 j = mGi h 121 j := fun j _ => gi 121 j (by decide)
  have g7 : ∀ i, i ≠ 48 → mGi (mPi h 107 48 (d : Int)) 107 i = mGi h 107 i := fun i hi => by rw [gi_pi, if_neg (fun q => hi q.2)]
  have U : UR nm T d (mPi h 107 48 (d : Int)) rp md k g pa R dn ar cm := by
    obtain ⟨u3, u4, u5, u6, u7, u8, u9⟩ := u
    exact ⟨z1.fx F1 (Nat.le_refl _) (Nat.le_refl _) ⟨(g7 24 (by decide)).trans z1.2.1.1, (g7 25 (by decide)).trans z1.2.1.2.1, z1.2.1.2.2⟩ ((g7 28 (by decide)).trans z1.2.2.1) z1.2.2.2.1 ((g7 1 (by decide)).trans z1.2.2.2.2), gi_s, (gi 144 d (by decide)).trans u3, (gi 145 d (by decide)).trans u4, (gi 146 d (by decide)).trans u5, u6.cg2 e (Nat.le_refl _) hM (gi 140 d (by decide)) (fun j => rfl), u7.cg2 e (Nat.le_refl _) hM (gi 141 d (by decide)) (fun j => rfl), u8.cg2 e (Nat.le_refl _) hM (fun j => gi 142 j (by decide)) (fun j => rfl), u9.cg2 e (Nat.le_refl _) hM (gi 143 d (by decide)) (fun j => rfl)⟩
  have h5 := z5.2.1
  obtain ⟨h2, b1, b2, b3⟩ := spp_l hd l FU 0 (mPi h 107 48 (d : Int)) cm (by unfold FU; omega) U (by rw [gi 141 _ (by decide), Nat.zero_add]; exact z5.1) (by omega) (RSg.cg (h := h) e (Nat.le_refl _) hM (fun j _ _ => rfl) z5.2.2) hc
  refine ⟨h2, ?_, F1.tr b2 (Nat.le_refl _), b3⟩
  have e4 : mGi h 140 (d + 1) = 0 := z4.1
  unfold F_M_scanNext F_M_scanNext_42
  rw [z2, Int.toNat_natCast, e4, gd_rg (by omega) (by omega), gd_b (by omega) (by omega), gd_rg (by omega) (by omega), gd_rg (by omega) (by omega), if_pos rfl, if_neg (by omega), gd_rg (by omega) (by omega), sto_e, show ((d + 1 : Nat) : Int) - 1 = (d : Int) by omega]
  exact b1
theorem m_end (z : SR nm T 0 h rp md [] l) : F_M_scanNext h = some (.inl 0, mPi h 107 48 0) := by
  obtain ⟨z1, z2, z3, z4, z5⟩ := z
  have e4 : mGi h 140 0 = 0 := z4.1
  have z2' : mGi h 107 48 = 0 := z2
  unfold F_M_scanNext F_M_scanNext_42
  have t0 : ((0 : Int)).toNat = 0 := rfl
  rw [z2', t0, e4, gd_rg (by omega) (by omega), gd_b (by omega) (by omega), gd_rg (by omega) (by omega), gd_rg (by omega) (by omega), if_pos rfl, if_pos (by decide), gd_rg (by omega) (by omega), sto_e]
  show spL (99999999 + 1) 0 0 (mPi h 107 48 0) = _
  rw [spL_s, F_M_scanNext_48_b, gd_b (by omega) (by omega)]
  have : F_M_scanNext_86 0 (mPi h 107 48 0) = some (.inl 0, mPi h 107 48 0) := by rw [F_M_scanNext_86, if_pos (by decide)]
  split
  · exact this
  · rw [if_pos (by decide)]; exact this
/-! an argument's tokens as they are -/
noncomputable def raL (f : Nat) (v1 v6 v9 v10 v11 : Int) (h : MH) : RS Unit := itr (fun self (q : Int × Int × Int × Int × Int × MH) => F_M_substituteNext_290_b (fun v1 v6 v9 v10 v11 h => self (v1, v6, v9, v10, v11, h)) q.1 q.2.1 q.2.2.1 q.2.2.2.1 q.2.2.2.2.1 q.2.2.2.2.2) f (v1, v6, v9, v10, v11, h)
theorem raL_s {f : Nat} {v1 v6 v9 v10 v11 : Int} : raL (f + 1) v1 v6 v9 v10 v11 h = F_M_substituteNext_290_b (raL f) v1 v6 v9 v10 v11 h := rfl
theorem ra_l {e : Nat} (hd : d < 8) (he : e ≤ 800) : ∀ (l : List Tk) (f p : Nat) (h : MH) (cm : List (Tk × Bool)), l.length < f → p + l.length = e → UR nm T d h rp md k g pa R dn ar cm → RSg h (T + 2 + md) 137 p (um l) → cm.length + l.length ≤ 1300 →
    ∃ h', raL f (d : Int) 0 (e : Int) 1 (p : Int) h = some (.inl (), h') ∧ RX2 d (T + 2 + md) h h' ∧ UR nm T d h' rp md k g pa R dn ar (cm ++ um l) := by
  intro l
  induction l with
  | nil =>
    intro f p h cm hf hp z s hc
    obtain ⟨f, rfl⟩ : ∃ g, f = g + 1 := ⟨f - 1, by omega⟩
    rw [List.length_nil, Nat.add_zero] at hp
    refine ⟨h, ?_, RX2.rf, ?_⟩
    · rw [raL_s, F_M_substituteNext_290_b, if_pos (by omega)]
    · show UR nm T d h rp md k g pa R dn ar (cm ++ [])
      rw [List.append_nil]; exact z
  | cons t l ih =>
    intro f p h cm hf hp z s hc
    obtain ⟨f, rfl⟩ : ∃ g, f = g + 1 := ⟨f - 1, by omega⟩
    rw [List.length_cons] at hp hf hc
    have hM := z.1.mx
    obtain ⟨h1, a1, a2, a3, a4, a5⟩ := m_app (by omega) z s.1 (by omega)
    obtain ⟨h2, b1, b2, b3⟩ := ih f (p + 1) h1 (cm ++ [(t, false)]) (by omega) (by omega) a3 (RSg.cg (h := h) (fun j _ => a5 121 j (by decide)) (Nat.le_refl _) hM (fun j _ _ => a4 137 j (by decide)) s.2) (by rw [List.length_append, List.length_singleton]; omega)
    rw [List.append_assoc] at b3
    refine ⟨h2, ?_, a2.tr b2 (Nat.le_refl _), b3⟩
    rw [raL_s, F_M_substituteNext_290_b, if_neg (by omega), if_neg (by decide), if_pos rfl, gd_b (by omega) (by omega), Int.toNat_natCast, a1, bnd_l, gd_rg (by omega) (by omega)]
    exact b1
end Rb
