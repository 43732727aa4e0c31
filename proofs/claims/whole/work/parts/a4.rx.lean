/-! the reference expands: one token -/
section Rx
variable {h h' h'' : MH} {M M' T d : Nat} {v v' : Int64} {t t' : Tk} {m m' : Bool} {nm : Nm} {rp md rp' md' : Nat} {w dn R : List Tk} {ar : List (List Tk)} {cm : List (Tk × Bool)}
def PlR (h : MH) (T md : Nat) : Prop := mGi h 107 24 = ((T + 2 + md : Nat) : Int) ∧ mGi h 107 25 = (md : Int) ∧ md ≤ 900 ∧ T ≤ 400
def CmR (nm : Nm) (T : Nat) (h : MH) (rp md : Nat) : Prop := NmR h (T + 2 + md) nm ∧ PlR h T md ∧ mGi h 107 28 = (rp : Int) ∧ rp ≤ 400 ∧ mGi h 107 1 = 0
def pX (d C b i : Nat) : Prop := (b = 107 ∧ (i = 1 ∨ i = 24 ∨ i = 25 ∨ i = 28 ∨ i = 30 ∨ i = 31 ∨ i = 48)) ∨ (b = 121 ∧ C ≤ i) ∨ ((b = 140 ∨ b = 141 ∨ b = 143 ∨ b = 144 ∨ b = 145 ∨ b = 146) ∧ d ≤ i) ∨ (b = 142 ∧ 4 * d ≤ i)
def qX (d b i : Nat) : Prop := ((b = 135 ∨ b = 136 ∨ b = 137) ∧ 100 * d ≤ i) ∨ (b = 138 ∧ 1300 * d ≤ i)
def RX2 (d C : Nat) (h h' : MH) : Prop := FW (pX d C) (qX d) h h'
theorem RX2.rf {C : Nat} : RX2 d C h h := FW.rf
theorem RX2.tr {C C' : Nat} (a : RX2 d C h h') (b : RX2 d C' h' h'') (hC : C ≤ C') : RX2 d C h h'' := FW.tr a (FW.sub b (fun b i q => by unfold pX at *; omega) (fun _ _ q => q))
theorem RX2.up {C : Nat} (a : RX2 (d + 1) C h h') : RX2 d C h h' := FW.sub a (fun b i q => by unfold pX at *; omega) (fun b i q => by unfold qX at *; omega)
theorem RX2.mk {P Q : Nat → Nat → Prop} {C : Nat} (f : FW P Q h h') (hP : ∀ b i, P b i → pX d C b i) (hQ : ∀ b i, Q b i → qX d b i) : RX2 d C h h' := FW.sub f hP hQ
theorem RX2.c121 {C j : Nat} (a : RX2 d C h h') (hj : j < C) : mGi h' 121 j = mGi h 121 j := a.2.2.1 121 j (by unfold pX; omega)
theorem CmR.fx {C : Nat} (z : CmR nm T h rp md) (f : RX2 d C h h') (hC : T + 2 + md ≤ C) (hm : md ≤ md') (p : PlR h' T md') (e : mGi h' 107 28 = (rp' : Int)) (h4 : rp' ≤ 400) (e1 : mGi h' 107 1 = 0) : CmR nm T h' rp' md' := by
  obtain ⟨z1, z2, z3, z4, z5⟩ := z
  have := p.2.2
  exact ⟨z1.cg (fun j hj => f.c121 (by omega)) (by omega) (by omega) (fun b j hb => f.2.2.1 b j (by unfold pX; omega)) (fun b j hb => f.2.2.2 b j (by unfold qX; omega)), p, e, h4, e1⟩
theorem CmR.mx (z : CmR nm T h rp md) : T + 2 + md ≤ 1302 := by have := z.2.1.2.2; omega
def TdR (h : MH) (M d : Nat) (w : List Tk) : Prop := mGi h 140 d = (w.length : Int) ∧ w.length ≤ 100 ∧ RSg h M 135 (100 * d) (um w.reverse)
def DnR (h : MH) (M d : Nat) (dn : List Tk) : Prop := mGi h 141 d = (dn.length : Int) ∧ dn.length ≤ 100 ∧ RSg h M 136 (100 * d) (um dn)
def RwR (h : MH) (M d : Nat) (cm : List (Tk × Bool)) : Prop := mGi h 143 d = (cm.length : Int) ∧ cm.length ≤ 1300 ∧ RSg h M 138 (1300 * d) cm
def ArR (h : MH) (M d : Nat) (ar : List (List Tk)) : Prop := (∀ i, i ≤ ar.length → ar ≠ [] → mGi h 142 (4 * d + i) = ((ar.take i).flatten.length : Int)) ∧ ar.length ≤ 3 ∧ ar.flatten.length ≤ 100 ∧ RSg h M 137 (100 * d) (um ar.flatten)
/-- what lies at a depth stays, if only deeper cells change -/
theorem TdR.dp {C : Nat} (z : TdR h M d w) (f : RX2 (d + 1) C h h') (hC : M ≤ C) (h1 : M ≤ M') (h2 : M' ≤ 1302) : TdR h' M' d w := ⟨(f.2.2.1 140 d (by unfold pX; omega)).trans z.1, z.2.1, RSg.cg (fun j hj => f.c121 (by omega)) h1 h2 (fun j _ hj => f.2.2.2 135 j (by have := z.2.1; rw [um_len, List.length_reverse] at hj; unfold qX; omega)) z.2.2⟩
theorem DnR.dp {C : Nat} (z : DnR h M d w) (f : RX2 (d + 1) C h h') (hC : M ≤ C) (h1 : M ≤ M') (h2 : M' ≤ 1302) : DnR h' M' d w := ⟨(f.2.2.1 141 d (by unfold pX; omega)).trans z.1, z.2.1, RSg.cg (fun j hj => f.c121 (by omega)) h1 h2 (fun j _ hj => f.2.2.2 136 j (by have := z.2.1; rw [um_len] at hj; unfold qX; omega)) z.2.2⟩
theorem RwR.dp {C : Nat} (z : RwR h M d cm) (f : RX2 (d + 1) C h h') (hC : M ≤ C) (h1 : M ≤ M') (h2 : M' ≤ 1302) : RwR h' M' d cm := ⟨(f.2.2.1 143 d (by unfold pX; omega)).trans z.1, z.2.1, RSg.cg (fun j hj => f.c121 (by omega)) h1 h2 (fun j _ hj => f.2.2.2 138 j (by have := z.2.1; unfold qX; omega)) z.2.2⟩
theorem ArR.dp {C : Nat} (z : ArR h M d ar) (f : RX2 (d + 1) C h h') (hC : M ≤ C) (h1 : M ≤ M') (h2 : M' ≤ 1302) : ArR h' M' d ar := ⟨fun i hi hn => (f.2.2.1 142 (4 * d + i) (by have := z.2.1; unfold pX; omega)).trans (z.1 i hi hn), z.2.1, z.2.2.1, RSg.cg (fun j hj => f.c121 (by omega)) h1 h2 (fun j _ hj => f.2.2.2 137 j (by have := z.2.2.1; rw [um_len] at hj; unfold qX; omega)) z.2.2.2⟩
/-- what lies at a depth stays, if its own cells don't change -/
theorem TdR.cg2 (z : TdR h M d w) (e : ∀ j, j < M → mGi h' 121 j = mGi h 121 j) (h1 : M ≤ M') (h2 : M' ≤ 1302) (ei : mGi h' 140 d = mGi h 140 d) (el : ∀ j, mGl h' 135 j = mGl h 135 j) : TdR h' M' d w := ⟨ei.trans z.1, z.2.1, RSg.cg e h1 h2 (fun j _ _ => el j) z.2.2⟩
theorem DnR.cg2 (z : DnR h M d w) (e : ∀ j, j < M → mGi h' 121 j = mGi h 121 j) (h1 : M ≤ M') (h2 : M' ≤ 1302) (ei : mGi h' 141 d = mGi h 141 d) (el : ∀ j, mGl h' 136 j = mGl h 136 j) : DnR h' M' d w := ⟨ei.trans z.1, z.2.1, RSg.cg e h1 h2 (fun j _ _ => el j) z.2.2⟩
theorem ArR.cg2 (z : ArR h M d ar) (e : ∀ j, j < M → mGi h' 121 j = mGi h 121 j) (h1 : M ≤ M') (h2 : M' ≤ 1302) (ei : ∀ j, mGi h' 142 j = mGi h 142 j) (el : ∀ j, mGl h' 137 j = mGl h 137 j) : ArR h' M' d ar := ⟨fun i hi hn => (ei _).trans (z.1 i hi hn), z.2.1, z.2.2.1, RSg.cg e h1 h2 (fun j _ _ => el j) z.2.2.2⟩
theorem RwR.cg2 (z : RwR h M d cm) (e : ∀ j, j < M → mGi h' 121 j = mGi h 121 j) (h1 : M ≤ M') (h2 : M' ≤ 1302) (ei : mGi h' 143 d = mGi h 143 d) (el : ∀ j, mGl h' 138 j = mGl h 138 j) : RwR h' M' d cm := ⟨ei.trans z.1, z.2.1, RSg.cg e h1 h2 (fun j _ _ => el j) z.2.2⟩
theorem um_rev {t : Tk} {w : List Tk} : um (t :: w).reverse = um w.reverse ++ [(t, false)] := by rw [List.reverse_cons, um_app]; rfl
theorem TdR.top (z : TdR h M d (t :: w)) : TR h M (mGl h 135 (100 * d + w.length)) t false ∧ RSg h M 135 (100 * d) (um w.reverse) := by
  have q := z.2.2
  rw [um_rev, RSg.app, um_len, List.length_reverse] at q
  exact ⟨q.2.1, q.1⟩
/-- a row that is scanned -/
def SR (nm : Nm) (T d : Nat) (h : MH) (rp md : Nat) (w dn : List Tk) : Prop := CmR nm T h rp md ∧ mGi h 107 48 = (d : Int) ∧ mGi h 144 d = -1 ∧ TdR h (T + 2 + md) d w ∧ DnR h (T + 2 + md) d dn
/-- a row in the midst of a replacement -/
def UR (nm : Nm) (T d : Nat) (h : MH) (rp md k g at' : Nat) (R dn : List Tk) (ar : List (List Tk)) (cm : List (Tk × Bool)) : Prop :=
  CmR nm T h rp md ∧ mGi h 107 48 = (d : Int) ∧ mGi h 144 d = ((7 - k : Nat) : Int) ∧ mGi h 145 d = (at' : Int) ∧ mGi h 146 d = (g : Int) ∧ TdR h (T + 2 + md) d R ∧ DnR h (T + 2 + md) d dn ∧ ArR h (T + 2 + md) d ar ∧ RwR h (T + 2 + md) d cm
theorem ArR.no : ArR h M d [] := ⟨fun i _ hn => absurd rfl hn, by decide, by decide, trivial⟩
/-! a token is done -/
theorem sc_fin (hd : d < 8) (z : SR nm T d h rp md (t :: w) dn) (y : TR h (T + 2 + md) v t false) : (100 ≤ dn.length → F_M_scanNext_259 (d : Int) v h = some (.inl 1, mPi h 107 1 1)) ∧ (dn.length < 100 → ∃ h', F_M_scanNext_259 (d : Int) v h = some (.inl 1, h') ∧ RX2 d (T + 2 + md) h h' ∧ SR nm T d h' rp md w (dn ++ [t])) := by
  obtain ⟨z1, z2, z3, z4, z5⟩ := z
  have hM := z1.mx
  have er := z1.2.2.2.2
  have h5 := z5.2.1
  have h4 := z4.2.1
  rw [List.length_cons] at h4
  unfold F_M_scanNext_259 F_M_scanNext_276
  rw [gd_b (by omega) (by omega), Int.toNat_natCast, z5.1]
  refine ⟨fun c => ?_, fun c => ?_⟩
  · rw [if_pos (by omega), gd_01a, need_0 er (by decide), bnd_l, if_pos rfl]
  · rw [if_neg (by omega), gd_01b, need_1 er, bnd_l, if_neg (by decide), gd_rg (by omega) (by omega), gd_b (by omega) (by omega), z5.1, gd_rg (by omega) (by omega), gd_b (by omega) (by omega), show ((100 : Int) * (d : Int) + (dn.length : Int)).toNat = 100 * d + dn.length by omega]
    simp only [sto_e]
    have g1 : mGi (mPl h 136 (100 * d + dn.length) v) 141 d = (dn.length : Int) := z5.1
    rw [g1, gd_rg (by omega) (by omega), gi_pi, if_neg (by omega), gi_pl, z4.1, List.length_cons, gd_rg (by omega) (by omega)]
    have F : RX2 d (T + 2 + md) h (mPi (mPi (mPl h 136 (100 * d + dn.length) v) 141 d ((dn.length : Int) + 1)) 140 d (((w.length + 1 : Nat) : Int) - 1)) := FW.pi (FW.pi (FW.pl FW.rf (by unfold qX; omega)) (by unfold pX; omega)) (by unfold pX; omega)
    have e121 : ∀ j, j < T + 2 + md → mGi (mPi (mPi (mPl h 136 (100 * d + dn.length) v) 141 d ((dn.length : Int) + 1)) 140 d (((w.length + 1 : Nat) : Int) - 1)) 121 j = mGi h 121 j := fun j hj => F.c121 hj
    refine ⟨_, rfl, F, z1.fx F (Nat.le_refl _) (Nat.le_refl _) ⟨?_, ?_, z1.2.1.2.2⟩ ?_ z1.2.2.2.1 ?_, ?_, ?_, ⟨?_, by omega, ?_⟩, ⟨?_, ?_, ?_⟩⟩
    · rw [gi_pi, if_neg (by omega), gi_pi, if_neg (by omega), gi_pl]; exact z1.2.1.1
    · rw [gi_pi, if_neg (by omega), gi_pi, if_neg (by omega), gi_pl]; exact z1.2.1.2.1
    · rw [gi_pi, if_neg (by omega), gi_pi, if_neg (by omega), gi_pl]; exact z1.2.2.1
    · rw [gi_pi, if_neg (by omega), gi_pi, if_neg (by omega), gi_pl]; exact er
    · rw [gi_pi, if_neg (by omega), gi_pi, if_neg (by omega), gi_pl]; exact z2
    · rw [gi_pi, if_neg (by omega), gi_pi, if_neg (by omega), gi_pl]; exact z3
    · rw [gi_s]; omega
    · exact RSg.cg e121 (Nat.le_refl _) hM (fun j _ _ => by rw [gl_pi, gl_pi, gl_pl, if_neg (by omega)]) z4.top.2
    · rw [gi_pi, if_neg (by omega), gi_s, List.length_append, List.length_singleton]; omega
    · rw [List.length_append, List.length_singleton]; omega
    · rw [um_app, RSg.app]
      refine ⟨RSg.cg e121 (Nat.le_refl _) hM (fun j _ hj => by rw [um_len] at hj; rw [gl_pi, gl_pi, gl_pl, if_neg (by omega)]) z5.2.2, ?_, trivial⟩
      rw [um_len, gl_pi, gl_pi, gl_pl, if_pos ⟨rfl, rfl⟩]
      exact y.cg e121 (Nat.le_refl _) hM
/-! a replacement begins -/
theorem hR.and {a b : Nat} {A B : Hd} (z : hR a A) (y : hR b B) : hR (a &&& b) (anH A B) := ⟨and_lt8 z.1, fun k hk => by rw [Nat.testBit_and, z.2 k hk, y.2 k hk]; rfl⟩
theorem hR.or {a b : Nat} {A B : Hd} (z : hR a A) (y : hR b B) : hR (a ||| b) (orH A B) := ⟨or_lt8 z.1 y.1, fun k hk => by rw [Nat.testBit_or, z.2 k hk, y.2 k hk]; rfl⟩
theorem hR.bit {k : Nat} (hk : k < 8) : hR (2 ^ (7 - k)) (fun i => decide (i = k)) := by
  refine ⟨by have : 2 ^ (7 - k) < 2 ^ 8 := Nat.pow_lt_pow_right (by decide) (by omega); omega, fun i hi => ?_⟩
  rw [Nat.testBit_two_pow]
  by_cases c : i = k
  · show decide (7 - k = 7 - i) = decide (i = k)
    rw [decide_eq_true c, decide_eq_true (by omega)]
  · show decide (7 - k = 7 - i) = decide (i = k)
    rw [decide_eq_false c, decide_eq_false (by omega)]
theorem mh_e (z : TR h M v t m) : ∃ g, hR g t.2.2 ∧ ∀ h' : MH, F_M_hidesOf v h' = some (.inl (g : Int), h') := by
  obtain ⟨s, g, z1, z2, -⟩ := z
  refine ⟨g, z2, fun h' => ?_⟩
  unfold F_M_hidesOf
  rw [z1.hid]
theorem sc_rep {k g : Nat} {H : Hd} (hd : d < 8) (hk : k < 8) (hg : hR g H) (z1 : CmR nm T h rp md) (z2 : mGi h 107 48 = (d : Int)) (hRl : R.length ≤ 100) (zt : RSg h (T + 2 + md) 135 (100 * d) (um R.reverse)) (zd : DnR h (T + 2 + md) d dn) (za : ArR h (T + 2 + md) d ar) :
    (400 ≤ rp → F_M_replace (d : Int) ((7 - k : Nat) : Int) (R.length : Int) (g : Int) h = some (.inl (), mPi h 107 1 2)) ∧ (rp < 400 → ∃ h' g', F_M_replace (d : Int) ((7 - k : Nat) : Int) (R.length : Int) (g : Int) h = some (.inl (), h') ∧ hR g' (orH H fun i => decide (i = k)) ∧ RX2 d (T + 2 + md) h h' ∧ UR nm T d h' (rp + 1) md k g' 0 R dn ar []) := by
  have hM := z1.mx
  have er := z1.2.2.2.2
  unfold F_M_replace F_M_replace_16
  rw [z1.2.2.1]
  refine ⟨fun c => ?_, fun c => ?_⟩
  · rw [if_pos (by omega), gd_01a, need_0 er (by decide), bnd_l, if_pos rfl]
  · rw [if_neg (by omega), gd_01b, need_1 er, bnd_l, if_neg (by decide), z1.2.2.1, gd_rg (by omega) (by omega)]
    simp only [sto_e, Int.toNat_natCast]
    rw [gd_b (by omega) (by omega), iShl_n (show 7 - k < 8 by omega), iOr_n hg.1 (hR.bit hk).1]
    have F : RX2 d (T + 2 + md) h (mPi (mPi (mPi (mPi (mPi (mPi h 107 28 ((rp : Int) + 1)) 140 d (R.length : Int)) 144 d ((7 - k : Nat) : Int)) 145 d 0) 143 d 0) 146 d ((g ||| 2 ^ (7 - k) : Nat) : Int)) := FW.pi (FW.pi (FW.pi (FW.pi (FW.pi (FW.pi FW.rf (by unfold pX; omega)) (by unfold pX; omega)) (by unfold pX; omega)) (by unfold pX; omega)) (by unfold pX; omega)) (by unfold pX; omega)
    have gi : ∀ b i, ¬ (b = 107 ∧ i = 28) → ¬ (b = 140 ∧ i = d) → ¬ (b = 144 ∧ i = d) → ¬ (b = 145 ∧ i = d) → ¬ (b = 143 ∧ i = d) → ¬ (b = 146 ∧ i = d) → mGi (mPi (mPi (mPi (mPi (mPi (mPi h 107 28 ((rp : Int) + 1)) 140 d (R.length : Int)) 144 d ((7 - k : Nat) : Int)) 145 d 0) 143 d 0) 146 d ((g ||| 2 ^ (7 - k) : Nat) : Int)) b i = mGi h b i := fun b i q1 q2 q3 q4 q5 q6 => by
      rw [gi_pi, if_neg q6, gi_pi, if_neg q5, gi_pi, if_neg q4, gi_pi, if_neg q3, gi_pi, if_neg q2, gi_pi, if_neg q1]
    have e121 : ∀ j, j < T + 2 + md → mGi (mPi (mPi (mPi (mPi (mPi (mPi h 107 28 ((rp : Int) + 1)) 140 d (R.length : Int)) 144 d ((7 - k : Nat) : Int)) 145 d 0) 143 d 0) 146 d ((g ||| 2 ^ (7 - k) : Nat) : Int)) 121 j = mGi h 121 j := fun j hj => F.c121 hj
    refine ⟨_, _, rfl, hg.or (hR.bit hk), F, z1.fx F (Nat.le_refl _) (Nat.le_refl _) ⟨(gi 107 24 (by omega) (by omega) (by omega) (by omega) (by omega) (by omega)).trans z1.2.1.1, (gi 107 25 (by omega) (by omega) (by omega) (by omega) (by omega) (by omega)).trans z1.2.1.2.1, z1.2.1.2.2⟩ ?_ (by omega) ((gi 107 1 (by omega) (by omega) (by omega) (by omega) (by omega) (by omega)).trans er), (gi 107 48 (by omega) (by omega) (by omega) (by omega) (by omega) (by omega)).trans z2, ?_, ?_, ?_, ⟨?_, hRl, RSg.cg e121 (Nat.le_refl _) hM (fun j _ _ => rfl) zt⟩, zd.cg2 e121 (Nat.le_refl _) hM (gi 141 d (by omega) (by omega) (by omega) (by omega) (by omega) (by omega)) (fun j => rfl), za.cg2 e121 (Nat.le_refl _) hM (fun j => gi 142 j (by omega) (by omega) (by omega) (by omega) (by omega) (by omega)) (fun j => rfl), ?_, by simp, trivial⟩
    · rw [gi_pi, if_neg (by omega), gi_pi, if_neg (by omega), gi_pi, if_neg (by omega), gi_pi, if_neg (by omega), gi_pi, if_neg (by omega), gi_s]; omega
    · rw [gi_pi, if_neg (by omega), gi_pi, if_neg (by omega), gi_pi, if_neg (by omega), gi_s]
    · rw [gi_pi, if_neg (by omega), gi_pi, if_neg (by omega), gi_s]; rfl
    · rw [gi_s]
    · rw [gi_pi, if_neg (by omega), gi_pi, if_neg (by omega), gi_pi, if_neg (by omega), gi_pi, if_neg (by omega), gi_s]
    · rw [gi_pi, if_neg (by omega), gi_s]; rfl
end Rx
