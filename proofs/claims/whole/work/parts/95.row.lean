/-! the class's rows -/
section Row2
def um (l : List Tk) : List (Tk × Bool) := l.map fun t => (t, false)
def TSg (h : MH) (M c : Nat) : Nat → List (Tk × Bool) → Prop
  | _, [] => True
  | p, (t, m) :: l => TC h M (mGl h c p) t m ∧ TSg h M c (p + 1) l
variable {P P' Q Q' : Nat → Nat → Prop} {h h' h'' : MH} {M M' c r : Nat} {v : Int64} {t : Tk} {m : Bool} {nm : Nm} {w dn : List Tk}
theorem um_len {l : List Tk} : (um l).length = l.length := by unfold um; rw [List.length_map]
theorem um_app {l l' : List Tk} : um (l ++ l') = um l ++ um l' := by unfold um; rw [List.map_append]
theorem TSg.cg (e : ∀ j, j < M → mGi h' 88 j = mGi h 88 j) (h1 : M ≤ M') (h2 : M' ≤ 1302) : ∀ {l : List (Tk × Bool)} {p : Nat}, (∀ j, p ≤ j → j < p + l.length → mGl h' c j = mGl h c j) → TSg h M c p l → TSg h' M' c p l
  | [], _, _, _ => trivial
  | (t, m) :: l, p, el, z => by
    refine ⟨?_, TSg.cg e h1 h2 (fun j a b => el j (by omega) (by rw [List.length_cons]; omega)) z.2⟩
    rw [el p (Nat.le_refl _) (by rw [List.length_cons]; omega)]
    exact z.1.cg e h1 h2
theorem TSg.app : ∀ {l1 : List (Tk × Bool)} {p : Nat} {l2 : List (Tk × Bool)}, TSg h M c p (l1 ++ l2) ↔ TSg h M c p l1 ∧ TSg h M c (p + l1.length) l2
  | [], p, l2 => ⟨fun z => ⟨trivial, z⟩, fun z => z.2⟩
  | (t, m) :: l, p, l2 => by
    have z := TSg.app (l1 := l) (p := p + 1) (l2 := l2)
    rw [List.length_cons, show p + (l.length + 1) = p + 1 + l.length by omega]
    exact ⟨fun q => ⟨⟨q.1, (z.mp q.2).1⟩, (z.mp q.2).2⟩, fun q => ⟨q.1.1, z.mpr ⟨q.1.2, q.2⟩⟩⟩
theorem TSg.get : ∀ {l : List (Tk × Bool)} {p : Nat} (_ : TSg h M c p l) {j : Nat} {x : Tk × Bool}, l[j]? = some x → TC h M (mGl h c (p + j)) x.1 x.2
  | [], _, _, j, x, e => by simp at e
  | (t, m) :: l, p, z, 0, x, e => by
    simp at e
    subst e
    exact z.1
  | (t, m) :: l, p, z, j + 1, x, e => by
    rw [show p + (j + 1) = p + 1 + j by omega]
    exact TSg.get z.2 (by simpa using e)
theorem TSg.mv {c' : Nat} : ∀ {l : List (Tk × Bool)} {p p' : Nat}, (∀ j, j < l.length → mGl h' c' (p' + j) = mGl h c (p + j)) → (∀ j, j < M → mGi h' 88 j = mGi h 88 j) → TSg h M c p l → TSg h' M c' p' l
  | [], _, _, _, _, _ => trivial
  | (t, m) :: l, p, p', el, e, z => by
    have q := el 0 (by rw [List.length_cons]; omega)
    rw [Nat.add_zero, Nat.add_zero] at q
    refine ⟨?_, TSg.mv (fun j hj => ?_) e z.2⟩
    · rw [q]
      obtain ⟨s, g, z1, z2, z3, z4, z5⟩ := z.1
      exact TC.cg z.1 e (Nat.le_refl _) z5
    · have q := el (j + 1) (by rw [List.length_cons]; omega)
      rw [show p' + (j + 1) = p' + 1 + j by omega, show p + (j + 1) = p + 1 + j by omega] at q
      exact q
theorem TSg.tk {l : List (Tk × Bool)} {p : Nat} (k : Nat) (z : TSg h M c p l) : TSg h M c p (l.take k) := by
  rw [← List.take_append_drop k l] at z
  exact (TSg.app.mp z).1
theorem TSg.dr {l : List (Tk × Bool)} {p k : Nat} (hk : k ≤ l.length) (z : TSg h M c p l) : TSg h M c (p + k) (l.drop k) := by
  rw [← List.take_append_drop k l] at z
  have q := (TSg.app.mp z).2
  rw [List.length_take, Nat.min_eq_left hk] at q
  exact q
def RowW (h : MH) (M r : Nat) (w : List Tk) : Prop := mGi h r 1 = ((100 - w.length : Nat) : Int) ∧ w.length ≤ 100 ∧ TSg h M (r + 1) (100 - w.length) (um w)
def RowD (h : MH) (M r : Nat) (dn : List Tk) : Prop := mGi h r 3 = (dn.length : Int) ∧ dn.length ≤ 100 ∧ TSg h M (r + 2) 0 (um dn)
def RowK (h : MH) (M r : Nat) (cm : List (Tk × Bool)) : Prop := mGi h r 5 = (cm.length : Int) ∧ cm.length ≤ 1200 ∧ TSg h M (r + 3) 0 cm
theorem RowW.cg (z : RowW h M r w) (e : ∀ j, j < M → mGi h' 88 j = mGi h 88 j) (h1 : M ≤ M') (h2 : M' ≤ 1302) (ei : mGi h' r 1 = mGi h r 1) (el : ∀ j, mGl h' (r + 1) j = mGl h (r + 1) j) : RowW h' M' r w := ⟨ei.trans z.1, z.2.1, TSg.cg e h1 h2 (fun j _ _ => el j) z.2.2⟩
theorem RowD.cg (z : RowD h M r dn) (e : ∀ j, j < M → mGi h' 88 j = mGi h 88 j) (h1 : M ≤ M') (h2 : M' ≤ 1302) (ei : mGi h' r 3 = mGi h r 3) (el : ∀ j, mGl h' (r + 2) j = mGl h (r + 2) j) : RowD h' M' r dn := ⟨ei.trans z.1, z.2.1, TSg.cg e h1 h2 (fun j _ _ => el j) z.2.2⟩
theorem RowK.cg {cm : List (Tk × Bool)} (z : RowK h M r cm) (e : ∀ j, j < M → mGi h' 88 j = mGi h 88 j) (h1 : M ≤ M') (h2 : M' ≤ 1302) (ei : mGi h' r 5 = mGi h r 5) (el : ∀ j, mGl h' (r + 3) j = mGl h (r + 3) j) : RowK h' M' r cm := ⟨ei.trans z.1, z.2.1, TSg.cg e h1 h2 (fun j _ _ => el j) z.2.2⟩
/-! begin, look, finish -/
theorem ro_begin0 {a an p : Nat} (hw : 100 < w.length) : F_Ro_begin r a an (p : Int) (w.length : Int) h = some (.inl 0, h) := by
  unfold F_Ro_begin
  rw [if_neg (by omega)]
theorem ro_begin {a an p : Nat} (h88 : r ≠ 88) (hw : w.length ≤ 100) (hp : p + w.length ≤ an) (z : TSg h M a p (um w)) : ∃ h', F_Ro_begin r a an (p : Int) (w.length : Int) h = some (.inl 1, h') ∧ FW (fun b i => b = r ∧ (i = 1 ∨ i = 3)) (fun b _ => b = r + 1) h h' ∧ RowW h' M r w ∧ RowD h' M r [] := by
  have g1 : mGi (mPi h r 1 ((100 : Int) - (w.length : Int))) r 1 = ((100 - w.length : Nat) : Int) := by rw [gi_s]; omega
  refine ⟨mPi (mCpL (mPi h r 1 ((100 : Int) - (w.length : Int))) a (r + 1) p (100 - w.length) w.length) r 3 0, ?_, FW.pi (FW.cl (FW.pi FW.rf (by omega)) (fun j _ _ => rfl)) (by omega), ⟨?_, hw, ?_⟩, ⟨?_, by simp, trivial⟩⟩
  · unfold F_Ro_begin
    rw [if_pos (by omega), gd_rg (by omega) (by omega)]
    simp only [sto_e]
    rw [g1, gd_cp (by omega) (by omega) (by omega) (by omega) (by omega), Int.toNat_natCast, Int.toNat_natCast, Int.toNat_natCast]
  · rw [gi_pi, if_neg (by omega), gi_cl, g1]
  · refine TSg.mv (fun j hj => ?_) (fun j _ => ?_) z
    · rw [um_len] at hj
      rw [gl_pi, gl_cl, if_pos ⟨rfl, by omega, by omega⟩, gl_pi, show p + (100 - w.length + j - (100 - w.length)) = p + j by omega]
    · rw [gi_pi, if_neg (fun q => h88 q.1.symm), gi_cl, gi_pi, if_neg (fun q => h88 q.1.symm)]
  · rw [gi_s]; rfl
theorem ro_at {k : Nat} (z : RowW h M r w) (hk : k < 100) (hM : M ≤ 1302) : ∃ v, F_Ro_waitingAt r (k : Int) h = some (.inl v, h) ∧ TC h M v (w.getD k nTk) false := by
  obtain ⟨z1, z2, z3⟩ := z
  unfold F_Ro_waitingAt
  rw [z1, gd_rg (by omega) (by omega)]
  by_cases c : k < w.length
  · rw [if_neg (by omega), gd_b (by omega) (by omega), show (((100 - w.length : Nat) : Int) + (k : Int)).toNat = 100 - w.length + k by omega]
    refine ⟨_, rfl, ?_⟩
    have q := z3.get (j := k) (x := (w.getD k nTk, false)) (by unfold um; rw [List.getElem?_map, List.getElem?_eq_getElem c, List.getD_eq_getElem?_getD, List.getElem?_eq_getElem c]; rfl)
    exact q
  · rw [if_pos (by omega), List.getD_eq_getElem?_getD, List.getElem?_eq_none (by omega)]
    exact ⟨0, rfl, TC.none' hM⟩
theorem ro_fin0 (z : RowD h M r dn) (hd : 100 ≤ dn.length) : F_Ro_finishOne r h = some (.inl 0, h) := by
  unfold F_Ro_finishOne
  rw [z.1, if_neg (by omega)]
theorem ro_fin (h88 : r ≠ 88) (zw : RowW h M r (t :: w)) (zd : RowD h M r dn) (hd : dn.length < 100) : ∃ h', F_Ro_finishOne r h = some (.inl 1, h') ∧ FW (fun b i => b = r ∧ (i = 1 ∨ i = 3)) (fun b _ => b = r + 2) h h' ∧ RowW h' M r w ∧ RowD h' M r (dn ++ [t]) := by
  obtain ⟨z1, z2, z3⟩ := zw
  obtain ⟨y1, y2, y3⟩ := zd
  rw [List.length_cons] at z1 z2 z3
  have z3' : TC h M (mGl h (r + 1) (100 - (w.length + 1))) t false ∧ TSg h M (r + 1) (100 - (w.length + 1) + 1) (um w) := z3
  have f1 : FW (fun b i => b = r ∧ (i = 1 ∨ i = 3)) (fun b _ => b = r + 2) h (mPi (mPi (mPl h (r + 2) dn.length (mGl h (r + 1) (100 - (w.length + 1)))) r 3 ((dn.length : Int) + 1)) r 1 (((100 - (w.length + 1) : Nat) : Int) + 1)) := FW.pi (FW.pi (FW.pl FW.rf rfl) (by omega)) (by omega)
  have e88 : ∀ j, mGi (mPi (mPi (mPl h (r + 2) dn.length (mGl h (r + 1) (100 - (w.length + 1)))) r 3 ((dn.length : Int) + 1)) r 1 (((100 - (w.length + 1) : Nat) : Int) + 1)) 88 j = mGi h 88 j := fun j => f1.2.2.1 88 j (fun q => h88 q.1.symm)
  refine ⟨_, ?_, f1, ⟨?_, by omega, ?_⟩, ⟨?_, ?_, ?_⟩⟩
  · unfold F_Ro_finishOne
    rw [y1, if_pos (by omega), z1, gd_b (by omega) (by omega), gd_b (by omega) (by omega)]
    simp only [sto_e]
    rw [gi_pl, y1, gd_rg (by omega) (by omega), gi_pi, if_neg (by omega), gi_pl, z1, gd_rg (by omega) (by omega), Int.toNat_natCast, Int.toNat_natCast]
  · rw [gi_s]; omega
  · rw [show 100 - w.length = 100 - (w.length + 1) + 1 by omega]
    have hb : M ≤ 1302 := by obtain ⟨s, g, a1, a2, a3, a4, a5⟩ := z3'.1; exact a5
    exact TSg.cg (fun j _ => e88 j) (Nat.le_refl _) hb (fun j _ _ => f1.2.2.2 (r + 1) j (by omega)) z3'.2
  · rw [gi_pi, if_neg (by omega), gi_s, List.length_append]; simp
  · rw [List.length_append]; simp; omega
  · have hb : M ≤ 1302 := by obtain ⟨s, g, a1, a2, a3, a4, a5⟩ := z3'.1; exact a5
    rw [um_app, TSg.app]
    refine ⟨TSg.cg (fun j _ => e88 j) (Nat.le_refl _) hb (fun j _ hj => ?_) y3, ?_, trivial⟩
    · rw [um_len] at hj
      rw [gl_pi, gl_pi, gl_pl, if_neg (by omega)]
    · rw [um_len, gl_pi, gl_pi, gl_pl, if_pos ⟨rfl, by omega⟩]
      exact z3'.1.cg (fun j _ => e88 j) (Nat.le_refl _) hb
/-! what comes -/
def pK (r b i : Nat) : Prop := b = r ∧ i = 5
def qK (r b _i : Nat) : Prop := b = r + 3
theorem ro_bring {cm : List (Tk × Bool)} (h88 : r ≠ 88) (z : RowK h M r cm) (y : TC h M v t m) (hc : cm.length < 1200) : ∃ h', F_Ro_bring r v h = some (.inl (), h') ∧ FW (pK r) (qK r) h h' ∧ RowK h' M r (cm ++ [(t, m)]) := by
  obtain ⟨z1, z2, z3⟩ := z
  have hb : M ≤ 1302 := by obtain ⟨s, g, a1, a2, a3, a4, a5⟩ := y; exact a5
  have f1 : FW (pK r) (qK r) h (mPi (mPl h (r + 3) cm.length v) r 5 ((cm.length : Int) + 1)) := FW.pi (FW.pl FW.rf rfl) ⟨rfl, rfl⟩
  have e88 : ∀ j, mGi (mPi (mPl h (r + 3) cm.length v) r 5 ((cm.length : Int) + 1)) 88 j = mGi h 88 j := fun j => f1.2.2.1 88 j (fun q => h88 q.1.symm)
  refine ⟨_, ?_, f1, ?_, ?_, ?_⟩
  · unfold F_Ro_bring
    rw [z1, if_neg (by show ¬ (1200 : Int) ≤ _; omega), gd_b (by omega) (by omega)]
    simp only [sto_e]
    rw [gi_pl, z1, gd_rg (by omega) (by omega), Int.toNat_natCast]
  · rw [gi_s, List.length_append]; simp
  · rw [List.length_append]; simp; omega
  · rw [TSg.app]
    refine ⟨TSg.cg (fun j _ => e88 j) (Nat.le_refl _) hb (fun j _ hj => ?_) z3, ?_, trivial⟩
    · rw [gl_pi, gl_pl, if_neg (by omega)]
    · rw [gl_pi, gl_pl, if_pos ⟨rfl, by omega⟩]
      exact y.cg (fun j _ => e88 j) (Nat.le_refl _) hb
theorem ba_l {a an e : Nat} (h88 : r ≠ 88) (ha : a ≠ r + 3) (hb : M ≤ 1302) : ∀ (l : List Tk) (f p : Nat) (h : MH) (cm : List (Tk × Bool)), l.length < f → p + l.length = e → e ≤ an → an ≤ 1000 → TSg h M a p (um l) → RowK h M r cm → cm.length + l.length ≤ 1200 →
    ∃ h', itr (fun self (q : Nat × Nat × Nat × Int × Int × MH) => F_Ro_bringAll_3_b (fun v0 v1 v1n v3 v4 h => self (v0, v1, v1n, v3, v4, h)) q.1 q.2.1 q.2.2.1 q.2.2.2.1 q.2.2.2.2.1 q.2.2.2.2.2) f (r, a, an, (e : Int), (p : Int), h) = some (.inl (), h') ∧ FW (pK r) (qK r) h h' ∧ RowK h' M r (cm ++ um l) := by
  intro l
  induction l with
  | nil =>
    intro f p h cm hf hp he han s z hc
    obtain ⟨f, rfl⟩ : ∃ g, f = g + 1 := ⟨f - 1, by omega⟩
    rw [List.length_nil] at hp
    refine ⟨h, ?_, FW.rf, by unfold um; rw [List.map_nil, List.append_nil]; exact z⟩
    rw [itr_s]
    dsimp only
    rw [F_Ro_bringAll_3_b, if_pos (by omega)]
  | cons t l ih =>
    intro f p h cm hf hp he han s z hc
    obtain ⟨f, rfl⟩ : ∃ g, f = g + 1 := ⟨f - 1, by omega⟩
    rw [List.length_cons] at hp hf hc
    have s' : TC h M (mGl h a p) t false ∧ TSg h M a (p + 1) (um l) := s
    obtain ⟨h1, e1, f1, y1⟩ := ro_bring h88 z s'.1 (by omega)
    obtain ⟨h2, e2, f2, y2⟩ := ih f (p + 1) h1 (cm ++ [(t, false)]) (by omega) (by omega) he han (TSg.cg (fun j _ => f1.2.2.1 88 j (fun q => h88 q.1.symm)) (Nat.le_refl _) hb (fun j _ _ => f1.2.2.2 a j ha) s'.2) y1 (by rw [List.length_append, List.length_singleton]; omega)
    refine ⟨h2, ?_, f1.tr f2, ?_⟩
    · rw [itr_s]
      dsimp only
      rw [F_Ro_bringAll_3_b, if_neg (by omega), gd_b (by omega) (by omega), Int.toNat_natCast, e1, bnd_l, gd_rg (by omega) (by omega), show (p : Int) + 1 = ((p + 1 : Nat) : Int) by omega]
      exact e2
    · rw [List.append_assoc] at y2
      exact y2
theorem ro_all {a an p : Nat} {l : List Tk} {cm : List (Tk × Bool)} (h88 : r ≠ 88) (ha : a ≠ r + 3) (hb : M ≤ 1302) (hp : p + l.length ≤ an) (han : an ≤ 1000) (s : TSg h M a p (um l)) (z : RowK h M r cm) (hc : cm.length + l.length ≤ 1200) : ∃ h', F_Ro_bringAll r a an (p : Int) ((p + l.length : Nat) : Int) h = some (.inl (), h') ∧ FW (pK r) (qK r) h h' ∧ RowK h' M r (cm ++ um l) :=
  ba_l h88 ha hb l FU p h cm (by unfold FU; omega) rfl hp han s z hc
/-! hide -/
theorem hide_len (H : Hd) : ∀ l : List Tk, (hideT H l).length ≤ l.length
  | [] => Nat.le_refl _
  | (k, x, g) :: r => by
    have := hide_len H r
    rw [hideT, List.length_cons]
    split
    · omega
    · rw [List.length_cons]; omega
theorem hC.or {a b : Nat} {A B : Hd} (z : hC a A) (y : hC b B) : hC (a ||| b) (orH A B) := ⟨or_lt8 z.1 y.1, fun k hk => by rw [Nat.testBit_or, z.2 k hk, y.2 k hk]; rfl⟩
theorem hC.and {a b : Nat} {A B : Hd} (z : hC a A) (y : hC b B) : hC (a &&& b) (anH A B) := ⟨and_lt8 z.1, fun k hk => by rw [Nat.testBit_and, z.2 k hk, y.2 k hk]; rfl⟩
theorem hi_l {x : Nat} {H : Hd} (h88 : r ≠ 88) (hx : hC x H) (hb : M ≤ 1302) {n : Nat} (hn : n ≤ 1200) : ∀ (l : List Tk) (f k : Nat) (h : MH) (acc : List Tk), l.length < f → k + l.length = n → acc.length ≤ k → mGi h r 5 = (n : Int) → TSg h M (r + 3) 0 (um acc) → TSg h M (r + 3) k (um l) →
    ∃ h', itr (fun self (q : Nat × Int × Int × Int × MH) => F_Ex_hide_5_b (fun v1 v2 v3 v4 h => self (v1, v2, v3, v4, h)) q.1 q.2.1 q.2.2.1 q.2.2.2.1 q.2.2.2.2) f (r, (x : Int), (acc.length : Int), (k : Int), h) = some (.inl (), h') ∧ FW (pK r) (qK r) h h' ∧ RowK h' M r (um (acc ++ hideT H l)) := by
  intro l
  induction l with
  | nil =>
    intro f k h acc hf hk ha e5 s1 s2
    obtain ⟨f, rfl⟩ : ∃ g, f = g + 1 := ⟨f - 1, by omega⟩
    rw [List.length_nil] at hk
    have f1 : FW (pK r) (qK r) h (mPi h r 5 (acc.length : Int)) := FW.pi FW.rf ⟨rfl, rfl⟩
    refine ⟨mPi h r 5 (acc.length : Int), ?_, f1, ?_, ?_, ?_⟩
    · rw [itr_s]
      dsimp only
      rw [F_Ex_hide_5_b, e5, if_pos (by omega)]
      rfl
    · rw [gi_s, um_len, hideT, List.append_nil]
    · rw [um_len, hideT, List.append_nil]; omega
    · rw [hideT, List.append_nil]
      exact TSg.cg (fun j _ => f1.2.2.1 88 j (fun q => h88 q.1.symm)) (Nat.le_refl _) hb (fun j _ _ => rfl) s1
  | cons t l ih =>
    intro f k h acc hf hk ha e5 s1 s2
    obtain ⟨f, rfl⟩ : ∃ g, f = g + 1 := ⟨f - 1, by omega⟩
    rw [List.length_cons] at hk hf
    have s2' : TC h M (mGl h (r + 3) k) t false ∧ TSg h M (r + 3) (k + 1) (um l) := s2
    obtain ⟨kd, tx, g⟩ := t
    rw [itr_s]
    dsimp only
    unfold F_Ex_hide_5_b F_Ex_hide_47
    rw [e5, if_neg (by omega), gd_b (by omega) (by omega), Int.toNat_natCast, to_len s2'.1, bnd_l, hideT]
    by_cases c0 : tx = []
    · rw [if_pos (by show (tx.length : Int) ≤ 0; rw [c0]; simp), if_pos c0, gd_rg (by omega) (by omega), show (k : Int) + 1 = ((k + 1 : Nat) : Int) by omega]
      exact ih f (k + 1) h acc (by omega) (by omega) (by omega) e5 s1 s2'.2
    · have hl : tx.length ≠ 0 := fun q => c0 (List.eq_nil_of_length_eq_zero q)
      obtain ⟨s, g0, z1, z2, z3, z4, z5⟩ := s2'.1
      have hv : TC h M (mGl h (r + 3) k ||| (c64 (x : Int) <<< ((Int32.ofInt (40 : Int)).toInt64 &&& 63))) (kd, tx, orH g H) false := ⟨s, g0 ||| x, z1.hide hx.1, z2.or hx, z3, z4, z5⟩
      generalize hvv : (mGl h (r + 3) k ||| (c64 (x : Int) <<< ((Int32.ofInt (40 : Int)).toInt64 &&& 63))) = v at hv
      have f1 : FW (pK r) (qK r) h (mPl h (r + 3) acc.length v) := FW.pl FW.rf rfl
      obtain ⟨h2, e2, f2, y2⟩ := ih f (k + 1) (mPl h (r + 3) acc.length v) (acc ++ [(kd, tx, orH g H)]) (by omega) (by omega) (by rw [List.length_append, List.length_singleton]; omega) e5 (by
        rw [um_app, TSg.app]
        refine ⟨TSg.cg (h := h) (fun j _ => gi_pl) (Nat.le_refl _) hb (fun j _ hj => by rw [um_len] at hj; rw [gl_pl, if_neg (by omega)]) s1, ?_, trivial⟩
        rw [um_len, gl_pl, if_pos ⟨rfl, by omega⟩]
        exact hv.cg (fun j _ => gi_pl) (Nat.le_refl _) hb) (TSg.cg (h := h) (fun j _ => gi_pl) (Nat.le_refl _) hb (fun j h1 hj => by rw [gl_pl, if_neg (by omega)]) s2'.2)
      rw [if_neg (by show ¬ (tx.length : Int) ≤ 0; omega), if_neg c0]
      unfold F_To_hiding
      rw [bnd_l, gd_b (by omega) (by omega), Int.toNat_natCast]
      simp only [sto_e]
      rw [gd_rg (by omega) (by omega), gd_rg (by omega) (by omega)]
      refine ⟨h2, ?_, f1.tr f2, ?_⟩
      · rw [List.length_append, List.length_singleton, show ((acc.length + 1 : Nat) : Int) = (acc.length : Int) + 1 by omega, show ((k + 1 : Nat) : Int) = (k : Int) + 1 by omega] at e2
        rw [← hvv] at e2
        exact e2
      · rw [List.append_assoc] at y2
        exact y2
theorem ex_hide {x : Nat} {H : Hd} {l : List Tk} (h88 : r ≠ 88) (hx : hC x H) (hb : M ≤ 1302) (z : RowK h M r (um l)) : ∃ h', F_Ex_hide r (x : Int) h = some (.inl (), h') ∧ FW (pK r) (qK r) h h' ∧ RowK h' M r (um (hideT H l)) := by
  obtain ⟨z1, z2, z3⟩ := z
  rw [um_len] at z1 z2
  exact hi_l h88 hx hb z2 l FU 0 h [] (by unfold FU; omega) (by omega) (Nat.le_refl _) z1 trivial z3
theorem ro_in0 {cm : List Tk} {last : Nat} (z : RowK h M r (um cm)) (hl : last < 100) (hc : last + 1 < cm.length) : F_Ro_comeIn r (last : Int) h = some (.inl 0, h) := by
  have z1 := z.1
  rw [um_len] at z1
  unfold F_Ro_comeIn
  rw [gd_rg (by omega) (by omega), z1, if_neg (by omega)]
theorem ro_in {cm r' : List Tk} {last : Nat} (h88 : r ≠ 88) (hb : M ≤ 1302) (z : RowK h M r (um cm)) (hl : last + 1 + r'.length = 100) (hc : cm.length ≤ last + 1) (s : TSg h M (r + 1) (last + 1) (um r')) : ∃ h', F_Ro_comeIn r (last : Int) h = some (.inl 1, h') ∧ FW (fun b i => b = r ∧ i = 1) (fun b _ => b = r + 1) h h' ∧ RowW h' M r (cm ++ r') := by
  obtain ⟨z1, z2, z3⟩ := z
  rw [um_len] at z1
  have g1 : mGi (mPi h r 1 ((last : Int) + 1 - (cm.length : Int))) r 1 = ((last + 1 - cm.length : Nat) : Int) := by rw [gi_s]; omega
  have g5 : mGi (mPi h r 1 ((last : Int) + 1 - (cm.length : Int))) r 5 = (cm.length : Int) := by rw [gi_pi, if_neg (by omega), z1]
  have f1 : FW (fun b i => b = r ∧ i = 1) (fun b _ => b = r + 1) h (mCpL (mPi h r 1 ((last : Int) + 1 - (cm.length : Int))) (r + 3) (r + 1) 0 (last + 1 - cm.length) cm.length) := FW.cl (FW.pi FW.rf ⟨rfl, rfl⟩) (fun j _ _ => rfl)
  refine ⟨_, ?_, f1, ?_, ?_, ?_⟩
  · unfold F_Ro_comeIn
    rw [gd_rg (by omega) (by omega), z1, if_pos (by omega), gd_rg (by omega) (by omega)]
    simp only [sto_e]
    rw [g1, g5, gd_cp (by omega) (by omega) (by omega) (by omega) (by omega), Int.toNat_natCast, Int.toNat_natCast]
    rfl
  · rw [gi_cl, g1, List.length_append]
    omega
  · rw [List.length_append]; omega
  · rw [um_app, TSg.app, List.length_append]
    refine ⟨TSg.mv (fun j hj => ?_) (fun j _ => f1.2.2.1 88 j (fun q => h88 q.1.symm)) z3, TSg.cg (fun j _ => f1.2.2.1 88 j (fun q => h88 q.1.symm)) (Nat.le_refl _) hb (fun j hj _ => ?_) ?_⟩
    · rw [um_len] at hj
      rw [gl_cl, if_pos ⟨rfl, by omega, by omega⟩, gl_pi, show 0 + (100 - (cm.length + r'.length) + j - (last + 1 - cm.length)) = 0 + j by omega]
    · rw [um_len] at hj
      rw [gl_cl, if_neg (by omega), gl_pi]
    · rw [um_len, show 100 - (cm.length + r'.length) + cm.length = last + 1 by omega]
      exact s
end Row2
