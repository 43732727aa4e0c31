/-! the reference makes characters, and lets tokens come -/
section Rp
variable {h h' h'' : MH} {M T d C : Nat} {v : Int64} {t : Tk} {m : Bool} {nm : Nm} {rp md md' : Nat} {x y : List Int} {k g pa : Nat} {R dn : List Tk} {ar : List (List Tk)} {cm cm' : List (Tk × Bool)}
def pGw (C b i : Nat) : Prop := (b = 107 ∧ i = 24) ∨ (b = 121 ∧ C ≤ i)
def Gw (h h' : MH) (C : Nat) (x : List Int) : Prop := FW (pGw C) noQ h h' ∧ Seg h' 121 C x ∧ mGi h' 107 24 = ((C + x.length : Nat) : Int)
theorem Gw.rf (e : mGi h 107 24 = (C : Int)) : Gw h h C [] := ⟨FW.rf, trivial, e⟩
theorem Gw.tr (a : Gw h h' C x) (b : Gw h' h'' (C + x.length) y) : Gw h h'' C (x ++ y) := by
  refine ⟨a.1.tr (b.1.sub (fun b i q => by unfold pGw at *; omega) (fun _ _ q => q)), Seg.app.mpr ⟨Seg.cg (fun j _ hj => b.1.2.2.1 121 j (by unfold pGw; omega)) a.2.1, b.2.1⟩, ?_⟩
  rw [b.2.2, List.length_append]
  omega
theorem m_add {c : Int} (h0 : 0 ≤ c) (h1 : c < 65536) (e : mGi h 107 24 = (C : Int)) (hC : C < 1302) : ∃ h', F_M_addSign c h = some (.inl (), h') ∧ Gw h h' C [c] := by
  unfold F_M_addSign
  rw [gd_b h0 h1, e, gd_b (by omega) (by omega)]
  simp only [sto_e, Int.toNat_natCast]
  rw [gi_pi, if_neg (by omega), e, gd_rg (by omega) (by omega)]
  refine ⟨_, rfl, FW.pi (FW.pi FW.rf (by unfold pGw; omega)) (by unfold pGw; omega), ⟨?_, trivial⟩, ?_⟩
  · rw [gi_pi, if_neg (by omega), gi_s]
  · rw [gi_s, List.length_singleton]; omega
noncomputable def cyL (f : Nat) (v1 : Int64) (v3 : Int) (h : MH) : RS Unit := itr (fun self (q : Int64 × Int × MH) => F_M_copyText_2_b (fun v1 v3 h => self (v1, v3, h)) q.1 q.2.1 q.2.2) f (v1, v3, h)
theorem cyL_s {f : Nat} {v1 : Int64} {v3 : Int} : cyL (f + 1) v1 v3 h = F_M_copyText_2_b (cyL f) v1 v3 h := rfl
theorem cy_l {n s g k mm : Nat} (z1 : isR v k s n g mm) (hs : s + n ≤ M) : ∀ (x : List Int) (f j C : Nat) (h : MH), x.length < f → j + x.length = n → M ≤ C → C + x.length ≤ 1302 → Seg h 121 (s + j) x → (∀ c ∈ x, lgl c) → mGi h 107 24 = (C : Int) → ∃ h', cyL f v (j : Int) h = some (.inl (), h') ∧ Gw h h' C x := by
  intro x
  have hsz : ∀ h : MH, F_M_sizeOf v h = some (.inl (n : Int), h) := fun h => by unfold F_M_sizeOf; rw [z1.len]
  induction x with
  | nil =>
    intro f j C h hf hj hM hC sx ok e
    obtain ⟨f, rfl⟩ : ∃ g, f = g + 1 := ⟨f - 1, by omega⟩
    rw [List.length_nil] at hj
    refine ⟨h, ?_, Gw.rf e⟩
    rw [cyL_s, F_M_copyText_2_b, hsz, bnd_l, if_pos (by omega)]
  | cons a x ih =>
    intro f j C h hf hj hM hC sx ok e
    obtain ⟨f, rfl⟩ : ∃ g, f = g + 1 := ⟨f - 1, by omega⟩
    rw [List.length_cons] at hj hf hC
    have la := ok a List.mem_cons_self
    unfold lgl at la
    obtain ⟨h1, a1, a2⟩ := m_add (c := a) (by omega) (by omega) e (by omega)
    obtain ⟨h2, b1, b2⟩ := ih f (j + 1) (C + 1) h1 (by omega) (by omega) (by omega) (by omega) (Seg.cg (h := h) (fun i _ hi => a2.1.2.2.1 121 i (by unfold pGw; omega)) (by rw [show s + (j + 1) = s + j + 1 by omega]; exact sx.2)) (fun c hc => ok c (List.mem_cons_of_mem _ hc)) a2.2.2
    refine ⟨h2, ?_, a2.tr b2⟩
    rw [cyL_s, F_M_copyText_2_b, hsz, bnd_l, if_neg (by omega)]
    unfold F_M_placeOf
    rw [z1.start, bnd_l, gd_rg (by omega) (by omega), gd_b (by omega) (by omega), show ((s : Int) + (j : Int)).toNat = s + j by omega, sx.1, a1, bnd_l, gd_rg (by omega) (by omega)]
    exact b1
theorem m_copy (y : TR h M v t m) (ok : ∀ c ∈ t.2.1, lgl c) (hM : M ≤ C) (hC : C + t.2.1.length ≤ 1302) (e : mGi h 107 24 = (C : Int)) : ∃ h', F_M_copyText v h = some (.inl (), h') ∧ Gw h h' C t.2.1 := by
  obtain ⟨s, g, z1, -, z3, z4, z5⟩ := y
  exact cy_l z1 z4 t.2.1 FU 0 C h (by unfold FU; omega) (by omega) hM hC z3 ok e
theorem m_makes {n : Nat} (e : mGi h 107 25 = (md : Int)) (hm : md ≤ 900) (hn : n ≤ 1000000) (er : mGi h 107 1 = 0) : (900 < md + n → F_M_makes (n : Int) h = some (.inl 0, mPi (mPi h 107 25 ((md + n : Nat) : Int)) 107 1 1)) ∧ (md + n ≤ 900 → F_M_makes (n : Int) h = some (.inl 1, mPi h 107 25 ((md + n : Nat) : Int))) := by
  have er1 : mGi (mPi h 107 25 ((md + n : Nat) : Int)) 107 1 = 0 := by rw [gi_pi, if_neg (by omega)]; exact er
  unfold F_M_makes F_M_makes_26
  rw [e, gd_rg (by omega) (by omega), show (md : Int) + (n : Int) = ((md + n : Nat) : Int) by omega]
  simp only [sto_e]
  rw [gi_s]
  refine ⟨fun c => ?_, fun c => ?_⟩
  · rw [if_pos (by omega), gd_01a, need_0 er1 (by decide), bnd_l]
  · rw [if_neg (by omega), gd_01b, need_1 er1, bnd_l]
theorem ap_r {n : Nat} (hd : d < 8) (e : mGi h 143 d = (n : Int)) (hn : n < 1300) : F_M_append (d : Int) v h = some (.inl (), mPi (mPl h 138 (1300 * d + n) v) 143 d ((n + 1 : Nat) : Int)) := by
  unfold F_M_append
  rw [gd_rg (by omega) (by omega), gd_b (by omega) (by omega), Int.toNat_natCast, e, gd_rg (by omega) (by omega), gd_b (by omega) (by omega), show ((1300 : Int) * (d : Int) + (n : Int)).toNat = 1300 * d + n by omega]
  simp only [sto_e]
  rw [gi_pl, e, gd_rg (by omega) (by omega)]
  rfl
/-- only the pool and the coming tokens change -/
theorem UR.fw {P Q : Nat → Nat → Prop} (z : UR nm T d h rp md k g pa R dn ar cm) (f : FW P Q h h') (hP : ∀ b i, P b i → (b = 107 ∧ (i = 24 ∨ i = 25 ∨ i = 30 ∨ i = 31)) ∨ (b = 121 ∧ T + 2 + md ≤ i) ∨ (b = 143 ∧ i = d)) (hQ : ∀ b i, Q b i → b = 138 ∧ 1300 * d ≤ i) (hm : md ≤ md') (p : PlR h' T md') (w : RwR h' (T + 2 + md') d cm') : RX2 d (T + 2 + md) h h' ∧ UR nm T d h' rp md' k g pa R dn ar cm' := by
  obtain ⟨z1, z2, z3, z4, z5, z6, z7, z8, z9⟩ := z
  have F : RX2 d (T + 2 + md) h h' := RX2.mk f (fun b i q => by have := hP b i q; unfold pX; omega) (fun b i q => by have := hQ b i q; unfold qX; omega)
  have hM : T + 2 + md' ≤ 1302 := by have := p.2.2; omega
  have gi : ∀ b i, b ≠ 121 → b ≠ 143 → ¬ (b = 107 ∧ (i = 24 ∨ i = 25 ∨ i = 30 ∨ i = 31)) → mGi h' b i = mGi h b i := fun b i h1 h2 h3 => f.2.2.1 b i (fun q => by have := hP b i q; omega)
  have gl : ∀ b i, b ≠ 138 → mGl h' b i = mGl h b i := fun b i h1 => f.2.2.2 b i (fun q => by have := hQ b i q; omega)
  have e121 : ∀ j, j < T + 2 + md → mGi h' 121 j = mGi h 121 j := fun j hj => F.c121 hj
  exact ⟨F, z1.fx F (Nat.le_refl _) hm p ((gi 107 28 (by omega) (by omega) (by omega)).trans z1.2.2.1) z1.2.2.2.1 ((gi 107 1 (by omega) (by omega) (by omega)).trans z1.2.2.2.2), (gi 107 48 (by omega) (by omega) (by omega)).trans z2, (gi 144 d (by omega) (by omega) (by omega)).trans z3, (gi 145 d (by omega) (by omega) (by omega)).trans z4, (gi 146 d (by omega) (by omega) (by omega)).trans z5, z6.cg2 e121 (by omega) hM (gi 140 d (by omega) (by omega) (by omega)) (fun j => gl 135 j (by omega)), z7.cg2 e121 (by omega) hM (gi 141 d (by omega) (by omega) (by omega)) (fun j => gl 136 j (by omega)), z8.cg2 e121 (by omega) hM (fun j => gi 142 j (by omega) (by omega) (by omega)) (fun j => gl 137 j (by omega)), w⟩
theorem m_app (hd : d < 8) (z : UR nm T d h rp md k g pa R dn ar cm) (y : TR h (T + 2 + md) v t m) (hc : cm.length < 1300) : ∃ h', F_M_append (d : Int) v h = some (.inl (), h') ∧ RX2 d (T + 2 + md) h h' ∧ UR nm T d h' rp md k g pa R dn ar (cm ++ [(t, m)]) ∧ (∀ b j, b ≠ 138 → mGl h' b j = mGl h b j) ∧ ∀ b j, b ≠ 143 → mGi h' b j = mGi h b j := by
  have z9 := z.2.2.2.2.2.2.2.2
  have zp := z.1.2.1
  have hM := z.1.mx
  have gi : ∀ b j, b ≠ 143 → mGi (mPi (mPl h 138 (1300 * d + cm.length) v) 143 d ((cm.length + 1 : Nat) : Int)) b j = mGi h b j := fun b j hb => by rw [gi_pi, if_neg (fun q => hb q.1), gi_pl]
  have q := z.fw (h' := mPi (mPl h 138 (1300 * d + cm.length) v) 143 d ((cm.length + 1 : Nat) : Int)) (cm' := cm ++ [(t, m)]) (md' := md) (P := fun b i => b = 143 ∧ i = d) (Q := fun b i => b = 138 ∧ 1300 * d ≤ i) (FW.pi (FW.pl FW.rf ⟨rfl, by omega⟩) ⟨rfl, rfl⟩) (fun b i q => .inr (.inr q)) (fun b i q => q) (Nat.le_refl _) ⟨(gi 107 24 (by decide)).trans zp.1, (gi 107 25 (by decide)).trans zp.2.1, zp.2.2⟩ ⟨by rw [gi_s, List.length_append, List.length_singleton], by rw [List.length_append, List.length_singleton]; omega, RSg.app.mpr ⟨RSg.cg (h := h) (fun j _ => gi 121 j (by decide)) (Nat.le_refl _) hM (fun j _ hj => by rw [gl_pi, gl_pl, if_neg (by omega)]) z9.2.2, by
      show TR _ _ (mGl _ 138 (1300 * d + cm.length)) t m
      rw [gl_pi, gl_pl, if_pos ⟨rfl, rfl⟩]
      exact y.cg (fun j _ => gi 121 j (by decide)) (Nat.le_refl _) hM, trivial⟩⟩
  exact ⟨_, ap_r hd z9.1 hc, q.1, q.2, fun b j hb => by rw [gl_pi, gl_pl, if_neg (fun q => hb q.1)], gi⟩
/-! a string -/
noncomputable def asL (f : Nat) (v2 v3 v5 : Int) (h : MH) : RS Unit := itr (fun self (q : Int × Int × Int × MH) => F_M_appendString_81_b (fun v2 v3 v5 h => self (v2, v3, v5, h)) q.1 q.2.1 q.2.2.1 q.2.2.2) f (v2, v3, v5, h)
theorem asL_s {f : Nat} {v2 v3 v5 : Int} : asL (f + 1) v2 v3 v5 h = F_M_appendString_81_b (asL f) v2 v3 v5 h := rfl
theorem as_l {fr e : Nat} (he : e ≤ 800) : ∀ (l : List Tk) (f p C : Nat) (h : MH), l.length < f → p + l.length = e → fr ≤ p → M ≤ C → C + (stR (decide (p = fr)) l).length ≤ 1302 → RSg h M 137 p (um l) → (∀ t ∈ l, okT t) → mGi h 107 24 = (C : Int) → ∃ h', asL f (fr : Int) (e : Int) (p : Int) h = some (.inl (), h') ∧ Gw h h' C (stR (decide (p = fr)) l) := by
  intro l
  induction l with
  | nil =>
    intro f p C h hf hp hfr hM hC s ok e
    obtain ⟨f, rfl⟩ : ∃ g, f = g + 1 := ⟨f - 1, by omega⟩
    rw [List.length_nil] at hp
    have e1 : stR (decide (p = fr)) [] = [34] := by cases decide (p = fr) <;> rfl
    rw [e1] at hC ⊢
    rw [List.length_singleton] at hC
    obtain ⟨h1, a1, a2⟩ := m_add (c := 34) (by decide) (by decide) e (by omega)
    refine ⟨h1, ?_, a2⟩
    rw [asL_s, F_M_appendString_81_b, if_pos (by omega), a1, bnd_l]
  | cons t l ih =>
    intro f p C h hf hp hfr hM hC s ok e
    obtain ⟨f, rfl⟩ : ∃ g, f = g + 1 := ⟨f - 1, by omega⟩
    rw [List.length_cons] at hp hf
    have okt := ok t List.mem_cons_self
    have en : stR (decide (p + 1 = fr)) l = stR false l := by rw [decide_eq_false (by omega)]
    have main : ∀ (h : MH) (C : Nat), M ≤ C → C + (t.2.1 ++ stR false l).length ≤ 1302 → RSg h M 137 p (um (t :: l)) → mGi h 107 24 = (C : Int) → ∃ h', F_M_appendString_99 (asL f) (fr : Int) ((p + (l.length + 1) : Nat) : Int) (p : Int) h = some (.inl (), h') ∧ Gw h h' C (t.2.1 ++ stR false l) := by
      intro h C hM hC s e
      rw [List.length_append] at hC
      have hM2 : M ≤ 1302 := by omega
      obtain ⟨h1, a1, a2⟩ := m_copy s.1 okt.1 hM (by omega) e
      obtain ⟨h2, b1, b2⟩ := ih f (p + 1) (C + t.2.1.length) h1 (by omega) (by omega) (by omega) (by omega) (by rw [en]; omega) (RSg.cg (h := h) (fun j hj => a2.1.2.2.1 121 j (by unfold pGw; omega)) (Nat.le_refl _) hM2 (fun j _ _ => a2.1.2.2.2 137 j id) s.2) (fun t ht => ok t (List.mem_cons_of_mem _ ht)) a2.2.2
      rw [en] at b2
      refine ⟨h2, ?_, a2.tr b2⟩
      unfold F_M_appendString_99
      rw [gd_b (by omega) (by omega), Int.toNat_natCast, a1, bnd_l, gd_rg (by omega) (by omega), show (p : Int) + 1 = ((p + 1 : Nat) : Int) by omega, hp]
      exact b1
    rw [← hp, asL_s, F_M_appendString_81_b, if_neg (by omega), stR]
    rw [stR] at hC
    by_cases c : p = fr
    · rw [decide_eq_true c] at hC ⊢
      rw [if_pos rfl, List.nil_append] at hC ⊢
      rw [if_pos (by omega)]
      exact main h C hM hC s e
    · rw [decide_eq_false c] at hC ⊢
      rw [if_neg (show ¬ false = true by decide)] at hC ⊢
      rw [List.length_append, List.length_singleton] at hC
      have hM2 : M ≤ 1302 := by omega
      obtain ⟨h1, a1, a2⟩ := m_add (c := 32) (by decide) (by decide) e (by omega)
      obtain ⟨h2, b1, b2⟩ := main h1 (C + 1) (by omega) (by omega) (RSg.cg (h := h) (fun j hj => a2.1.2.2.1 121 j (by unfold pGw; omega)) (Nat.le_refl _) hM2 (fun j _ _ => a2.1.2.2.2 137 j id) s) a2.2.2
      rw [if_neg (by omega), a1, bnd_l]
      exact ⟨h2, b1, a2.tr b2⟩
noncomputable def cnL (f : Nat) (v1 v2 v3 v4 v5 : Int) (h : MH) : RS Unit := itr (fun self (q : Int × Int × Int × Int × Int × MH) => F_M_appendString_19_b (fun v1 v2 v3 v4 v5 h => self (v1, v2, v3, v4, v5, h)) q.1 q.2.1 q.2.2.1 q.2.2.2.1 q.2.2.2.2.1 q.2.2.2.2.2) f (v1, v2, v3, v4, v5, h)
theorem cnL_s {f : Nat} {v1 v2 v3 v4 v5 : Int} : cnL (f + 1) v1 v2 v3 v4 v5 h = F_M_appendString_19_b (cnL f) v1 v2 v3 v4 v5 h := rfl
theorem cnS_l {fr e : Nat} (he : e ≤ 800) : ∀ (l : List Tk) (f p n : Nat), l.length < f → p + l.length = e → n + 1303 * l.length ≤ 1000000 → RSg h M 137 p (um l) → cnL f (d : Int) (fr : Int) (e : Int) (n : Int) (p : Int) h = cnL 1 (d : Int) (fr : Int) (e : Int) ((n + sumT l : Nat) : Int) (e : Int) h ∧ n + sumT l ≤ 1000000 := by
  intro l
  induction l with
  | nil =>
    intro f p n hf hp hn s
    obtain ⟨f, rfl⟩ : ∃ g, f = g + 1 := ⟨f - 1, by omega⟩
    rw [List.length_nil] at hp hn
    have : p = e := by omega
    subst this
    rw [cnL_s, cnL_s, F_M_appendString_19_b, F_M_appendString_19_b, if_pos (by omega), if_pos (by omega)]
    exact ⟨rfl, by show n + 0 ≤ _; omega⟩
  | cons t l ih =>
    intro f p n hf hp hn s
    obtain ⟨f, rfl⟩ : ∃ g, f = g + 1 := ⟨f - 1, by omega⟩
    rw [List.length_cons] at hp hf hn
    have s1 := s.1
    have hlen : t.2.1.length < 1303 := by obtain ⟨_, _, q, -⟩ := s1; exact q.2.2.2.1
    obtain ⟨i1, i2⟩ := ih f (p + 1) (n + t.2.1.length) (by omega) (by omega) (by omega) s.2
    rw [sumT, ← Nat.add_assoc]
    refine ⟨?_, i2⟩
    rw [← i1, cnL_s, F_M_appendString_19_b, if_neg (by omega), gd_b (by omega) (by omega), Int.toNat_natCast, ms_e s1, bnd_l, gd_rg (by omega) (by omega), gd_rg (by omega) (by omega)]
    rfl
theorem m_apS {p : Nat} {l : List Tk} (hd : d < 8) (z : UR nm T d h rp md k g pa R dn ar cm) (hp : p + l.length ≤ 800) (hl : l.length ≤ 100) (s : RSg h (T + 2 + md) 137 p (um l)) (ok : ∀ t ∈ l, okT t) (hc : cm.length < 1300) :
    (900 < md + (strK l).length → ∃ h', F_M_appendString (d : Int) (p : Int) ((p + l.length : Nat) : Int) h = some (.inl (), h') ∧ XB d (T + 2 + md) h h' 1 rp) ∧
    (md + (strK l).length ≤ 900 → ∃ h', F_M_appendString (d : Int) (p : Int) ((p + l.length : Nat) : Int) h = some (.inl (), h') ∧ RX2 d (T + 2 + md) h h' ∧ UR nm T d h' rp (md + (strK l).length) k g pa R dn ar (cm ++ [((3, strK l, noH), false)])) := by
  have z9 := z.2.2.2.2.2.2.2.2
  have zp := z.1.2.1
  have hM := z.1.mx
  have er := z.1.2.2.2.2
  have e28 := z.1.2.2.1
  have hlen : (strK l).length = (if l.length = 0 then 2 else l.length + 1) + sumT l := by
    rw [strK_e, List.length_cons, stR_len, if_pos rfl]
    by_cases c : l.length = 0
    · rw [if_pos c]; omega
    · rw [if_neg c]; omega
  obtain ⟨n1, n2⟩ := cnS_l (h := h) (d := d) (fr := p) hp l FU p (if l.length = 0 then 2 else l.length + 1) (by unfold FU; omega) rfl (by split <;> omega) s
  rw [← hlen] at n1 n2
  have e0 : F_M_appendString (d : Int) (p : Int) ((p + l.length : Nat) : Int) h = cnL FU (d : Int) (p : Int) ((p + l.length : Nat) : Int) (((if l.length = 0 then 2 else l.length + 1 : Nat)) : Int) (p : Int) h := by
    unfold F_M_appendString F_M_appendString_14
    by_cases c : l.length = 0
    · rw [if_pos (by omega), if_pos c]; rfl
    · rw [if_neg (by omega), if_neg c, gd_rg (by omega) (by omega), gd_rg (by omega) (by omega), show (1 : Int) + ((p + l.length : Nat) : Int) - (p : Int) = ((l.length + 1 : Nat) : Int) by omega]; rfl
  rw [e0, n1, cnL_s, F_M_appendString_19_b, if_pos (by omega)]
  obtain ⟨m1, m2⟩ := m_makes (n := (strK l).length) zp.2.1 zp.2.2.1 n2 er
  refine ⟨fun c => ?_, fun c => ?_⟩
  · rw [m1 c, bnd_l, if_pos rfl]
    exact ⟨_, rfl, FW.pi (FW.pi FW.rf (by unfold pX; omega)) (by unfold pX; omega), gi_s, by rw [gi_pi, if_neg (by omega), gi_pi, if_neg (by omega)]; exact e28, z.1.2.2.2.1⟩
  · rw [m2 c, bnd_l, if_neg (by decide)]
    have g24 : mGi (mPi h 107 25 ((md + (strK l).length : Nat) : Int)) 107 24 = ((T + 2 + md : Nat) : Int) := by rw [gi_pi, if_neg (by omega)]; exact zp.1
    unfold F_M_token
    rw [g24, bnd_l]
    have hT := zp.2.2.2
    have hv := isR.mk (k := 3) (s := T + 2 + md) (n := (strK l).length) (g := 0) (by omega) (by omega) (by omega) (by decide)
    generalize hvv : (((((Int32.ofInt ((T + 2 + md : Nat) : Int)).toInt64) ||| (((Int32.ofInt ((strK l).length : Int)).toInt64) <<< ((Int32.ofInt (12 : Int)).toInt64 &&& 63))) ||| (((Int32.ofInt (3 : Int)).toInt64) <<< ((Int32.ofInt (24 : Int)).toInt64 &&& 63))) ||| (((Int32.ofInt (0 : Int)).toInt64) <<< ((Int32.ofInt (28 : Int)).toInt64 &&& 63))) = w
    have hw : isR w 3 (T + 2 + md) (strK l).length 0 0 := by rw [← hvv]; exact hv
    have hd1 : mGi (mPi h 107 25 ((md + (strK l).length : Nat) : Int)) 143 d = (cm.length : Int) := by rw [gi_pi, if_neg (by omega)]; exact z9.1
    rw [ap_r hd hd1 hc, bnd_l]
    have hh2 : ∃ h2, h2 = mPi (mPl (mPi h 107 25 ((md + (strK l).length : Nat) : Int)) 138 (1300 * d + cm.length) w) 143 d ((cm.length + 1 : Nat) : Int) := ⟨_, rfl⟩
    obtain ⟨h2, hh2⟩ := hh2
    rw [← hh2]
    have F2 : FW (fun b i => (b = 107 ∧ i = 25) ∨ (b = 143 ∧ i = d)) (fun b i => b = 138 ∧ i = 1300 * d + cm.length) h h2 := by
      rw [hh2]
      exact FW.pi (FW.pl (FW.pi FW.rf (.inl ⟨rfl, rfl⟩)) ⟨rfl, rfl⟩) (.inr ⟨rfl, rfl⟩)
    have e24 : mGi h2 107 24 = ((T + 2 + md : Nat) : Int) := (F2.2.2.1 107 24 (by omega)).trans zp.1
    have hsl : (strK l).length = (stR true l).length + 1 := by rw [strK_e, List.length_cons]
    obtain ⟨h3, a1, a2⟩ := m_add (c := 34) (by decide) (by decide) e24 (by omega)
    obtain ⟨h4, b1, b2⟩ := as_l (fr := p) hp l FU p (T + 2 + md + 1) h3 (by unfold FU; omega) rfl (Nat.le_refl _) (M := T + 2 + md) (by omega) (by rw [decide_eq_true rfl]; omega) (RSg.cg (h := h) (fun j hj => (a2.1.2.2.1 121 j (by unfold pGw; omega)).trans (F2.2.2.1 121 j (by omega))) (Nat.le_refl _) hM (fun j _ _ => (a2.1.2.2.2 137 j id).trans (F2.2.2.2 137 j (by omega))) s) ok a2.2.2
    rw [decide_eq_true rfl] at b2
    have G := a2.tr b2
    have eS : [34] ++ stR true l = strK l := by rw [strK_e]; rfl
    rw [eS] at G
    have FF : FW (fun b i => (b = 107 ∧ (i = 24 ∨ i = 25 ∨ i = 30 ∨ i = 31)) ∨ (b = 121 ∧ T + 2 + md ≤ i) ∨ (b = 143 ∧ i = d)) (fun b i => b = 138 ∧ 1300 * d ≤ i) h h4 := (F2.sub (fun b i q => by omega) (fun b i q => by omega)).tr (G.1.sub (fun b i q => by unfold pGw at q; omega) (fun b i q => q.elim))
    have q := z.fw (md' := md + (strK l).length) (cm' := cm ++ [((3, strK l, noH), false)]) FF (fun b i q => q) (fun b i q => q) (by omega) ⟨by rw [G.2.2, show T + 2 + md + (strK l).length = T + 2 + (md + (strK l).length) by omega], by rw [G.1.2.2.1 107 25 (by unfold pGw; omega), hh2, gi_pi, if_neg (by omega), gi_pl, gi_s], c, hT⟩ ⟨by rw [G.1.2.2.1 143 d (by unfold pGw; omega), hh2, gi_s, List.length_append, List.length_singleton], by rw [List.length_append, List.length_singleton]; omega, RSg.app.mpr ⟨RSg.cg (h := h) (fun j hj => FF.2.2.1 121 j (by omega)) (by omega) (by omega) (fun j _ hj => (G.1.2.2.2 138 j id).trans (F2.2.2.2 138 j (by omega))) z9.2.2, by
        show TR _ _ (mGl _ 138 (1300 * d + cm.length)) _ _
        rw [G.1.2.2.2 138 _ id, hh2, gl_pi, gl_pl, if_pos ⟨rfl, rfl⟩]
        exact ⟨T + 2 + md, 0, hw, hR_0, G.2.1, by show T + 2 + md + (strK l).length ≤ _; omega, by omega⟩, trivial⟩⟩
    refine ⟨h4, ?_, q.1, q.2⟩
    rw [a1, bnd_l]
    exact b1
end Rp
