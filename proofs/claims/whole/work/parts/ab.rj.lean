/-! the reference joins -/
section Rj
variable {h h' h'' : MH} {M T d D C c p : Nat} {v v1 v3 : Int64} {t a b : Tk} {m ma mb : Bool} {nm : Nm} {rp md rp' md' : Nat} {k g : Nat} {R dn l : List Tk}
theorem isR.un {k s n g m : Nat} (z : isR v k s n g m) : isR (v &&& -68719476737) k s n g 0 := by
  obtain ⟨z1, h1, h2, h3, h4, h5⟩ := z
  refine ⟨?_, h1, h2, h3, h4, by decide⟩
  have e : (-68719476737 : Int64).toBitVec.toNat = 2 ^ 64 - (2 ^ 36 + 1) := by decide
  rw [Int64.toBitVec_and, BitVec.toNat_and, z1, e]
  have hA : rN k s n g 0 < 2 ^ 36 := by unfold rN; omega
  have hN : rN k s n g m = 2 ^ 36 * m + rN k s n g 0 := by unfold rN; omega
  rw [hN]
  refine Nat.eq_of_testBit_eq fun j => ?_
  rw [Nat.testBit_and, Nat.testBit_two_pow_sub_succ (by decide), Nat.testBit_two_pow_mul_add _ hA, Nat.testBit_two_pow]
  by_cases c : j < 36
  · rw [if_pos c, decide_eq_true (show j < 64 by omega), decide_eq_false (show ¬ 36 = j by omega)]
    simp
  · rw [if_neg c, Nat.testBit_lt_two_pow (Nat.lt_of_lt_of_le hA (Nat.pow_le_pow_right (by decide) (by omega)))]
    by_cases c6 : j = 36
    · rw [decide_eq_true (show 36 = j by omega)]
      simp
    · have : m.testBit (j - 36) = false := Nat.testBit_lt_two_pow (Nat.lt_of_lt_of_le h5 (by
        have : 2 ^ 1 ≤ 2 ^ (j - 36) := Nat.pow_le_pow_right (by decide) (by omega)
        exact this))
      rw [this]
      rfl
theorem TR.un (y : TR h M v t m) : TR h M (v &&& -68719476737) t false := by
  obtain ⟨s, g, z1, z2⟩ := y
  exact ⟨s, g, z1.un, z2⟩
def pJ (C b i : Nat) : Prop := (b = 107 ∧ (i = 1 ∨ i = 24 ∨ i = 25 ∨ i = 30 ∨ i = 31)) ∨ (b = 121 ∧ C ≤ i)
theorem scn_k {x : List Int} (hx : x ≠ []) (ok : ∀ c ∈ x, lgl c) : (scn x).1 < 5 ∧ rk (scn x).1 = (scn x).1 := by
  have w := scn_W (g := noH) hx ok
  refine ⟨w.k, ?_⟩
  unfold rk
  split
  · rename_i e
    exfalso
    rcases w with q | ⟨-, -, q⟩
    · have := congrArg (fun t : Tk => t.2.1) q
      have e2 : x.take (scn x).2 = [] := this
      have l1 := (scn_len hx).1
      have l2 : (x.take (scn x).2).length = 0 := by rw [e2]; rfl
      rw [List.length_take] at l2
      have := List.length_pos_iff.mpr hx
      omega
    · have q' : ((scn x).1 = 1 ∧ _) ∨ ((scn x).1 = 2 ∧ _) ∨ ((scn x).1 = 3 ∧ _) ∨ ((scn x).1 = 4 ∧ _) := q
      rcases q' with q | q | q | q <;> omega
  · rfl
theorem m_joined (z : PlR h T md) (er : mGi h 107 1 = 0) (ya : TR h (T + 2 + md) v1 a ma) (yb : TR h (T + 2 + md) v3 b mb) (wa : tkW a) (wb : tkW b) :
    ∃ h' w, F_M_joined v1 v3 h = some (.inl w, h') ∧ FW (pJ (T + 2 + md)) noQ h h' ∧
      (900 < md + (a.2.1 ++ b.2.1).length → mGi h' 107 1 = 1) ∧
      (md + (a.2.1 ++ b.2.1).length ≤ 900 → a.2.1 ++ b.2.1 = [] → mGi h' 107 1 = 0 ∧ PlR h' T md ∧ TR h' (T + 2 + md) w nTk false) ∧
      (md + (a.2.1 ++ b.2.1).length ≤ 900 → a.2.1 ++ b.2.1 ≠ [] → ((scn (a.2.1 ++ b.2.1)).2 ≠ (a.2.1 ++ b.2.1).length ∨ (scn (a.2.1 ++ b.2.1)).1 = 3) → mGi h' 107 1 = 7) ∧
      (md + (a.2.1 ++ b.2.1).length ≤ 900 → a.2.1 ++ b.2.1 ≠ [] → ¬ ((scn (a.2.1 ++ b.2.1)).2 ≠ (a.2.1 ++ b.2.1).length ∨ (scn (a.2.1 ++ b.2.1)).1 = 3) → mGi h' 107 1 = 0 ∧ PlR h' T (md + (a.2.1 ++ b.2.1).length) ∧ TR h' (T + 2 + (md + (a.2.1 ++ b.2.1).length)) w ((scn (a.2.1 ++ b.2.1)).1, a.2.1 ++ b.2.1, anH a.2.2 b.2.2) false ∧ tkW ((scn (a.2.1 ++ b.2.1)).1, a.2.1 ++ b.2.1, anH a.2.2 b.2.2)) := by
  have hT := z.2.2
  have hx : ∃ x, x = a.2.1 ++ b.2.1 := ⟨_, rfl⟩
  obtain ⟨x, hx⟩ := hx
  have hxl : x.length = a.2.1.length + b.2.1.length := by rw [hx, List.length_append]
  have la : a.2.1.length < 1303 := by obtain ⟨_, _, q, -⟩ := ya; exact q.2.2.2.1
  have lb : b.2.1.length < 1303 := by obtain ⟨_, _, q, -⟩ := yb; exact q.2.2.2.1
  have okx : ∀ c ∈ x, lgl c := fun c hc => by
    rw [hx] at hc
    rcases List.mem_append.mp hc with q | q
    · exact wa.ok.1 c q
    · exact wb.ok.1 c q
  obtain ⟨m1, m2⟩ := m_makes (h := h) (n := x.length) z.2.1 z.2.2.1 (by omega) er
  have e0 : ∀ {ρ : Type}, True := fun {_} => trivial
  rw [← hx]
  unfold F_M_joined
  rw [ms_e ya, bnd_l, ms_e yb, bnd_l, gd_rg (by omega) (by omega), show (a.2.1.length : Int) + (b.2.1.length : Int) = (x.length : Int) by omega]
  by_cases c9 : 900 < md + x.length
  · rw [m1 c9, bnd_l, if_pos rfl]
    unfold F_M_joined_25 F_M_token
    rw [bnd_l]
    exact ⟨_, _, rfl, FW.pi (FW.pi FW.rf (by unfold pJ; omega)) (by unfold pJ; omega), fun _ => gi_s, fun q => by omega, fun q => by omega, fun q => by omega⟩
  rw [m2 (by omega), bnd_l, if_neg (by decide)]
  have F1 : FW (pJ (T + 2 + md)) noQ h (mPi h 107 25 ((md + x.length : Nat) : Int)) := FW.pi FW.rf (by unfold pJ; omega)
  have gi1 : ∀ c i, ¬ (c = 107 ∧ i = 25) → mGi (mPi h 107 25 ((md + x.length : Nat) : Int)) c i = mGi h c i := fun c i hc => by rw [gi_pi, if_neg hc]
  by_cases c0 : x = []
  · have l0 : x.length = 0 := by rw [c0]; rfl
    rw [if_pos (by omega)]
    unfold F_M_joined_25
    obtain ⟨w, e1, e2⟩ := TR.no (h := mPi h 107 25 ((md + x.length : Nat) : Int)) (h' := mPi h 107 25 ((md + x.length : Nat) : Int)) (M := T + 2 + md) (by omega)
    rw [e1, bnd_l]
    refine ⟨_, w, rfl, F1, fun q => absurd q c9, fun _ _ => ⟨(gi1 107 1 (by omega)).trans er, ⟨(gi1 107 24 (by omega)).trans z.1, by rw [gi_s, l0]; rfl, z.2.2⟩, e2⟩, fun _ q => absurd c0 q, fun _ q => absurd c0 q⟩
  have l1 := List.length_pos_iff.mpr c0
  rw [if_neg (by omega)]
  have hh1 : ∃ h1, h1 = mPi h 107 25 ((md + x.length : Nat) : Int) := ⟨_, rfl⟩
  obtain ⟨h1, hh1⟩ := hh1
  rw [← hh1] at F1 gi1 ⊢
  have g24 : mGi h1 107 24 = ((T + 2 + md : Nat) : Int) := (gi1 107 24 (by omega)).trans z.1
  obtain ⟨h2, a1, a2⟩ := m_copy (ya.cg (h' := h1) (fun j _ => gi1 121 j (by omega)) (Nat.le_refl _) (by omega)) wa.ok.1 (Nat.le_refl _) (by omega) g24
  obtain ⟨h3, b1, b2⟩ := m_copy (C := T + 2 + md + a.2.1.length) (yb.cg (h' := h2) (fun j hj => (a2.1.2.2.1 121 j (by unfold pGw; omega)).trans (gi1 121 j (by omega))) (Nat.le_refl _) (by omega)) wb.ok.1 (by omega) (by omega) a2.2.2
  have G := a2.tr b2
  rw [← hx] at G
  obtain ⟨h4, k1, k2, k3, k4⟩ := m_look c0 (by omega) G.2.1
  rw [a1, bnd_l, b1, bnd_l, g24, G.2.2, k1, bnd_l, k4, k3]
  have F4 : FW (pJ (T + 2 + md)) noQ h h4 := (F1.tr (G.1.sub (fun b i q => by unfold pGw at q; unfold pJ; omega) (fun _ _ q => q))).tr (k2.sub (fun b i q => by unfold pLk at q; unfold pJ; omega) (fun _ _ q => q))
  have er4 : mGi h4 107 1 = 0 := (k2.2.2.1 107 1 (by unfold pLk; omega)).trans ((G.1.2.2.1 107 1 (by unfold pGw; omega)).trans ((gi1 107 1 (by omega)).trans er))
  obtain ⟨g1, hg1, eg1⟩ := mh_e ya
  obtain ⟨g2, hg2, eg2⟩ := mh_e yb
  obtain ⟨sk1, sk2⟩ := scn_k c0 okx
  have e82 : ∀ h5 : MH, mGi h5 107 30 = ((scn x).1 : Int) → ∃ w, F_M_joined_82 v1 v3 (x.length : Int) ((T + 2 + md : Nat) : Int) h5 = some (.inl w, h5) ∧ isR w (scn x).1 (T + 2 + md) x.length (g1 &&& g2) 0 := fun h5 e5 => by
    unfold F_M_joined_82 F_M_token
    rw [eg1, bnd_l, eg2, bnd_l, bnd_l, iAnd_n hg1.1 hg2.1, e5]
    exact ⟨_, rfl, isR.mk (by omega) (by omega) (by omega) (and_lt8 hg1.1)⟩
  have bad : ∃ w, F_M_joined_76 v1 v3 (x.length : Int) ((T + 2 + md : Nat) : Int) h4 = some (.inl w, mPi h4 107 1 7) := by
    unfold F_M_joined_76 F_M_fail F_M_fail_16
    rw [er4, if_pos rfl, sto_e, bnd_l]
    obtain ⟨w, e, -⟩ := e82 (mPi h4 107 1 7) (by rw [gi_pi, if_neg (by omega)]; exact k3)
    exact ⟨w, e⟩
  have F5 : FW (pJ (T + 2 + md)) noQ h (mPi h4 107 1 7) := FW.pi F4 (by unfold pJ; omega)
  obtain ⟨wb, ebad⟩ := bad
  by_cases c2 : (scn x).2 = x.length
  · rw [if_pos (show ((scn x).2 : Int) = (x.length : Int) by omega)]
    by_cases c3 : (scn x).1 = 3
    · rw [if_pos (show ((scn x).1 : Int) = 3 by omega), ebad]
      exact ⟨_, wb, rfl, F5, fun q => absurd q c9, fun _ q => absurd q c0, fun _ _ _ => gi_s, fun _ _ q => absurd (.inr c3) q⟩
    · rw [if_neg (show ¬ ((scn x).1 : Int) = 3 by omega)]
      obtain ⟨w, e, ew⟩ := e82 h4 k3
      rw [e]
      have gj : ∀ j, mGi h4 121 j = mGi h3 121 j := fun j => k2.2.2.1 121 j (by unfold pLk; omega)
      refine ⟨_, w, rfl, F4, fun q => absurd q c9, fun _ q => absurd q c0, fun _ _ q => absurd q (fun y => y.elim (fun y => y c2) c3), fun _ _ _ => ⟨er4, ⟨?_, ?_, by omega, hT.2⟩, ⟨T + 2 + md, g1 &&& g2, ?_, hg1.and hg2, Seg.cg (fun j _ _ => gj j) G.2.1, by show T + 2 + md + x.length ≤ _; omega, by omega⟩, ?_⟩⟩
      · rw [k2.2.2.1 107 24 (by unfold pLk; omega), G.2.2]; omega
      · rw [k2.2.2.1 107 25 (by unfold pLk; omega), G.1.2.2.1 107 25 (by unfold pGw; omega), hh1, gi_s]
      · show isR w (rk (scn x).1) _ _ _ _
        rw [sk2]; exact ew
      · have := scn_W (g := anH a.2.2 b.2.2) c0 okx
        rw [c2, List.take_of_length_le (Nat.le_refl _)] at this
        exact this
  · rw [if_neg (show ¬ ((scn x).2 : Int) = (x.length : Int) by omega), ebad]
    exact ⟨_, wb, rfl, F5, fun q => absurd q c9, fun _ q => absurd q c0, fun _ _ _ => gi_s, fun _ _ q => absurd (.inl c2) q⟩
/-! what came in is hidden, and the empty ones go -/
noncomputable def mlL (f : Nat) (v1 v2 v5 v6 v7 : Int) (h : MH) : RS Unit := itr (fun self (q : Int × Int × Int × Int × Int × MH) => F_M_comeIn_186_b (fun v1 v2 v5 v6 v7 h => self (v1, v2, v5, v6, v7, h)) q.1 q.2.1 q.2.2.1 q.2.2.2.1 q.2.2.2.2.1 q.2.2.2.2.2) f (v1, v2, v5, v6, v7, h)
theorem mlL_s {f : Nat} {v1 v2 v5 v6 v7 : Int} : mlL (f + 1) v1 v2 v5 v6 v7 h = F_M_comeIn_186_b (mlL f) v1 v2 v5 v6 v7 h := rfl
theorem ml_bad {y : Int} {n : Nat} (hd : d < 8) (hn : n ≤ 1300) (hy : y ≠ 0) : ∀ (q f w r : Nat) (h : MH), q < f → r + q = n → w ≤ r → mGi h 107 1 = y → 0 ≤ mGi h 140 d → mGi h 140 d ≤ 100 → ∃ h', mlL f (d : Int) ((1300 * d : Nat) : Int) (n : Int) (w : Int) (r : Int) h = some (.inl (), h') ∧ RX2 d C h h' ∧ mGi h' 107 1 = y ∧ mGi h' 107 28 = mGi h 107 28 := by
  intro q
  induction q with
  | zero =>
    intro f w r h hf hr hw e e1 e2
    obtain ⟨f, rfl⟩ : ∃ g, f = g + 1 := ⟨f - 1, by omega⟩
    rw [mlL_s, F_M_comeIn_186_b, if_pos (by omega), gd_b (by omega) (by omega), Int.toNat_natCast, gd_rg (by omega) (by omega)]
    have key : ∀ x : Int, p01 x → ∃ h', F_M_comeIn_274 (d : Int) ((1300 * d : Nat) : Int) (w : Int) x h = some (.inl (), h') ∧ RX2 d C h h' ∧ mGi h' 107 1 = y ∧ mGi h' 107 28 = mGi h 107 28 := fun x hx => by
      obtain ⟨h1, a1, a2⟩ := need_x (v := 1) (x := x) e hy
      unfold F_M_comeIn_274
      rw [gd_t hx, a1, bnd_l, if_pos rfl]
      refine ⟨h1, rfl, ⟨a2.1, by rw [a2.2.1], fun b i _ => a2.2.2 b i id, fun b i _ => a2.gl b i⟩, (a2.2.2 107 1 id).trans e, a2.2.2 107 28 id⟩
    split
    · exact key 0 (by unfold p01; omega)
    · exact key 1 (by unfold p01; omega)
  | succ q ih =>
    intro f w r h hf hr hw e e1 e2
    obtain ⟨f, rfl⟩ : ∃ g, f = g + 1 := ⟨f - 1, by omega⟩
    rw [mlL_s, F_M_comeIn_186_b, if_neg (by omega), gd_rg (by omega) (by omega), gd_rg (by omega) (by omega), gd_b (by omega) (by omega), gd_b (by omega) (by omega), gd_b (by omega) (by omega)]
    simp only [sto_e]
    unfold F_M_kindOf F_M_comeIn_245
    rw [bnd_l]
    have key : ∀ (x : Int64) (i : Nat), 1300 * d ≤ i → ∀ w', w' ≤ r + 1 → ∃ h', mlL f (d : Int) ((1300 * d : Nat) : Int) (n : Int) (w' : Int) ((r + 1 : Nat) : Int) (mPl h 138 i x) = some (.inl (), h') ∧ RX2 d C h h' ∧ mGi h' 107 1 = y ∧ mGi h' 107 28 = mGi h 107 28 := fun x i hi w' hw' => by
      obtain ⟨h1, a1, a2, a3, a4⟩ := ih f w' (r + 1) (mPl h 138 i x) (by omega) (by omega) hw' e e1 e2
      exact ⟨h1, a1, FW.tr (FW.pl FW.rf (by unfold qX; omega)) a2, a3, a4⟩
    split
    · rw [gd_rg (by omega) (by omega), gd_rg (by omega) (by omega), Int.add_zero, show (r : Int) + 1 = ((r + 1 : Nat) : Int) by omega]
      exact key _ _ (by omega) w (by omega)
    · rw [gd_rg (by omega) (by omega), gd_rg (by omega) (by omega), show (w : Int) + 1 = ((w + 1 : Nat) : Int) by omega, show (r : Int) + 1 = ((r + 1 : Nat) : Int) by omega]
      exact key _ _ (by omega) (w + 1) (by omega)
theorem TR.hide {g : Nat} {H : Hd} (y : TR h M v t m) (hg : hR g H) : TR h M (v ||| (((Int32.ofInt (g : Int)).toInt64) <<< ((Int32.ofInt (28 : Int)).toInt64 &&& 63))) (t.1, t.2.1, orH t.2.2 H) m := by
  obtain ⟨s, g', z1, z2, z3⟩ := y
  exact ⟨s, g' ||| g, z1.hide hg.1, z2.or hg, z3⟩
theorem hideT_len {H : Hd} : ∀ (l : List Tk), (hideT H l).length ≤ l.length
  | [] => Nat.le_refl _
  | (k, x, g) :: l => by
    rw [hideT]
    have := hideT_len (H := H) l
    split
    · rw [List.length_cons]; omega
    · rw [List.length_cons, List.length_cons]; omega
theorem ml_l {n : Nat} {H : Hd} (hd : d < 8) (hn : n ≤ 1300) (hM : M ≤ 1302) (hg : hR g H) : ∀ (rest : List Tk) (f r : Nat) (h : MH) (kept : List Tk), rest.length < f → r + rest.length = n → kept.length ≤ r → mGi h 146 d = (g : Int) → RSg h M 138 (1300 * d) (um kept) → RSg h M 138 (1300 * d + r) (um rest) → (∀ t ∈ rest, tkW t) →
    ∃ h', FW (fun _ _ => False) (fun b i => b = 138 ∧ 1300 * d ≤ i) h h' ∧ mlL f (d : Int) ((1300 * d : Nat) : Int) (n : Int) (kept.length : Int) (r : Int) h = mlL 1 (d : Int) ((1300 * d : Nat) : Int) (n : Int) ((kept ++ hideT H rest).length : Int) (n : Int) h' ∧ RSg h' M 138 (1300 * d) (um (kept ++ hideT H rest)) := by
  intro rest
  induction rest with
  | nil =>
    intro f r h kept hf hr hk eg s1 s2 ok
    obtain ⟨f, rfl⟩ : ∃ g, f = g + 1 := ⟨f - 1, by omega⟩
    rw [List.length_nil, Nat.add_zero] at hr
    subst hr
    refine ⟨h, FW.rf, ?_, ?_⟩
    · rw [hideT, List.append_nil, mlL_s, mlL_s, F_M_comeIn_186_b, F_M_comeIn_186_b, if_pos (Int.le_refl _), if_pos (Int.le_refl _)]
    · rw [hideT, List.append_nil]; exact s1
  | cons t rest ih =>
    intro f r h kept hf hr hk eg s1 s2 ok
    obtain ⟨f, rfl⟩ : ∃ g, f = g + 1 := ⟨f - 1, by omega⟩
    rw [List.length_cons] at hf hr
    have wt := ok t List.mem_cons_self
    have yt := s2.1
    have yh := yt.hide hg
    have hh1 : ∃ h1, h1 = mPl h 138 (1300 * d + kept.length) ((mGl h 138 (1300 * d + r)) ||| (((Int32.ofInt (g : Int)).toInt64) <<< ((Int32.ofInt (28 : Int)).toInt64 &&& 63))) := ⟨_, rfl⟩
    obtain ⟨h1, hh1⟩ := hh1
    have gi1 : ∀ b i, mGi h1 b i = mGi h b i := fun b i => by rw [hh1]; rfl
    have F1 : FW (fun _ _ => False) (fun b i => b = 138 ∧ 1300 * d ≤ i) h h1 := by rw [hh1]; exact FW.pl FW.rf ⟨rfl, by omega⟩
    have gl1 : ∀ i, i ≠ 1300 * d + kept.length → mGl h1 138 i = mGl h 138 i := fun i hi => by rw [hh1, gl_pl, if_neg (fun q => hi q.2)]
    have ekd : F_M_kindOf (mGl h1 138 (1300 * d + r)) h1 = some (.inl (rk t.1 : Int), h1) := by
      by_cases c : r = kept.length
      · have : mGl h1 138 (1300 * d + r) = ((mGl h 138 (1300 * d + r)) ||| (((Int32.ofInt (g : Int)).toInt64) <<< ((Int32.ofInt (28 : Int)).toInt64 &&& 63))) := by rw [hh1, gl_pl, if_pos ⟨rfl, by omega⟩]
        rw [this]
        have e2 := mk_e (h' := h1) yh
        exact e2
      · rw [gl1 _ (by omega)]
        exact mk_e yt
    have step : mlL (f + 1) (d : Int) ((1300 * d : Nat) : Int) (n : Int) (kept.length : Int) (r : Int) h = mlL f (d : Int) ((1300 * d : Nat) : Int) (n : Int) ((kept.length + (if t.2.1 = [] then 0 else 1) : Nat) : Int) ((r + 1 : Nat) : Int) h1 := by
      rw [mlL_s, F_M_comeIn_186_b, if_neg (by omega), gd_rg (by omega) (by omega), gd_rg (by omega) (by omega), gd_b (by omega) (by omega), gd_b (by omega) (by omega), gd_b (by omega) (by omega), Int.toNat_natCast, eg, show (((1300 * d : Nat) : Int) + (kept.length : Int)).toNat = 1300 * d + kept.length by omega, show (((1300 * d : Nat) : Int) + (r : Int)).toNat = 1300 * d + r by omega]
      simp only [sto_e]
      rw [← hh1, ekd, bnd_l]
      unfold F_M_comeIn_245
      by_cases c : t.2.1 = []
      · have e0 : t = nTk := wt.ok.2 c
        have e5 : ((rk t.1 : Nat) : Int) = 5 := by rw [e0]; rfl
        rw [if_pos e5, if_pos c, gd_rg (by omega) (by omega), gd_rg (by omega) (by omega)]
        rfl
      · have e5 : ¬ ((rk t.1 : Nat) : Int) = 5 := fun q => by
          have hk := wt.k
          have : rk t.1 = 5 := by omega
          have t0 : t.1 = 0 := by
            unfold rk at this
            split at this
            · assumption
            · omega
          rcases wt with q | ⟨-, -, q⟩
          · exact c (by rw [q]; rfl)
          · rcases q with q | q | q | q <;> omega
        rw [if_neg e5, if_neg c, gd_rg (by omega) (by omega), gd_rg (by omega) (by omega)]
        rfl
    have s2' : RSg h1 M 138 (1300 * d + (r + 1)) (um rest) := RSg.cg (h := h) (fun j _ => gi1 121 j) (Nat.le_refl _) hM (fun j hj _ => gl1 j (by omega)) (by rw [← Nat.add_assoc]; exact s2.2)
    have s1' : RSg h1 M 138 (1300 * d) (um kept) := RSg.cg (h := h) (fun j _ => gi1 121 j) (Nat.le_refl _) hM (fun j _ hj => gl1 j (by rw [um_len] at hj; omega)) s1
    obtain ⟨tk, tx, th⟩ := t
    rw [hideT]
    by_cases c : tx = []
    · rw [if_pos c]
      rw [if_pos (show (tk, tx, th).2.1 = [] from c), Nat.add_zero] at step
      obtain ⟨h2, a1, a2, a3⟩ := ih f (r + 1) h1 kept (by omega) (by omega) (by omega) ((gi1 146 d).trans eg) s1' s2' (fun t ht => ok t (List.mem_cons_of_mem _ ht))
      exact ⟨h2, F1.tr a1, step.trans a2, a3⟩
    · rw [if_neg c]
      rw [if_neg (show ¬ (tk, tx, th).2.1 = [] from c)] at step
      obtain ⟨h2, a1, a2, a3⟩ := ih f (r + 1) h1 (kept ++ [(tk, tx, orH th H)]) (by omega) (by omega) (by rw [List.length_append, List.length_singleton]; omega) ((gi1 146 d).trans eg) (by
        rw [um_app, RSg.app]
        refine ⟨s1', ?_, trivial⟩
        rw [um_len, hh1, gl_pl, if_pos ⟨rfl, rfl⟩, ← hh1]
        exact yh.cg (fun j _ => gi1 121 j) (Nat.le_refl _) hM) s2' (fun t ht => ok t (List.mem_cons_of_mem _ ht))
      rw [List.length_append, List.length_singleton] at a2
      rw [List.append_assoc] at a2 a3
      exact ⟨h2, F1.tr a1, step.trans a2, a3⟩
/-! and goes before the tokens that were to be read -/
noncomputable def puL (f : Nat) (v1 v2 v6 v7 : Int) (h : MH) : RS Unit := itr (fun self (q : Int × Int × Int × Int × MH) => F_M_comeIn_285_b (fun v1 v2 v6 v7 h => self (v1, v2, v6, v7, h)) q.1 q.2.1 q.2.2.1 q.2.2.2.1 q.2.2.2.2) f (v1, v2, v6, v7, h)
theorem puL_s {f : Nat} {v1 v2 v6 v7 : Int} : puL (f + 1) v1 v2 v6 v7 h = F_M_comeIn_285_b (puL f) v1 v2 v6 v7 h := rfl
theorem pu_l {r : Nat} (hd : d < 8) (hM : M ≤ 1302) : ∀ (suf pre : List Tk) (f : Nat) (h : MH), suf.length < f → r + (pre.length + suf.length) ≤ 100 → mGi h 140 d = (r : Int) → RSg h M 138 (1300 * d + pre.length) (um suf) → RSg h M 135 (100 * d + r + suf.length) (um pre.reverse) →
    ∃ h', puL f (d : Int) ((1300 * d : Nat) : Int) ((pre.length + suf.length : Nat) : Int) (pre.length : Int) h = some (.inl (), h') ∧ FW (fun b i => (b = 140 ∨ b = 144) ∧ i = d) (fun b i => b = 135 ∧ 100 * d + r ≤ i) h h' ∧ RSg h' M 135 (100 * d + r) (um (pre ++ suf).reverse) ∧ mGi h' 140 d = ((r + (pre.length + suf.length) : Nat) : Int) ∧ mGi h' 144 d = -1 := by
  intro suf
  induction suf with
  | nil =>
    intro pre f h hf hl e s1 s2
    obtain ⟨f, rfl⟩ : ∃ g, f = g + 1 := ⟨f - 1, by omega⟩
    rw [List.length_nil, Nat.add_zero] at *
    refine ⟨mPi (mPi h 140 d ((r : Int) + (pre.length : Int))) 144 d (-1), ?_, FW.pi (FW.pi FW.rf (by omega)) (by omega), ?_, ?_, gi_s⟩
    · rw [puL_s, F_M_comeIn_285_b, if_pos (by omega), gd_b (by omega) (by omega), Int.toNat_natCast, e, gd_rg (by omega) (by omega)]
      rfl
    · rw [List.append_nil]
      exact RSg.cg (h := h) (fun j _ => by rw [gi_pi, if_neg (by omega), gi_pi, if_neg (by omega)]) (Nat.le_refl _) hM (fun j _ _ => rfl) s2
    · rw [gi_pi, if_neg (by omega), gi_s]; omega
  | cons t suf ih =>
    intro pre f h hf hl e s1 s2
    obtain ⟨f, rfl⟩ : ∃ g, f = g + 1 := ⟨f - 1, by omega⟩
    rw [List.length_cons] at *
    have hh1 : ∃ h1, h1 = mPl h 135 (100 * d + r + suf.length) (mGl h 138 (1300 * d + pre.length)) := ⟨_, rfl⟩
    obtain ⟨h1, hh1⟩ := hh1
    have gi1 : ∀ b j, mGi h1 b j = mGi h b j := fun b j => by rw [hh1]; rfl
    have gl1 : ∀ b j, ¬ (b = 135 ∧ j = 100 * d + r + suf.length) → mGl h1 b j = mGl h b j := fun b j hb => by rw [hh1, gl_pl, if_neg hb]
    have step : puL (f + 1) (d : Int) ((1300 * d : Nat) : Int) ((pre.length + (suf.length + 1) : Nat) : Int) (pre.length : Int) h = puL f (d : Int) ((1300 * d : Nat) : Int) ((pre.length + (suf.length + 1) : Nat) : Int) ((pre.length + 1 : Nat) : Int) h1 := by
      rw [puL_s, F_M_comeIn_285_b, if_neg (by omega), gd_rg (by omega) (by omega), gd_b (by omega) (by omega), Int.toNat_natCast, e, gd_rg (by omega) (by omega), gd_rg (by omega) (by omega), gd_rg (by omega) (by omega), gd_rg (by omega) (by omega), show (100 : Int) * (d : Int) + (r : Int) + ((pre.length + (suf.length + 1) : Nat) : Int) - 1 - (pre.length : Int) = ((100 * d + r + suf.length : Nat) : Int) by omega, show ((1300 * d : Nat) : Int) + (pre.length : Int) = ((1300 * d + pre.length : Nat) : Int) by omega, Int.toNat_natCast, Int.toNat_natCast, gd_rg (by omega) (by omega), gd_b (by omega) (by omega), gd_b (by omega) (by omega), sto_e, gd_rg (by omega) (by omega), hh1]
      rfl
    obtain ⟨h2, a1, a2, a3, a4, a5⟩ := ih (pre ++ [t]) f h1 (by omega) (by rw [List.length_append, List.length_singleton]; omega) ((gi1 140 d).trans e) (by
      rw [List.length_append, List.length_singleton, ← Nat.add_assoc]
      exact RSg.cg (h := h) (fun j _ => gi1 121 j) (Nat.le_refl _) hM (fun j _ _ => gl1 138 j (by omega)) s1.2) (by
      rw [List.reverse_append]
      show TR h1 M (mGl h1 135 (100 * d + r + suf.length)) t false ∧ RSg h1 M 135 (100 * d + r + suf.length + 1) (um pre.reverse)
      refine ⟨?_, RSg.cg (h := h) (fun j _ => gi1 121 j) (Nat.le_refl _) hM (fun j hj _ => gl1 135 j (by omega)) s2⟩
      rw [hh1, gl_pl, if_pos ⟨rfl, rfl⟩, ← hh1]
      exact s1.1.cg (fun j _ => gi1 121 j) (Nat.le_refl _) hM)
    rw [List.length_append, List.length_singleton, show pre.length + 1 + suf.length = pre.length + (suf.length + 1) by omega] at a1 a4
    rw [List.append_assoc] at a3
    refine ⟨h2, step.trans a1, FW.tr ?_ a2, a3, a4, a5⟩
    rw [hh1]
    exact FW.pl FW.rf ⟨rfl, by omega⟩
end Rj
