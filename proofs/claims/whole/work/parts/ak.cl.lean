/-! the reference's conditions: the loop, levels -/
section Cl
variable {B h h' : MH} {M E : Nat} {t x : List Int} {s : S2} {nm : Nm} {P Q : Nat → Nat → Prop} {L : List LnT} {lv : List (Bool × Bool × Bool)} {res : List Int} {rp md rp' md' : Nat} {T why : Nat}
noncomputable def cdL (f : Nat) (v1 v2 : Int) (h : MH) : RS Int := itr (fun self (q : Int × Int × MH) => F_M_condition_4_b (fun v1 v2 h => self (v1, v2, h)) q.1 q.2.1 q.2.2) f (v1, v2, h)
theorem cdL_s {f : Nat} {v1 v2 : Int} : cdL (f + 1) v1 v2 h = F_M_condition_4_b (cdL f) v1 v2 h := rfl
noncomputable def cdE (v1 : Int) (h : MH) : RS Int := bnd (F_M_expand (2 : Int) v1 h) fun _ h48 => if (mGi h48 107 1) = 0 then bnd (F_M_evaluate h48) fun x56 h54 => if (lgI x56 (0 : Int64)) = 0 then F_M_condition_202  h54 else some (.inl (1 : Int), h54) else F_M_condition_202  h48
theorem cd_w {t0 : Tk} {r : List Tk} (e : isW t0 15 = true) : t0.1 = 1 := (of_decide_eq_true e).1
theorem cd_l (hM : E + 2 ≤ M) (hM2 : M ≤ 1302) : ∀ (N : Nat) (rest : List LnT) (f k : Nat) (outs : List Tk) (h : MH), rest.length ≤ N → N < f → L.drop k = rest → k ≤ L.length → LnF h E L k → 2 + outs.length ≤ k → RSg h M 123 2 (um outs) → NmR h M nm → mGi h 121 0 = 48 → mGi h 121 1 = 49 →
    ∃ h', cdL f ((2 + outs.length : Nat) : Int) (k : Int) h = cdE ((2 + (outs ++ dfd nm (rest.map ltk)).length : Nat) : Int) h' ∧ FW noP (fun b _ => b = 123) h h' ∧ RSg h' M 123 2 (um (outs ++ dfd nm (rest.map ltk))) := by
  intro N
  induction N with
  | zero =>
    intro rest f k outs h hN hf hr hk z ho s nz e0 e1
    obtain ⟨f, rfl⟩ : ∃ g, f = g + 1 := ⟨f - 1, by omega⟩
    have : rest = [] := List.eq_nil_of_length_eq_zero (by omega)
    subst this
    have hk2 : L.length ≤ k := by
      have := congrArg List.length hr
      rw [List.length_drop, List.length_nil] at this
      omega
    refine ⟨h, ?_, FW.rf, ?_⟩
    · rw [cdL_s, F_M_condition_4_b, z.1, if_pos (by omega)]
      show _ = cdE ((2 + (outs ++ []).length : Nat) : Int) h
      rw [List.append_nil]
      rfl
    · show RSg h M 123 2 (um (outs ++ []))
      rw [List.append_nil]; exact s
  | succ N ih =>
    intro rest f k outs h hN hf hr hk z ho s nz e0 e1
    obtain ⟨f, rfl⟩ : ∃ g, f = g + 1 := ⟨f - 1, by omega⟩
    have hl4 := z.2.1
    cases rest with
    | nil =>
      have hk2 : L.length ≤ k := by
        have := congrArg List.length hr
        rw [List.length_drop, List.length_nil] at this
        omega
      refine ⟨h, ?_, FW.rf, ?_⟩
      · rw [cdL_s, F_M_condition_4_b, z.1, if_pos (by omega)]
        show _ = cdE ((2 + (outs ++ []).length : Nat) : Int) h
        rw [List.append_nil]
        rfl
      · show RSg h M 123 2 (um (outs ++ []))
        rw [List.append_nil]; exact s
    | cons x0 r =>
      rw [List.length_cons] at hN
      have hkl : k + (r.length + 1) = L.length := by
        have := congrArg List.length hr
        rw [List.length_drop, List.length_cons] at this
        omega
      have ex : L[k]? = some x0 := by
        have := congrArg (fun l => l[0]?) hr
        rw [List.getElem?_drop, Nat.add_zero] at this
        exact this
      have yx := z.tc (Nat.le_refl _) hM hM2 ex
      have wx := (z.2.2.2.1 x0 (List.mem_of_getElem? ex)).1
      have w1 := wd_r (L := L) (k := k) 1 hr
      have w2 := wd_r (L := L) (k := k) 2 hr
      have s1 := sg_r (L := L) (k := k) 1 40 hr
      have s3 := sg_r (L := L) (k := k) 3 41 hr
      have em : (x0 :: r).map ltk = ltk x0 :: r.map ltk := rfl
      rw [em] at w1 w2 s1 s3 ⊢
      have w1' : wdAt L (k + 1) = decide (((r.map ltk).getD 0 nTk).1 = 1) := w1
      have w2' : wdAt L (k + 2) = decide (((r.map ltk).getD 1 nTk).1 = 1) := w2
      have s1' : sgAt L (k + 1) 40 = isSg ((r.map ltk).getD 0 nTk) 40 := s1
      have s3' : sgAt L (k + 3) 41 = isSg ((r.map ltk).getD 2 nTk) 41 := s3
      obtain ⟨k1, ek1, hk1⟩ := lf_kind (p := k + 1) z (by omega)
      obtain ⟨k2, ek2, hk2⟩ := lf_kind (p := k + 2) z (by omega)
      have g1 := lf_sign (p := k + 1) (c := 40) z (by omega)
      have g3 := lf_sign (p := k + 3) (c := 41) z (by omega)
      rw [w1', decide_eq_true_eq] at hk1
      rw [w2', decide_eq_true_eq] at hk2
      rw [s1'] at g1
      rw [s3'] at g3
      -- one token is put, so many are passed
      have put : ∀ (n : Nat) (v : Int64) (nt : Tk), 1 ≤ n → n ≤ r.length + 1 → TR h M v nt false → ∃ h', F_M_condition_164 (cdL f) ((2 + outs.length : Nat) : Int) (k : Int) (n : Int) ((2 + outs.length : Nat) : Int) v h = cdE ((2 + (outs ++ nt :: dfd nm ((r.map ltk).drop (n - 1))).length : Nat) : Int) h' ∧ FW noP (fun b _ => b = 123) h h' ∧ RSg h' M 123 2 (um (outs ++ nt :: dfd nm ((r.map ltk).drop (n - 1)))) := by
        intro n v nt hn1 hn2 yv
        have F1 : FW noP (fun b i => b = 123 ∧ i < k + n) h (mPl h 123 (2 + outs.length) v) := FW.pl FW.rf ⟨rfl, by omega⟩
        have gi1 : ∀ b j, mGi (mPl h 123 (2 + outs.length) v) b j = mGi h b j := fun _ _ => rfl
        have nz1 : NmR (mPl h 123 (2 + outs.length) v) M nm := nz.cg (fun j _ => gi1 121 j) (Nat.le_refl _) hM2 (fun b j _ => gi1 b j) (fun b j hb => by rw [gl_pl, if_neg (by omega)])
        obtain ⟨h2, a1, a2, a3⟩ := ih (r.drop (n - 1)) f (k + n) (outs ++ [nt]) (mPl h 123 (2 + outs.length) v) (by rw [List.length_drop]; omega) (by omega) (by
          rw [show k + n = k + 1 + (n - 1) by omega, ← List.drop_drop]
          congr 1
          rw [← List.drop_drop, hr]
          rfl) (by omega) (z.fw (by omega) F1) (by rw [List.length_append, List.length_singleton]; omega) (by
            rw [um_app, RSg.app]
            refine ⟨RSg.cg (h := h) (fun j _ => gi1 121 j) (Nat.le_refl _) hM2 (fun j _ hj => by rw [um_len] at hj; rw [gl_pl, if_neg (by omega)]) s, ?_, trivial⟩
            rw [um_len, gl_pl, if_pos ⟨rfl, rfl⟩]
            exact yv.cg (fun j _ => gi1 121 j) (Nat.le_refl _) hM2) nz1 e0 e1
        rw [List.append_assoc, List.map_drop] at a1 a3
        rw [List.length_append, List.length_singleton] at a1
        refine ⟨h2, ?_, FW.tr (F1.sub (fun _ _ q => q) (fun _ _ q => q.1)) a2, a3⟩
        unfold F_M_condition_164
        rw [gd_b (by omega) (by omega), Int.toNat_natCast, sto_e, gd_rg (by omega) (by omega), gd_rg (by omega) (by omega), show ((2 + outs.length : Nat) : Int) + 1 = ((2 + (outs.length + 1) : Nat) : Int) by omega, show (k : Int) + (n : Int) = ((k + n : Nat) : Int) by omega]
        exact a1
      have dig : ∀ b : Bool, ∃ v, F_M_token (bI b) 1 2 0 h = some (.inl v, h) ∧ TR h M v (dgT b) false := fun b => by
        unfold F_M_token
        cases b with
        | false => exact ⟨_, rfl, 0, 0, isR.mk (k := 2) (s := 0) (n := 1) (g := 0) (by decide) (by decide) (by decide) (by decide), hR_0, ⟨e0, trivial⟩, by show 0 + 1 ≤ M; omega, hM2⟩
        | true => exact ⟨_, rfl, 1, 0, isR.mk (k := 2) (s := 1) (n := 1) (g := 0) (by decide) (by decide) (by decide) (by decide), hR_0, ⟨e1, trivial⟩, by show 1 + 1 ≤ M; omega, hM2⟩
      -- a digit in its place
      have digit : ∀ (j : Nat) (y : LnT), r[j]? = some y → y.1 = 1 → ∀ n : Nat, n = 2 * (j + 1) → n ≤ r.length + 1 → ∃ h', F_M_condition_113 (cdL f) ((2 + outs.length : Nat) : Int) (k : Int) (n : Int) h = cdE ((2 + (outs ++ dgT (fnd nm y.2.1).isSome :: dfd nm ((r.map ltk).drop (n - 1))).length : Nat) : Int) h' ∧ FW noP (fun b _ => b = 123) h h' ∧ RSg h' M 123 2 (um (outs ++ dgT (fnd nm y.2.1).isSome :: dfd nm ((r.map ltk).drop (n - 1)))) := by
        intro j y hy y1 n hn hnr
        have ey : L[k + (j + 1)]? = some y := by
          have : (L.drop k)[j + 1]? = some y := by rw [hr]; exact hy
          rw [List.getElem?_drop] at this
          exact this
        have yy := z.tc (p := k + (j + 1)) (by omega) hM hM2 ey
        have en := m_nameOf nz yy
        have ek : (ltk y).1 = 1 := y1
        rw [if_pos ek] at en
        have hj := (List.getElem?_eq_some_iff.mp hy).1
        unfold F_M_condition_113 F_M_condition_149
        rw [if_neg (by omega), gd_t (by omega), show ((n : Int) / 2) = ((j + 1 : Nat) : Int) by omega, gd_rg (by omega) (by omega), gd_b (by omega) (by omega), show ((k : Int) + ((j + 1 : Nat) : Int)).toNat = k + (j + 1) by omega, en, bnd_l]
        have ety : (ltk y).2.1 = y.2.1 := rfl
        rw [ety]
        cases hfn : fnd nm y.2.1 with
        | none =>
          obtain ⟨v, v1, v2⟩ := dig false
          have v1' : F_M_token 0 1 2 0 h = some (.inl v, h) := v1
          rw [if_pos (show oJ none < 0 by decide), v1', bnd_l]
          exact put n v _ (by omega) hnr v2
        | some q =>
          obtain ⟨v, v1, v2⟩ := dig true
          have v1' : F_M_token 1 1 2 0 h = some (.inl v, h) := v1
          rw [if_neg (show ¬ oJ (some q) < 0 by show ¬ ((7 - q : Nat) : Int) < 0; omega), v1', bnd_l]
          exact put n v _ (by omega) hnr v2
      have same : ∃ h', F_M_condition_113 (cdL f) ((2 + outs.length : Nat) : Int) (k : Int) 1 h = cdE ((2 + (outs ++ ltk x0 :: dfd nm (r.map ltk)).length : Nat) : Int) h' ∧ FW noP (fun b _ => b = 123) h h' ∧ RSg h' M 123 2 (um (outs ++ ltk x0 :: dfd nm (r.map ltk))) := by
        unfold F_M_condition_113
        rw [if_pos (by decide), gd_b (by omega) (by omega), Int.toNat_natCast]
        exact put 1 _ _ (Nat.le_refl _) (by omega) yx
      have is := m_is2 by15 yx wx.1
      have is' : decide ((ltk x0).1 = 1 ∧ (ltk x0).2.1 = strL 15) = isW (ltk x0) 15 := rfl
      rw [is'] at is
      rw [dfd_u, cdL_s, F_M_condition_4_b, z.1, if_neg (by omega), gd_b (by omega) (by omega), Int.toNat_natCast, is, bnd_l]
      unfold F_M_condition_45
      by_cases cw : isW (ltk x0) 15 = true
      · rw [cw, if_neg (show ¬ bI true = 0 by decide), gd_rg (by omega) (by omega), show (k : Int) + 1 = ((k + 1 : Nat) : Int) by omega, ek1, bnd_l]
        by_cases c1 : ((r.map ltk).getD 0 nTk).1 = 1
        · -- a word behind it
          have hr0 : ∃ y, r[0]? = some y ∧ y.1 = 1 ∧ (r.map ltk).getD 0 nTk = ltk y := by
            cases r with
            | nil => exact absurd c1 (by show ¬ (0 : Nat) = 1; decide)
            | cons y r => exact ⟨y, rfl, c1, rfl⟩
          obtain ⟨y, hy, y1, ey⟩ := hr0
          have ns : isSg ((r.map ltk).getD 0 nTk) 40 = false := by
            unfold isSg
            exact decide_eq_false (fun q => by have := q.1; omega)
          rw [if_pos (hk1.mpr c1)]
          unfold F_M_condition_46 F_M_condition_91 F_M_condition_92
          rw [if_neg (show ¬ bI true = 0 by decide), gd_rg (by omega) (by omega), show (k : Int) + 1 = ((k + 1 : Nat) : Int) by omega, g1, bnd_l, ns, if_pos (show bI false = 0 from rfl), if_neg (by decide), if_pos ⟨rfl, c1⟩, ey]
          have hj := (List.getElem?_eq_some_iff.mp hy).1
          exact digit 0 y hy y1 2 rfl (by omega)
        · rw [if_neg (fun q => c1 (hk1.mp q)), if_neg (fun q => c1 q.2)]
          unfold F_M_condition_46 F_M_condition_91 F_M_condition_92
          rw [if_neg (show ¬ bI true = 0 by decide), gd_rg (by omega) (by omega), show (k : Int) + 1 = ((k + 1 : Nat) : Int) by omega, g1, bnd_l]
          by_cases c2 : isSg ((r.map ltk).getD 0 nTk) 40 = true
          · rw [c2, if_neg (show ¬ bI true = 0 by decide), gd_rg (by omega) (by omega), show (k : Int) + 2 = ((k + 2 : Nat) : Int) by omega, ek2, bnd_l]
            by_cases c3 : ((r.map ltk).getD 1 nTk).1 = 1
            · rw [if_pos (hk2.mpr c3), gd_rg (by omega) (by omega), show (k : Int) + 3 = ((k + 3 : Nat) : Int) by omega, g3, bnd_l]
              by_cases c4 : isSg ((r.map ltk).getD 2 nTk) 41 = true
              · rw [c4, if_neg (show ¬ bI true = 0 by decide), if_pos rfl, if_neg (by decide), if_pos ⟨rfl, rfl, c3, rfl⟩]
                have hr1 : ∃ y, r[1]? = some y ∧ y.1 = 1 ∧ (r.map ltk).getD 1 nTk = ltk y ∧ 3 ≤ r.length := by
                  match r, c3, c4 with
                  | [], c3, _ => exact absurd c3 (by show ¬ (0 : Nat) = 1; decide)
                  | [a], c3, _ => exact absurd c3 (by show ¬ (0 : Nat) = 1; decide)
                  | [a, b], _, c4 => exact absurd c4 (by show ¬ isSg nTk 41 = true; decide)
                  | a :: y :: c :: r, c3, _ => exact ⟨y, rfl, c3, rfl, by simp⟩
                obtain ⟨y, hy, y1, ey, hl3⟩ := hr1
                rw [ey]
                exact digit 1 y hy y1 4 rfl (by omega)
              · rw [Bool.eq_false_iff.mpr c4, if_pos (show bI false = 0 from rfl), if_pos rfl, if_pos rfl, if_neg (fun q => absurd q.2.2.2 (by decide))]
                exact same
            · rw [if_neg (fun q => c3 (hk2.mp q)), if_pos rfl, if_pos rfl, if_neg (fun q => c3 q.2.2.1)]
              exact same
          · rw [Bool.eq_false_iff.mpr c2, if_pos (show bI false = 0 from rfl), if_pos rfl, if_pos rfl, if_neg (fun q => absurd q.2.1 (by decide))]
            exact same
      · rw [Bool.eq_false_iff.mpr cw, if_pos (show bI false = 0 from rfl), if_neg (fun q => absurd q.1 (by decide)), if_neg (fun q => absurd q.1 (by decide))]
        unfold F_M_condition_46 F_M_condition_91 F_M_condition_92
        rw [if_pos (show bI false = 0 from rfl), if_pos rfl, if_pos rfl]
        exact same
theorem m_cond (z : RQ B t h (nm, lv, res, rp, md)) (y : LnS h E L) (hE : E ≤ t.length) (hL : 2 ≤ L.length) :
    ((rowT nm rp md (dfd nm ((L.drop 2).map ltk))).1 ≠ 0 → ∃ h', F_M_condition h = some (.inl 0, h') ∧ RQX B h' (nm, lv, res, (rowT nm rp md (dfd nm ((L.drop 2).map ltk))).2.1, (rowT nm rp md (dfd nm ((L.drop 2).map ltk))).2.2.1) (rowT nm rp md (dfd nm ((L.drop 2).map ltk))).1) ∧
    ((rowT nm rp md (dfd nm ((L.drop 2).map ltk))).1 = 0 → evE true [] [] (kx (rowT nm rp md (dfd nm ((L.drop 2).map ltk))).2.2.2) = none → ∃ h' y, F_M_condition h = some (.inl y, h') ∧ p01 y ∧ RQX B h' (nm, lv, res, (rowT nm rp md (dfd nm ((L.drop 2).map ltk))).2.1, (rowT nm rp md (dfd nm ((L.drop 2).map ltk))).2.2.1) 9) ∧
    ((rowT nm rp md (dfd nm ((L.drop 2).map ltk))).1 = 0 → ∀ v, evE true [] [] (kx (rowT nm rp md (dfd nm ((L.drop 2).map ltk))).2.2.2) = some v → ∃ h', F_M_condition h = some (.inl (bI (decide (v ≠ 0))), h') ∧ RQ B t h' (nm, lv, res, (rowT nm rp md (dfd nm ((L.drop 2).map ltk))).2.1, (rowT nm rp md (dfd nm ((L.drop 2).map ltk))).2.2.1)) := by
  have c := z.2.1
  have hM := c.mx
  have hM' : t.length + 2 + md ≤ 1302 := hM
  obtain ⟨h1, a1, a2, a3⟩ := cd_l (M := t.length + 2 + md) (nm := nm) (by omega) hM' (L.drop 2).length (L.drop 2) FU 2 [] h (Nat.le_refl _) (by have := y.2.1; rw [List.length_drop]; unfold FU; omega) rfl hL (y.lf hL) (by simp) trivial c.1 z.2.2.2.2.2.2.2.1 z.2.2.2.2.2.2.2.2
  rw [List.nil_append] at a1 a3
  have e0 : F_M_condition h = cdE ((2 + (dfd nm ((L.drop 2).map ltk)).length : Nat) : Int) h1 := a1
  have z1 : RQ B t h1 (nm, lv, res, rp, md) := z.fw a2 (fun b i q => q.elim) (fun b i q => .inl q)
  have hl : (dfd nm ((L.drop 2).map ltk)).length ≤ L.length - 2 := by
    have := dfd_len (nm := nm) _ ((L.drop 2).map ltk) (Nat.le_refl _)
    rw [List.length_map, List.length_drop] at this
    exact this
  have h4 := y.2.1
  have hW : ∀ u ∈ (L.drop 2).map ltk, tkW u ∧ neT u := fun u hu => by
    obtain ⟨l, hl, rfl⟩ := List.mem_map.mp hu
    exact (y.2.2.2.1 l (List.mem_of_mem_drop hl)).1
  have dW : ∀ u ∈ dfd nm ((L.drop 2).map ltk), tkW u ∧ neT u := dfd_mem (P := fun u => tkW u ∧ neT u) (fun b => ⟨dg_W b, fun q => by cases b <;> cases q⟩) _ _ (Nat.le_refl _) hW
  obtain ⟨x1, x2⟩ := m_expand z1.2.2.1 z1.2.1 (by omega) a3 (fun u hu => (dW u hu).1)
  have ne := rowT_ne (nm := nm) (rp := rp) (md := md) (fun u hu => (dW u hu).2)
  rw [e0]
  unfold cdE
  have ei : (2 : Int) = ((2 : Nat) : Int) := rfl
  generalize rowT nm rp md (dfd nm ((L.drop 2).map ltk)) = S at *
  refine ⟨fun q => ?_, fun q n => ?_, fun q v n => ?_⟩
  · obtain ⟨h2, b1, b2⟩ := x2 q
    have b1' : F_M_expand 2 ((2 + (dfd nm ((L.drop 2).map ltk)).length : Nat) : Int) h1 = some (.inl (), h2) := b1
    rw [b1', bnd_l, if_neg (by rw [b2.2.1]; omega)]
    exact ⟨h2, rfl, z1.exbad b2⟩
  all_goals
    obtain ⟨h2, b1, b2, b3, b4, b5, b6⟩ := x1 q
    have b1' : F_M_expand 2 ((2 + (dfd nm ((L.drop 2).map ltk)).length : Nat) : Int) h1 = some (.inl (), h2) := b1
    have z2 : RQ B t h2 (nm, lv, res, S.2.1, S.2.2.1) := z1.ex b2 b4
    have ev := m_eval (h := h2) b4.mx z2.er b5 (fun u hu => ⟨b6 u hu, ne u hu⟩)
    rw [b1', bnd_l, z2.er, if_pos rfl]
    rw [n] at ev
  · obtain ⟨h3, w, c1, c2, c3⟩ := ev.2 rfl
    rw [c1, bnd_l]
    have rx : RQX B h3 (nm, lv, res, S.2.1, S.2.2.1) 9 := by
      obtain ⟨y1, y2, y3, y4, y5, y6, y7⟩ := z2
      have gi : ∀ b i, b ≠ 147 → b ≠ 148 → ¬ (b = 107 ∧ (i = 1 ∨ i = 49 ∨ i = 50 ∨ i = 51)) → mGi h3 b i = mGi h2 b i := fun b i q1 q2 q3 => c2.2.2.1 b i (by unfold pEr; omega)
      exact ⟨y1.fw c2 (fun b i q => by unfold pEr at q; unfold pR2; omega) (fun b i q => by unfold qEr at q; unfold qR2; omega), c3, ⟨(gi 107 28 (by omega) (by omega) (by omega)).trans y2.2.2.1, y2.2.2.2.1⟩, ⟨(gi 107 26 (by omega) (by omega) (by omega)).trans y5.1, y5.2.1, Seg.cg (fun j _ _ => gi 122 j (by omega) (by omega) (by omega)) y5.2.2⟩, (gi 107 32 (by omega) (by omega) (by omega)).trans y6⟩
    unfold F_M_condition_202
    by_cases cw : lgI w (0 : Int64) = 0
    · rw [if_pos cw]; exact ⟨h3, 0, rfl, .inl rfl, rx⟩
    · rw [if_neg cw]; exact ⟨h3, 1, rfl, .inr rfl, rx⟩
  · obtain ⟨h3, c1, c2, c3⟩ := ev.1 v rfl
    rw [c1, bnd_l]
    refine ⟨h3, ?_, ?_⟩
    · by_cases cv : v = 0
      · rw [if_pos (lg_eq.mpr cv), decide_eq_false (fun q => q cv)]; rfl
      · rw [if_neg (fun q => cv (lg_eq.mp q)), decide_eq_true cv]; rfl
    · have f' : FW (fun b i => pEr b i ∧ ¬ (b = 107 ∧ i = 1)) qEr h2 h3 := ⟨c2.1, c2.2.1, fun b i hb => by
        by_cases q : b = 107 ∧ i = 1
        · rw [q.1, q.2, c3, z2.er]
        · exact c2.2.2.1 b i (fun w => hb ⟨w, q⟩), c2.2.2.2⟩
      exact z2.fw f' (fun b i q => by unfold pEr at q; omega) (fun b i q => by unfold qEr at q; omega)
/-! levels -/
theorem m_act (z : RQ B t h s) : F_M_isActive h = some (.inl (bI (actv s.2.1)), h) := by
  have l := z.2.2.2.1
  obtain ⟨nm, lv, res, rp, md⟩ := s
  unfold F_M_isActive F_M_isActive_35 F_M_isActive_39
  cases lv with
  | nil =>
    have e : mGi h 107 33 = 0 := l.1
    rw [e, if_pos rfl]
    rfl
  | cons a r =>
    obtain ⟨o, hd, tu⟩ := a
    have e : mGi h 107 33 = ((r.length + 1 : Nat) : Int) := l.1
    have l2 : r.length + 1 ≤ 6 := l.2.1
    have l3 := l.2.2
    rw [e, if_neg (by omega), gd_rg (by omega) (by omega), show ((r.length + 1 : Nat) : Int) - 1 = (r.length : Int) by omega, gd_b (by omega) (by omega), Int.toNat_natCast, l3.1, l3.2.1]
    show (_ : RS Int) = some (.inl (bI (o && hd)), h)
    cases o <;> cases hd <;> rfl
theorem RQ.lvl {lv' : List (Bool × Bool × Bool)} (z : RQ B t h (nm, lv, res, rp, md)) (f : FW (fun b i => (b = 107 ∧ i = 33) ∨ ((b = 132 ∨ b = 133 ∨ b = 134))) noQ h h') (e : mGi h' 107 33 = (lv'.length : Int)) (hl : lv'.length ≤ 6) (l : LvR h' lv') : RQ B t h' (nm, lv', res, rp, md) := by
  obtain ⟨z1, z2, z3, z4, z5, z6, z7⟩ := z
  have gi : ∀ b i, ¬ (b = 107 ∧ i = 33) → b ≠ 132 → b ≠ 133 → b ≠ 134 → mGi h' b i = mGi h b i := fun b i q1 q2 q3 q4 => f.2.2.1 b i (by omega)
  have hM := z2.mx
  obtain ⟨c1, c2, c3, c4, c5⟩ := z2
  refine ⟨z1.fw f (fun b i q => by unfold pR2; omega) (fun b i q => q.elim), ⟨c1.cg (fun j _ => gi 121 j (by omega) (by omega) (by omega) (by omega)) (Nat.le_refl _) hM (fun b j hb => gi b j (by omega) (by omega) (by omega) (by omega)) (fun b j _ => f.2.2.2 b j id), ⟨(gi 107 24 (by omega) (by omega) (by omega) (by omega)).trans c2.1, (gi 107 25 (by omega) (by omega) (by omega) (by omega)).trans c2.2.1, c2.2.2⟩, (gi 107 28 (by omega) (by omega) (by omega) (by omega)).trans c3, c4, (gi 107 1 (by omega) (by omega) (by omega) (by omega)).trans c5⟩, z3, ⟨e, hl, l⟩, ⟨(gi 107 26 (by omega) (by omega) (by omega) (by omega)).trans z5.1, z5.2.1, Seg.cg (fun j _ _ => gi 122 j (by omega) (by omega) (by omega) (by omega)) z5.2.2⟩, (gi 107 32 (by omega) (by omega) (by omega) (by omega)).trans z6, Seg.cg (fun j _ _ => gi 121 j (by omega) (by omega) (by omega) (by omega)) z7.1, (gi 121 0 (by omega) (by omega) (by omega) (by omega)).trans z7.2.1, (gi 121 1 (by omega) (by omega) (by omega) (by omega)).trans z7.2.2⟩
theorem m_push {o hd : Bool} (z : RQ B t h (nm, lv, res, rp, md)) (hl : lv.length < 6) : RQO B t (F_M_beginLevel_121 (bI o) (bI hd) h) ((nm, (o, hd, false) :: lv, res, rp, md), 0) := by
  have l := z.2.2.2.1
  have l1 : mGi h 107 33 = (lv.length : Int) := l.1
  have g1 : mGi (mPi h 132 lv.length (bI o)) 107 33 = (lv.length : Int) := by rw [gi_pi, if_neg (by omega)]; exact l1
  have g2 : mGi (mPi (mPi h 132 lv.length (bI o)) 133 lv.length (bI hd)) 107 33 = (lv.length : Int) := by rw [gi_pi, if_neg (by omega)]; exact g1
  have g3 : mGi (mPi (mPi (mPi h 132 lv.length (bI o)) 133 lv.length (bI hd)) 134 lv.length 0) 107 33 = (lv.length : Int) := by rw [gi_pi, if_neg (by omega)]; exact g2
  refine ⟨fun _ => ⟨mPi (mPi (mPi (mPi h 132 lv.length (bI o)) 133 lv.length (bI hd)) 134 lv.length 0) 107 33 ((lv.length : Int) + 1), ?_, ?_⟩, fun q => absurd rfl q⟩
  · unfold F_M_beginLevel_121
    rw [z.er, if_pos (by decide), l1, gd_b (by omega) (by omega), gd_t (bI_p _), Int.toNat_natCast, sto_e, g1, gd_b (by omega) (by omega), gd_t (bI_p _), Int.toNat_natCast, sto_e, g2, gd_b (by omega) (by omega), Int.toNat_natCast, sto_e, g3, gd_rg (by omega) (by omega), sto_e]
  · refine z.lvl (FW.pi (FW.pi (FW.pi (FW.pi FW.rf (by omega)) (by omega)) (by omega)) (by omega)) (by rw [gi_s, List.length_cons]; omega) (by rw [List.length_cons]; omega) ⟨?_, ?_, ?_, LvR.cg (fun b j hb hj => ?_) l.2.2⟩
    · rw [gi_pi, if_neg (by omega), gi_pi, if_neg (by omega), gi_pi, if_neg (by omega), gi_s]
    · rw [gi_pi, if_neg (by omega), gi_pi, if_neg (by omega), gi_s]
    · rw [gi_pi, if_neg (by omega), gi_s]; rfl
    · have hj' : j < lv.length := hj
      rw [gi_pi, if_neg (by omega), gi_pi, if_neg (by omega), gi_pi, if_neg (by omega), gi_pi, if_neg (by omega)]
theorem bad_121 {v2 y : Int} (z : RQX B h s why) (hw : why ≠ 0) : F_M_beginLevel_121 v2 y h = some (.inl (), h) := by
  unfold F_M_beginLevel_121
  rw [z.2.1, if_neg (by omega)]
theorem m_if (z : RQ B t h s) (y : LnS h E L) (hE : E ≤ t.length) (hL : 2 ≤ L.length) : RQO B t (F_M_beginLevel 0 h) (ifL L s) := by
  have act := m_act z
  obtain ⟨nm, lv, res, rp, md⟩ := s
  have act' : F_M_isActive h = some (.inl (bI (actv lv)), h) := act
  have l1 : mGi h 107 33 = (lv.length : Int) := z.2.2.2.1.1
  unfold F_M_beginLevel F_M_beginLevel_31 F_M_beginLevel_36
  rw [act', bnd_l, if_pos rfl, ite_self, gd_01b, need_1 z.er, bnd_l, if_neg (by decide), l1]
  unfold ifL F_M_beginLevel_59
  dsimp only
  by_cases c6 : 6 ≤ lv.length
  · rw [if_pos (by omega), if_pos c6, gd_01a, need_0 z.er (by decide), bnd_l, if_pos rfl]
    exact RQO.bad1 (why := 1) z (by decide)
  rw [if_neg (by omega), if_neg c6, gd_01b, need_1 z.er, bnd_l, if_neg (by decide)]
  unfold F_M_beginLevel_120 F_M_beginLevel_116
  by_cases ca : actv lv = true
  · rw [ca, if_neg (show ¬ bI true = 0 by decide), if_pos rfl, if_pos rfl]
    obtain ⟨m1, m2, m3⟩ := m_cond z y hE hL
    have ekx : (fun t : Tk => (t.1, t.2.1)) = fun t : Tk => (t.1, t.2.1) := rfl
    have hS : ∃ S, S = rowT nm rp md (dfd nm ((L.drop 2).map ltk)) := ⟨_, rfl⟩
    obtain ⟨S, hS⟩ := hS
    rw [← hS] at m1 m2 m3 ⊢
    by_cases c0 : S.1 = 0
    · rw [if_neg (show ¬ S.1 ≠ 0 from fun q => q c0)]
      show RQO B t _ (match evE true [] [] (kx S.2.2.2) with | none => ((nm, lv, res, S.2.1, S.2.2.1), 9) | some v => ((nm, (true, decide (v ≠ 0), false) :: lv, res, S.2.1, S.2.2.1), 0))
      cases hev : evE true [] [] (kx S.2.2.2) with
      | none =>
        obtain ⟨h1, y1, a1, a2, a3⟩ := m2 c0 hev
        rw [a1, bnd_l, bad_121 a3 (by decide), bad_121 a3 (by decide), ite_self]
        exact ⟨fun q => absurd q (show ¬ (9 : Nat) = 0 by decide), fun _ => ⟨h1, rfl, a3⟩⟩
      | some v =>
        obtain ⟨h1, a1, a2⟩ := m3 c0 v hev
        rw [a1, bnd_l]
        dsimp only
        cases hdv : decide (v ≠ 0) with
        | false =>
          rw [if_pos (show bI false = 0 from rfl)]
          exact m_push (o := true) (hd := false) a2 (by omega)
        | true =>
          rw [if_neg (show ¬ bI true = 0 by decide)]
          exact m_push (o := true) (hd := true) a2 (by omega)
    · rw [if_pos c0]
      obtain ⟨h1, a1, a2⟩ := m1 c0
      rw [a1, bnd_l, if_pos rfl, bad_121 a2 c0]
      exact ⟨fun q => absurd q c0, fun _ => ⟨h1, rfl, a2⟩⟩
  · rw [Bool.eq_false_iff.mpr ca, if_pos (show bI false = 0 from rfl), if_neg (show ¬ false = true by decide)]
    exact m_push (o := false) (hd := false) z (by omega)
theorem m_ifd {how : Bool} (z : RQ B t h s) (y : LnS h E L) (hE : E ≤ t.length) : RQO B t (F_M_beginLevel (if how = true then 1 else 2) h) (ifdL how L s) := by
  have act := m_act z
  obtain ⟨nm, lv, res, rp, md⟩ := s
  have act' : F_M_isActive h = some (.inl (bI (actv lv)), h) := act
  have l1 : mGi h 107 33 = (lv.length : Int) := z.2.2.2.1.1
  have hM := z.2.1.mx
  have hM' : t.length + 2 + md ≤ 1302 := hM
  have hw0 : ¬ (if how = true then (1 : Int) else 2) = 0 := by split <;> decide
  generalize hv1 : (if how = true then (1 : Int) else 2) = v1 at hw0 ⊢
  obtain ⟨kk, ek, hk⟩ := ls_kind (p := 2) y
  have ek' : F_M_kindAt 2 h = some (.inl kk, h) := ek
  unfold ifdL
  dsimp only
  -- behind the form
  have lev : (actv lv = true → wdAt L 2 = true) → RQO B t (F_M_beginLevel_31 v1 (bI (actv lv)) h) (if 6 ≤ lv.length then ((nm, lv, res, rp, md), 1) else ((nm, (actv lv, actv lv && ((fnd nm (txAt L 2)).isSome == how), false) :: lv, res, rp, md), 0)) := by
    intro hwd
    unfold F_M_beginLevel_31 F_M_beginLevel_36 F_M_beginLevel_59
    rw [gd_01b, need_1 z.er, bnd_l, if_neg (by decide), l1]
    by_cases c6 : 6 ≤ lv.length
    · rw [if_pos (by omega), if_pos c6, gd_01a, need_0 z.er (by decide), bnd_l, if_pos rfl]
      exact RQO.bad1 (why := 1) z (by decide)
    rw [if_neg (by omega), if_neg c6, gd_01b, need_1 z.er, bnd_l, if_neg (by decide)]
    unfold F_M_beginLevel_103 F_M_beginLevel_113 F_M_beginLevel_120 F_M_beginLevel_116
    by_cases ca : actv lv = true
    · obtain ⟨x, ex, kx⟩ := wdA (hwd ca)
      have yx := y.tc (M := t.length + 2 + md) (by omega) hM' ex
      have en := m_nameOf z.2.1.1 yx
      have ek1 : (ltk x).1 = 1 := kx
      have et : (ltk x).2.1 = x.2.1 := rfl
      have t2 : ((2 : Int)).toNat = 2 := rfl
      rw [if_pos ek1, et] at en
      rw [ca, if_neg (show ¬ bI true = 0 by decide), if_neg hw0, gd_b (by decide) (by decide), t2, en, bnd_l, txA ex, Bool.true_and]
      have hp : ∀ hd : Bool, hd = ((fnd nm x.2.1).isSome == how) → RQO B t (F_M_beginLevel_121 (bI true) (bI hd) h) ((nm, (true, (fnd nm x.2.1).isSome == how, false) :: lv, res, rp, md), 0) := fun hd e => by
        rw [← e]
        exact m_push (o := true) z (by omega)
      cases hfn : fnd nm x.2.1 with
      | none =>
        rw [if_pos (show oJ none < 0 by decide), ← hv1]
        cases how with
        | true => rw [hfn] at hp; exact hp false rfl
        | false => rw [hfn] at hp; exact hp true rfl
      | some q =>
        rw [if_neg (show ¬ oJ (some q) < 0 by show ¬ ((7 - q : Nat) : Int) < 0; omega), ← hv1]
        cases how with
        | true => rw [hfn] at hp; exact hp true rfl
        | false => rw [hfn] at hp; exact hp false rfl
    · rw [Bool.eq_false_iff.mpr ca, if_pos (show bI false = 0 from rfl), Bool.false_and]
      exact m_push (o := false) (hd := false) z (by omega)
  unfold F_M_beginLevel
  rw [act', bnd_l]
  have bad : RQO B t (F_M_beginLevel_35 v1 (bI (actv lv)) h) ((nm, lv, res, rp, md), 6) := by
    unfold F_M_beginLevel_35 F_M_beginLevel_36
    rw [gd_01a, need_0 z.er (by decide), bnd_l, if_pos rfl]
    exact RQO.bad1 (why := 6) z (by decide)
  by_cases ca : actv lv = true
  · rw [if_neg (show ¬ bI (actv lv) = 0 by rw [ca]; decide), if_neg hw0, y.1]
    by_cases c3 : L.length = 3
    · rw [if_pos (by omega), ek', bnd_l]
      by_cases cw : wdAt L 2 = true
      · rw [if_pos (hk.mpr cw), if_neg (fun q => q.2 ⟨cw, c3⟩)]
        exact lev (fun _ => cw)
      · rw [if_neg (fun q => cw (hk.mp q)), if_pos ⟨ca, fun q => cw q.1⟩]
        exact bad
    · rw [if_neg (by omega), if_pos ⟨ca, fun q => c3 q.2⟩]
      exact bad
  · rw [if_pos (show bI (actv lv) = 0 by rw [Bool.eq_false_iff.mpr ca]; rfl), if_neg (fun q => ca q.1)]
    exact lev (fun q => absurd q ca)
end Cl
