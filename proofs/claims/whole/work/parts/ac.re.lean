/-! the reference lets a replacement come in; rows, whole -/
section Re
variable {h h' h'' : MH} {M T d D C c p n : Nat} {v v3 : Int64} {t a b : Tk} {m ma mb : Bool} {nm : Nm} {rp md rp' md' : Nat} {k g pa : Nat} {R dn l w : List Tk} {ar : List (List Tk)} {cm : List (Tk × Bool)} {q : NmD} {X : Nat → Nat → List Tk → RT (List Tk)} {H : Hd}
def CB (nm : Nm) (T d : Nat) (h : MH) (rp md g : Nat) (R dn : List Tk) (n : Nat) : Prop := CmR nm T h rp md ∧ mGi h 107 48 = (d : Int) ∧ mGi h 146 d = (g : Int) ∧ TdR h (T + 2 + md) d R ∧ DnR h (T + 2 + md) d dn ∧ mGi h 143 d = (n : Int)
theorem CB.fw {P Q : Nat → Nat → Prop} (z : CB nm T d h rp md g R dn n) (f : FW P Q h h') (hP : ∀ b i, P b i → pJ (T + 2 + md) b i) (hQ : ∀ b i, Q b i → b = 138 ∧ 1300 * d ≤ i) (hm : md ≤ md') (p : PlR h' T md') (er : mGi h' 107 1 = 0) : RX2 d (T + 2 + md) h h' ∧ CB nm T d h' rp md' g R dn n := by
  obtain ⟨z1, z2, z3, z4, z5, z6⟩ := z
  have F : RX2 d (T + 2 + md) h h' := RX2.mk f (fun b i q => by have := hP b i q; unfold pJ at this; unfold pX; omega) (fun b i q => by have := hQ b i q; unfold qX; omega)
  have hM : T + 2 + md' ≤ 1302 := by have := p.2.2; omega
  have gi : ∀ b i, b ≠ 121 → ¬ (b = 107 ∧ (i = 1 ∨ i = 24 ∨ i = 25 ∨ i = 30 ∨ i = 31)) → mGi h' b i = mGi h b i := fun b i h1 h3 => f.2.2.1 b i (fun q => by have := hP b i q; unfold pJ at this; omega)
  have gl : ∀ b i, b ≠ 138 → mGl h' b i = mGl h b i := fun b i h1 => f.2.2.2 b i (fun q => by have := hQ b i q; omega)
  have e121 : ∀ j, j < T + 2 + md → mGi h' 121 j = mGi h 121 j := fun j hj => F.c121 hj
  exact ⟨F, z1.fx F (Nat.le_refl _) hm p ((gi 107 28 (by omega) (by omega)).trans z1.2.2.1) z1.2.2.2.1 er, (gi 107 48 (by omega) (by omega)).trans z2, (gi 146 d (by omega) (by omega)).trans z3, z4.cg2 e121 (by omega) hM (gi 140 d (by omega) (by omega)) (fun j => gl 135 j (by omega)), z5.cg2 e121 (by omega) hM (gi 141 d (by omega) (by omega)) (fun j => gl 136 j (by omega)), (gi 143 d (by omega) (by omega)).trans z6⟩
theorem RSg.dl {acc : List Tk} (z : RSg h M c p (um acc)) : RSg h M c p (um acc.dropLast) := by
  by_cases e : acc = []
  · rw [e]; trivial
  · have q := List.dropLast_concat_getLast e
    rw [← q, um_app, RSg.app] at z
    exact z.1
noncomputable def cmL (f : Nat) (v1 v2 : Int) (v3 : Int64) (v5 v6 : Int) (h : MH) : RS Unit := itr (fun self (q : Int × Int × Int64 × Int × Int × MH) => F_M_comeIn_20_b (fun v1 v2 v3 v5 v6 h => self (v1, v2, v3, v5, v6, h)) q.1 q.2.1 q.2.2.1 q.2.2.2.1 q.2.2.2.2.1 q.2.2.2.2.2) f (v1, v2, v3, v5, v6, h)
theorem cmL_s {f : Nat} {v1 v2 : Int} {v5 v6 : Int} : cmL (f + 1) v1 v2 v3 v5 v6 h = F_M_comeIn_20_b (cmL f) v1 v2 v3 v5 v6 h := rfl
theorem jn_r (hd : d < 8) (hn : n ≤ 1300) (ve : ∀ (h : MH) (M : Nat), M ≤ 1302 → TR h M v3 nTk false) : ∀ (N : Nat) (rest : List (Tk × Bool)) (f v6 : Nat) (h : MH) (md : Nat) (acc : List Tk), rest.length ≤ N → N < f → (v6 + rest.length = n ∨ (rest = [] ∧ n ≤ v6)) → acc.length ≤ v6 → acc.length ≤ n → v6 ≤ n + 1 → CB nm T d h rp md g R dn n → RSg h (T + 2 + md) 138 (1300 * d) (um acc) → RSg h (T + 2 + md) 138 (1300 * d + v6) rest → (∀ t ∈ acc, tkW t) → (∀ x ∈ rest, tkW x.1) →
    ((joinT rp md acc rest).1 = 0 → ∃ h', cmL f (d : Int) ((1300 * d : Nat) : Int) v3 (acc.length : Int) (v6 : Int) h = F_M_comeIn_180 (d : Int) ((1300 * d : Nat) : Int) ((joinT rp md acc rest).2.2.2.length : Int) h' ∧ RX2 d (T + 2 + md) h h' ∧ md ≤ (joinT rp md acc rest).2.2.1 ∧ CB nm T d h' rp (joinT rp md acc rest).2.2.1 g R dn n ∧ RSg h' (T + 2 + (joinT rp md acc rest).2.2.1) 138 (1300 * d) (um (joinT rp md acc rest).2.2.2) ∧ (∀ t ∈ (joinT rp md acc rest).2.2.2, tkW t) ∧ (joinT rp md acc rest).2.2.2.length ≤ n) ∧
    ((joinT rp md acc rest).1 ≠ 0 → ∃ h' x, x ≤ n ∧ cmL f (d : Int) ((1300 * d : Nat) : Int) v3 (acc.length : Int) (v6 : Int) h = F_M_comeIn_180 (d : Int) ((1300 * d : Nat) : Int) (x : Int) h' ∧ XB d (T + 2 + md) h h' (joinT rp md acc rest).1 rp ∧ mGi h' 140 d = (R.length : Int)) := by
  intro N
  induction N with
  | zero =>
    intro rest f v6 h md acc hN hf hv ha han hv1 z s1 s2 o1 o2
    obtain ⟨f, rfl⟩ : ∃ g, f = g + 1 := ⟨f - 1, by omega⟩
    have : rest = [] := List.eq_nil_of_length_eq_zero (by omega)
    subst this
    rw [List.length_nil, Nat.add_zero] at hv
    rw [joinT]
    refine ⟨fun _ => ⟨h, ?_, RX2.rf, Nat.le_refl _, z, s1, o1, han⟩, fun q => absurd rfl q⟩
    rw [cmL_s, F_M_comeIn_20_b, gd_b (by omega) (by omega), Int.toNat_natCast, z.2.2.2.2.2, if_pos (by omega)]
  | succ N ih =>
    intro rest f v6 h md acc hN hf hv ha han hv1 z s1 s2 o1 o2
    obtain ⟨f, rfl⟩ : ∃ g, f = g + 1 := ⟨f - 1, by omega⟩
    have hM := z.1.mx
    cases rest with
    | nil =>
      rw [List.length_nil, Nat.add_zero] at hv
      rw [joinT]
      refine ⟨fun _ => ⟨h, ?_, RX2.rf, Nat.le_refl _, z, s1, o1, han⟩, fun q => absurd rfl q⟩
      rw [cmL_s, F_M_comeIn_20_b, gd_b (by omega) (by omega), Int.toNat_natCast, z.2.2.2.2.2, if_pos (by omega)]
    | cons y rest =>
      obtain ⟨t, mk⟩ := y
      have hv' : v6 + (rest.length + 1) = n := by
        rcases hv with q | q
        · exact q
        · exact absurd q.1 (by simp)
      rw [List.length_cons] at hN
      have yt := s2.1
      have er := z.1.2.2.2.2
      have hj : (lgI ((mGl h 138 (1300 * d + v6)) &&& (68719476736 : Int64)) (0 : Int64) = 0) ↔ mk = false := by
        obtain ⟨s, g', q1, -⟩ := yt
        rw [lg_eq, q1.jn]
        unfold mB
        cases mk <;> simp
      have e0 : cmL (f + 1) (d : Int) ((1300 * d : Nat) : Int) v3 (acc.length : Int) (v6 : Int) h = F_M_comeIn_65 (cmL f) (d : Int) ((1300 * d : Nat) : Int) v3 (acc.length : Int) (v6 : Int) (mGl h 138 (1300 * d + v6)) (bI mk) h := by
        rw [cmL_s, F_M_comeIn_20_b, gd_b (by omega) (by omega), Int.toNat_natCast, z.2.2.2.2.2, if_neg (by omega), er, if_pos rfl, gd_rg (by omega) (by omega), gd_b (by omega) (by omega), show (((1300 * d : Nat) : Int) + (v6 : Int)).toNat = 1300 * d + v6 by omega]
        cases mk with
        | false => rw [if_pos (hj.mpr rfl)]; rfl
        | true => rw [if_neg (fun q => absurd (hj.mp q) (by decide))]; rfl
      rw [e0]
      unfold F_M_comeIn_65
      -- the store and the next turn
      have e145 : ∀ (h1 : MH) (u : Nat) (x : Int64) (mk : Bool), u ≤ v6 → F_M_comeIn_145 (cmL f) (d : Int) ((1300 * d : Nat) : Int) v3 (u : Int) (v6 : Int) x (bI mk) h1 = cmL f (d : Int) ((1300 * d : Nat) : Int) v3 ((u + 1 : Nat) : Int) ((v6 + (if mk = true then 2 else 1) : Nat) : Int) (mPl h1 138 (1300 * d + u) x) := fun h1 u x mk hu => by
        unfold F_M_comeIn_145 F_M_comeIn_171
        rw [gd_rg (by omega) (by omega), gd_b (by omega) (by omega), show (((1300 * d : Nat) : Int) + (u : Int)).toNat = 1300 * d + u by omega]
        simp only [sto_e]
        rw [gd_rg (by omega) (by omega)]
        cases mk with
        | false =>
          rw [if_pos (show bI false = 0 from rfl), gd_rg (by omega) (by omega), gd_rg (by omega) (by omega), if_neg (show ¬ false = true by decide), show (v6 : Int) + 0 + 1 = ((v6 + 1 : Nat) : Int) by omega]
          rfl
        | true =>
          rw [if_neg (show ¬ bI true = 0 by decide), gd_rg (by omega) (by omega), gd_rg (by omega) (by omega), if_pos rfl, show (v6 : Int) + 1 + 1 = ((v6 + 2 : Nat) : Int) by omega]
          rfl
      cases mk with
      | false =>
        rw [if_pos (show bI false = 0 from rfl), e145 h acc.length _ false ha, if_neg (show ¬ false = true by decide), joinT]
        have F1 : FW noQ (fun b i => b = 138 ∧ 1300 * d ≤ i) h (mPl h 138 (1300 * d + acc.length) (mGl h 138 (1300 * d + v6))) := FW.pl FW.rf ⟨rfl, by omega⟩
        obtain ⟨F2, z2⟩ := z.fw F1 (fun b i q => q.elim) (fun b i q => q) (Nat.le_refl _) z.1.2.1 er
        have gi1 : ∀ b j, mGi (mPl h 138 (1300 * d + acc.length) (mGl h 138 (1300 * d + v6))) b j = mGi h b j := fun _ _ => rfl
        have i := ih rest f (v6 + 1) (mPl h 138 (1300 * d + acc.length) (mGl h 138 (1300 * d + v6))) md (acc ++ [t]) (by omega) (by omega) (.inl (by omega)) (by rw [List.length_append, List.length_singleton]; omega) (by rw [List.length_append, List.length_singleton]; omega) (by omega) z2 (by
          rw [um_app, RSg.app]
          refine ⟨RSg.cg (h := h) (fun j _ => gi1 121 j) (Nat.le_refl _) hM (fun j _ hj => by rw [um_len] at hj; rw [gl_pl, if_neg (by omega)]) s1, ?_, trivial⟩
          rw [um_len, gl_pl, if_pos ⟨rfl, rfl⟩]
          exact yt.cg (fun j _ => gi1 121 j) (Nat.le_refl _) hM) (RSg.cg (h := h) (fun j _ => gi1 121 j) (Nat.le_refl _) hM (fun j hj _ => by rw [gl_pl, if_neg (by omega)]) (by rw [← Nat.add_assoc]; exact s2.2)) (fun x hx => by
            rcases List.mem_append.mp hx with q | q
            · exact o1 x q
            · rw [List.mem_singleton.mp q]; exact o2 (t, false) List.mem_cons_self) (fun x hx => o2 x (List.mem_cons_of_mem _ hx))
        rw [List.length_append, List.length_singleton] at i
        refine ⟨fun e => ?_, fun e => ?_⟩
        · obtain ⟨h1, a1, a2, a3⟩ := i.1 e
          exact ⟨h1, a1, F2.tr a2 (Nat.le_refl _), a3⟩
        · obtain ⟨h1, x, hx, a1, a2, a3⟩ := i.2 e
          exact ⟨h1, x, hx, a1, XB.tr F2 a2 (Nat.le_refl _), a3⟩
      | true =>
        rw [if_neg (show ¬ bI true = 0 by decide)]
        -- the two sides
        have hA : ∃ vA mA, TR h (T + 2 + md) vA (acc.getLastD nTk) mA ∧ (if (acc.length : Int) ≤ 0 then F_M_comeIn_93 (cmL f) (d : Int) ((1300 * d : Nat) : Int) v3 (acc.length : Int) (v6 : Int) (bI true) v3 h else gd (inR (((1300 * d : Nat) : Int) + (acc.length : Int))) (gd (inR ((((1300 * d : Nat) : Int) + (acc.length : Int)) - (1 : Int))) (gd (0 ≤ ((((1300 * d : Nat) : Int) + (acc.length : Int)) - (1 : Int)) ∧ ((((1300 * d : Nat) : Int) + (acc.length : Int)) - (1 : Int)) < 10400) (F_M_comeIn_93 (cmL f) (d : Int) ((1300 * d : Nat) : Int) v3 (acc.length : Int) (v6 : Int) (bI true) (mGl h 138 ((((1300 * d : Nat) : Int) + (acc.length : Int)) - (1 : Int)).toNat) h)))) = F_M_comeIn_93 (cmL f) (d : Int) ((1300 * d : Nat) : Int) v3 (acc.length : Int) (v6 : Int) (bI true) vA h := by
          by_cases ca : acc = []
          · rw [ca]
            exact ⟨v3, false, ve h _ hM, by rw [if_pos (by decide)]⟩
          · have l1 := List.length_pos_iff.mpr ca
            refine ⟨mGl h 138 (1300 * d + (acc.length - 1)), false, ?_, ?_⟩
            · exact s1.get (j := acc.length - 1) (x := (acc.getLastD nTk, false)) (by
                unfold um
                rw [List.getElem?_map, gl_last ca]; rfl)
            · rw [if_neg (by omega), gd_rg (by omega) (by omega), gd_rg (by omega) (by omega), gd_b (by omega) (by omega), show ((((1300 * d : Nat) : Int) + (acc.length : Int)) - (1 : Int)).toNat = 1300 * d + (acc.length - 1) by omega]
        obtain ⟨vA, mA, yA, eA⟩ := hA
        rw [eA]
        unfold F_M_comeIn_93
        rw [gd_rg (by omega) (by omega), gd_b (by omega) (by omega), Int.toNat_natCast, z.2.2.2.2.2]
        have hB : ∃ vB, TR h (T + 2 + md) vB (rest.headD (nTk, false)).1 false ∧ (if (n : Int) ≤ ((v6 : Int) + (1 : Int)) then F_M_comeIn_125 (cmL f) (d : Int) ((1300 * d : Nat) : Int) v3 (acc.length : Int) (v6 : Int) (bI true) vA v3 h else gd (inR (((1300 * d : Nat) : Int) + (v6 : Int))) (gd (inR ((((1300 * d : Nat) : Int) + (v6 : Int)) + (1 : Int))) (gd (0 ≤ ((((1300 * d : Nat) : Int) + (v6 : Int)) + (1 : Int)) ∧ ((((1300 * d : Nat) : Int) + (v6 : Int)) + (1 : Int)) < 10400) (F_M_comeIn_125 (cmL f) (d : Int) ((1300 * d : Nat) : Int) v3 (acc.length : Int) (v6 : Int) (bI true) vA ((mGl h 138 ((((1300 * d : Nat) : Int) + (v6 : Int)) + (1 : Int)).toNat) &&& (-68719476737 : Int64)) h)))) = F_M_comeIn_125 (cmL f) (d : Int) ((1300 * d : Nat) : Int) v3 (acc.length : Int) (v6 : Int) (bI true) vA vB h := by
          cases hr : rest with
          | nil =>
            rw [hr, List.length_nil] at hv'
            exact ⟨v3, ve h _ hM, by rw [if_pos (by omega)]⟩
          | cons y r2 =>
            obtain ⟨tb, mb⟩ := y
            rw [hr, List.length_cons] at hv'
            have s3 := s2.2
            rw [hr] at s3
            refine ⟨(mGl h 138 (1300 * d + v6 + 1)) &&& (-68719476737 : Int64), s3.1.un, ?_⟩
            rw [if_neg (by omega), gd_rg (by omega) (by omega), gd_rg (by omega) (by omega), gd_b (by omega) (by omega), show ((((1300 * d : Nat) : Int) + (v6 : Int)) + (1 : Int)).toNat = 1300 * d + v6 + 1 by omega]
        obtain ⟨vB, yB, eB⟩ := hB
        rw [eB]
        have wA : tkW (acc.getLastD nTk) := tkW.last o1
        have wB : tkW (rest.headD (nTk, false)).1 := by
          cases rest with
          | nil => exact tkW_n
          | cons y r2 => exact o2 y (List.mem_cons_of_mem _ List.mem_cons_self)
        obtain ⟨h1, x, j1, j2, j3, j4, j5, j6⟩ := m_joined z.1.2.1 er yA yB wA wB
        have ejX : (acc.getLastD nTk).2.1 ++ (rest.headD (nTk, false)).1.2.1 = jX acc rest := rfl
        rw [ejX] at j3 j4 j5 j6
        have hdl : acc.dropLast.length = acc.length - 1 := List.length_dropLast
        have e125 : F_M_comeIn_125 (cmL f) (d : Int) ((1300 * d : Nat) : Int) v3 (acc.length : Int) (v6 : Int) (bI true) vA vB h = cmL f (d : Int) ((1300 * d : Nat) : Int) v3 ((acc.dropLast.length + 1 : Nat) : Int) ((v6 + 2 : Nat) : Int) (mPl h1 138 (1300 * d + acc.dropLast.length) x) := by
          unfold F_M_comeIn_125 F_M_comeIn_142
          rw [j1, bnd_l]
          have q := e145 h1 acc.dropLast.length x true (by omega)
          rw [if_pos rfl] at q
          by_cases ca : acc.length = 0
          · rw [if_pos (by omega), gd_rg (by omega) (by omega), show (acc.length : Int) - 0 = ((acc.dropLast.length : Nat) : Int) by omega]
            exact q
          · rw [if_neg (by omega), gd_rg (by omega) (by omega), show (acc.length : Int) - 1 = ((acc.dropLast.length : Nat) : Int) by omega]
            exact q
        rw [e125, joinT_t]
        have hal : acc.dropLast.length + 1 ≤ n := by omega
        have F1 : FW (pJ (T + 2 + md)) (fun b i => b = 138 ∧ 1300 * d ≤ i) h (mPl h1 138 (1300 * d + acc.dropLast.length) x) := FW.pl (j2.sub (fun _ _ q => q) (fun _ _ q => q.elim)) ⟨rfl, by omega⟩
        have FX : RX2 d (T + 2 + md) h (mPl h1 138 (1300 * d + acc.dropLast.length) x) := RX2.mk F1 (fun b i q => by unfold pJ at q; unfold pX; omega) (fun b i q => by unfold qX; omega)
        -- it has failed
        have bad : ∀ why : Nat, why ≠ 0 → mGi h1 107 1 = (why : Int) → ∃ h' y, y ≤ n ∧ cmL f (d : Int) ((1300 * d : Nat) : Int) v3 ((acc.dropLast.length + 1 : Nat) : Int) ((v6 + 2 : Nat) : Int) (mPl h1 138 (1300 * d + acc.dropLast.length) x) = F_M_comeIn_180 (d : Int) ((1300 * d : Nat) : Int) (y : Int) h' ∧ XB d (T + 2 + md) h h' why rp ∧ mGi h' 140 d = (R.length : Int) := fun why hw e => by
          refine ⟨mPl h1 138 (1300 * d + acc.dropLast.length) x, acc.dropLast.length + 1, hal, ?_, ⟨FX, e, ?_, z.1.2.2.2.1⟩, ?_⟩
          · obtain ⟨f, rfl⟩ : ∃ g, f = g + 1 := ⟨f - 1, by omega⟩
            have e1 : mGi (mPl h1 138 (1300 * d + acc.dropLast.length) x) 107 1 ≠ 0 := by rw [gi_pl, e]; omega
            rw [cmL_s, F_M_comeIn_20_b, gd_b (by omega) (by omega)]
            split
            · rfl
            · first | rfl | rw [if_neg e1]
          · rw [F1.2.2.1 107 28 (by unfold pJ; omega)]; exact z.1.2.2.1
          · rw [F1.2.2.1 140 d (by unfold pJ; omega)]; exact z.2.2.2.1.1
        -- it goes on
        have good : ∀ (nt : Tk) (md' : Nat), md ≤ md' → mGi h1 107 1 = 0 → PlR h1 T md' → TR h1 (T + 2 + md') x nt false → tkW nt → ∀ J : RT (List Tk), J = joinT rp md' (acc.dropLast ++ [nt]) rest.tail →
            (J.1 = 0 → ∃ h', cmL f (d : Int) ((1300 * d : Nat) : Int) v3 ((acc.dropLast.length + 1 : Nat) : Int) ((v6 + 2 : Nat) : Int) (mPl h1 138 (1300 * d + acc.dropLast.length) x) = F_M_comeIn_180 (d : Int) ((1300 * d : Nat) : Int) (J.2.2.2.length : Int) h' ∧ RX2 d (T + 2 + md) h h' ∧ md ≤ J.2.2.1 ∧ CB nm T d h' rp J.2.2.1 g R dn n ∧ RSg h' (T + 2 + J.2.2.1) 138 (1300 * d) (um J.2.2.2) ∧ (∀ t ∈ J.2.2.2, tkW t) ∧ J.2.2.2.length ≤ n) ∧
            (J.1 ≠ 0 → ∃ h' y, y ≤ n ∧ cmL f (d : Int) ((1300 * d : Nat) : Int) v3 ((acc.dropLast.length + 1 : Nat) : Int) ((v6 + 2 : Nat) : Int) (mPl h1 138 (1300 * d + acc.dropLast.length) x) = F_M_comeIn_180 (d : Int) ((1300 * d : Nat) : Int) (y : Int) h' ∧ XB d (T + 2 + md) h h' J.1 rp ∧ mGi h' 140 d = (R.length : Int)) := by
          intro nt md' hm er1 p1 y1 w1 J hJ
          subst hJ
          obtain ⟨F2, z2⟩ := z.fw F1 (fun b i q => q) (fun b i q => q) hm p1 er1
          have hM' := z2.1.mx
          have ltl : rest.tail.length = rest.length - 1 := List.length_tail
          have i := ih rest.tail f (v6 + 2) (mPl h1 138 (1300 * d + acc.dropLast.length) x) md' (acc.dropLast ++ [nt]) (by omega) (by omega) (by
            by_cases cr : rest = []
            · right; rw [cr]; exact ⟨rfl, by rw [cr, List.length_nil] at hv'; omega⟩
            · left
              have := List.length_pos_iff.mpr cr
              omega) (by rw [List.length_append, List.length_singleton]; omega) (by rw [List.length_append, List.length_singleton]; omega) (by omega) z2 (by
            rw [um_app, RSg.app]
            refine ⟨RSg.cg (h := h) (fun j hj => F2.c121 hj) (by omega) hM' (fun j _ hj => by rw [um_len] at hj; rw [gl_pl, if_neg (by omega)]; exact j2.2.2.2 138 j id) s1.dl, ?_, trivial⟩
            rw [um_len, gl_pl, if_pos ⟨rfl, rfl⟩]
            exact y1.cg (fun j _ => rfl) (Nat.le_refl _) hM') (by
            have s3 : RSg h (T + 2 + md) 138 (1300 * d + (v6 + 2)) rest.tail := by
              have s3 := s2.2
              cases rest with
              | nil => trivial
              | cons y r2 => exact s3.2
            exact RSg.cg (h := h) (fun j hj => F2.c121 hj) (by omega) hM' (fun j hj _ => by rw [gl_pl, if_neg (by omega)]; exact j2.2.2.2 138 j id) s3) (fun t ht => by
              rcases List.mem_append.mp ht with q | q
              · exact o1 t (List.dropLast_subset _ q)
              · rw [List.mem_singleton.mp q]; exact w1) (fun y hy => o2 y (List.mem_cons_of_mem _ (List.mem_of_mem_tail hy)))
          rw [List.length_append, List.length_singleton] at i
          refine ⟨fun e => ?_, fun e => ?_⟩
          · obtain ⟨h2, a1, a2, a3, a4⟩ := i.1 e
            exact ⟨h2, a1, F2.tr a2 (by omega), by omega, a4⟩
          · obtain ⟨h2, y, hy, a1, a2, a3⟩ := i.2 e
            exact ⟨h2, y, hy, a1, XB.tr F2 a2 (by omega), a3⟩
        by_cases c9 : 900 < md + (jX acc rest).length
        · rw [if_pos c9]
          exact ⟨fun q => absurd q (show ¬ (1 : Nat) = 0 by decide), fun _ => bad 1 (by decide) (j3 c9)⟩
        rw [if_neg c9]
        by_cases c0 : jX acc rest = []
        · rw [if_pos c0]
          obtain ⟨q1, q2, q3⟩ := j4 (by omega) c0
          exact good nTk md (Nat.le_refl _) q1 q2 q3 tkW_n _ rfl
        rw [if_neg c0]
        by_cases c7 : (scn (jX acc rest)).2 ≠ (jX acc rest).length ∨ (scn (jX acc rest)).1 = 3
        · rw [if_pos c7]
          exact ⟨fun q => absurd q (show ¬ (7 : Nat) = 0 by decide), fun _ => bad 7 (by decide) (j5 (by omega) c0 c7)⟩
        · rw [if_neg c7]
          obtain ⟨q1, q2, q3, q4⟩ := j6 (by omega) c0 c7
          exact good _ _ (by omega) q1 q2 q3 q4 _ rfl
theorem m_comeR (hd : d < 8) (hg : hR g H) (z : UR nm T d h rp md k g pa R dn ar cm) (ok : ∀ x ∈ cm, tkW x.1) :
    ((joinT rp md [] cm).1 ≠ 0 → ∃ h', F_M_comeIn (d : Int) h = some (.inl (), h') ∧ XB d (T + 2 + md) h h' (joinT rp md [] cm).1 rp) ∧
    ((joinT rp md [] cm).1 = 0 → 100 < (hideT H (joinT rp md [] cm).2.2.2).length + R.length → ∃ h', F_M_comeIn (d : Int) h = some (.inl (), h') ∧ XB d (T + 2 + md) h h' 1 rp) ∧
    ((joinT rp md [] cm).1 = 0 → ¬ 100 < (hideT H (joinT rp md [] cm).2.2.2).length + R.length → ∃ h', F_M_comeIn (d : Int) h = some (.inl (), h') ∧ RX2 d (T + 2 + md) h h' ∧ md ≤ (joinT rp md [] cm).2.2.1 ∧ SR nm T d h' rp (joinT rp md [] cm).2.2.1 (hideT H (joinT rp md [] cm).2.2.2 ++ R) dn ∧ ∀ t ∈ hideT H (joinT rp md [] cm).2.2.2, tkW t) := by
  have zc := z.2.2.2.2.2.2.2.2
  have zb : CB nm T d h rp md g R dn cm.length := ⟨z.1, z.2.1, z.2.2.2.2.1, z.2.2.2.2.2.1, z.2.2.2.2.2.2.1, zc.1⟩
  have hRl := z.2.2.2.2.2.1.2.1
  unfold F_M_comeIn
  rw [gd_rg (by omega) (by omega)]
  unfold F_M_token
  rw [bnd_l]
  have ve : ∀ (h : MH) (M : Nat), M ≤ 1302 → TR h M (((((Int32.ofInt (0 : Int)).toInt64) ||| (((Int32.ofInt (0 : Int)).toInt64) <<< ((Int32.ofInt (12 : Int)).toInt64 &&& 63))) ||| (((Int32.ofInt (5 : Int)).toInt64) <<< ((Int32.ofInt (24 : Int)).toInt64 &&& 63))) ||| (((Int32.ofInt (0 : Int)).toInt64) <<< ((Int32.ofInt (28 : Int)).toInt64 &&& 63))) nTk false := fun h M hM => ⟨0, 0, isR.mk (k := 5) (s := 0) (n := 0) (g := 0) (by decide) (by decide) (by decide) (by decide), hR_0, trivial, Nat.zero_le _, hM⟩
  obtain ⟨i1, i2⟩ := jn_r (rp := rp) hd zc.2.1 ve cm.length cm FU 0 h md [] (Nat.le_refl _) (by have := zc.2.1; unfold FU; omega) (.inl (by omega)) (by simp) (by simp) (by omega) zb trivial zc.2.2 (fun t ht => absurd ht List.not_mem_nil) ok
  have e0 : ∀ x : RS Unit, cmL FU (d : Int) ((1300 * d : Nat) : Int) (((((Int32.ofInt (0 : Int)).toInt64) ||| (((Int32.ofInt (0 : Int)).toInt64) <<< ((Int32.ofInt (12 : Int)).toInt64 &&& 63))) ||| (((Int32.ofInt (5 : Int)).toInt64) <<< ((Int32.ofInt (24 : Int)).toInt64 &&& 63))) ||| (((Int32.ofInt (0 : Int)).toInt64) <<< ((Int32.ofInt (28 : Int)).toInt64 &&& 63))) (([] : List Tk).length : Int) ((0 : Nat) : Int) h = x → F_M_comeIn_20 (d : Int) ((1300 : Int) * (d : Int)) (((((Int32.ofInt (0 : Int)).toInt64) ||| (((Int32.ofInt (0 : Int)).toInt64) <<< ((Int32.ofInt (12 : Int)).toInt64 &&& 63))) ||| (((Int32.ofInt (5 : Int)).toInt64) <<< ((Int32.ofInt (24 : Int)).toInt64 &&& 63))) ||| (((Int32.ofInt (0 : Int)).toInt64) <<< ((Int32.ofInt (28 : Int)).toInt64 &&& 63))) 0 0 h = x := fun x hx => by
    rw [show (1300 : Int) * (d : Int) = ((1300 * d : Nat) : Int) by omega]
    exact hx
  -- hidden and pushed
  have main : (joinT rp md [] cm).1 = 0 → ∃ h2, F_M_comeIn_20 (d : Int) ((1300 : Int) * (d : Int)) (((((Int32.ofInt (0 : Int)).toInt64) ||| (((Int32.ofInt (0 : Int)).toInt64) <<< ((Int32.ofInt (12 : Int)).toInt64 &&& 63))) ||| (((Int32.ofInt (5 : Int)).toInt64) <<< ((Int32.ofInt (24 : Int)).toInt64 &&& 63))) ||| (((Int32.ofInt (0 : Int)).toInt64) <<< ((Int32.ofInt (28 : Int)).toInt64 &&& 63))) 0 0 h = (if (100 : Int) < (R.length : Int) + ((hideT H (joinT rp md [] cm).2.2.2).length : Int) then F_M_comeIn_274 (d : Int) ((1300 * d : Nat) : Int) ((hideT H (joinT rp md [] cm).2.2.2).length : Int) 0 h2 else F_M_comeIn_274 (d : Int) ((1300 * d : Nat) : Int) ((hideT H (joinT rp md [] cm).2.2.2).length : Int) 1 h2) ∧ RX2 d (T + 2 + md) h h2 ∧ md ≤ (joinT rp md [] cm).2.2.1 ∧ CB nm T d h2 rp (joinT rp md [] cm).2.2.1 g R dn cm.length ∧ RSg h2 (T + 2 + (joinT rp md [] cm).2.2.1) 138 (1300 * d) (um (hideT H (joinT rp md [] cm).2.2.2)) ∧ ∀ t ∈ hideT H (joinT rp md [] cm).2.2.2, tkW t := by
    intro e
    obtain ⟨h1, a1, a2, a3, a4, a5, a6, a7⟩ := i1 e
    have hn := zc.2.1
    obtain ⟨h2, b1, b2, b3⟩ := ml_l (n := (joinT rp md [] cm).2.2.2.length) hd (by omega) a4.1.mx hg (joinT rp md [] cm).2.2.2 FU 0 h1 [] (by unfold FU; omega) (by omega) (by simp) a4.2.2.1 trivial a5 a6
    rw [List.nil_append] at b2 b3
    obtain ⟨F2, z2⟩ := a4.fw (b1.sub (fun _ _ q => q) (fun _ _ q => q)) (fun b i q => q.elim) (fun b i q => q) (Nat.le_refl _) ⟨(b1.2.2.1 107 24 id).trans a4.1.2.1.1, (b1.2.2.1 107 25 id).trans a4.1.2.1.2.1, a4.1.2.1.2.2⟩ ((b1.2.2.1 107 1 id).trans a4.1.2.2.2.2)
    refine ⟨h2, ?_, a2.tr F2 (by omega), a3, z2, b3, hide_W a6⟩
    refine e0 _ (a1.trans ?_)
    unfold F_M_comeIn_180
    refine Eq.trans b2 ?_
    have hl := hideT_len (H := H) (joinT rp md [] cm).2.2.2
    rw [mlL_s, F_M_comeIn_186_b, if_pos (by omega), gd_b (by omega) (by omega), Int.toNat_natCast, z2.2.2.2.1.1, gd_rg (by omega) (by omega)]
  refine ⟨fun e => ?_, fun e c => ?_, fun e c => ?_⟩
  · obtain ⟨h1, x, hx, a1, a2, a3⟩ := i2 e
    have hn := zc.2.1
    obtain ⟨h2, b1, b2, b3, b4⟩ := ml_bad (C := T + 2 + md) (y := ((joinT rp md [] cm).1 : Int)) hd (n := x) (by omega) (by omega) x FU 0 0 h1 (by unfold FU; omega) (by omega) (Nat.le_refl _) a2.2.1 (by rw [a3]; omega) (by rw [a3]; omega)
    exact ⟨h2, e0 _ (a1.trans b1), a2.1.tr b2 (Nat.le_refl _), b3, b4.trans a2.2.2.1, a2.2.2.2⟩
  · obtain ⟨h2, a1, a2, a3, a4, -⟩ := main e
    rw [a1, if_pos (by omega)]
    unfold F_M_comeIn_274
    rw [gd_01a, need_0 a4.1.2.2.2.2 (by decide), bnd_l, if_pos rfl]
    exact ⟨_, rfl, XB.tr a2 (XB.one (why := 1) a4.1) (Nat.le_refl _)⟩
  · obtain ⟨h2, a1, a2, a3, a4, a5, a6⟩ := main e
    rw [a1, if_neg (by omega)]
    unfold F_M_comeIn_274
    rw [gd_01b, need_1 a4.1.2.2.2.2, bnd_l, if_neg (by decide)]
    have zt := a4.2.2.2.1
    have hM2 := a4.1.mx
    obtain ⟨h3, b1, b2, b3, b4, b5⟩ := pu_l (r := R.length) hd hM2 (hideT H (joinT rp md [] cm).2.2.2) [] FU h2 (by unfold FU; omega) (by rw [List.length_nil]; omega) zt.1 a5 trivial
    rw [List.length_nil, Nat.zero_add] at b1 b4
    rw [List.nil_append] at b3
    have F3 : RX2 d (T + 2 + (joinT rp md [] cm).2.2.1) h2 h3 := RX2.mk b2 (fun b i q => by unfold pX; omega) (fun b i q => by unfold qX; omega)
    have gi : ∀ b i, b ≠ 140 → b ≠ 144 → mGi h3 b i = mGi h2 b i := fun b i q1 q2 => b2.2.2.1 b i (by omega)
    have e121 : ∀ j, j < T + 2 + (joinT rp md [] cm).2.2.1 → mGi h3 121 j = mGi h2 121 j := fun j _ => gi 121 j (by decide) (by decide)
    refine ⟨h3, b1, a2.tr F3 (by omega), a3, ⟨a4.1.fx F3 (Nat.le_refl _) (Nat.le_refl _) ⟨(gi 107 24 (by decide) (by decide)).trans a4.1.2.1.1, (gi 107 25 (by decide) (by decide)).trans a4.1.2.1.2.1, a4.1.2.1.2.2⟩ ((gi 107 28 (by decide) (by decide)).trans a4.1.2.2.1) a4.1.2.2.2.1 ((gi 107 1 (by decide) (by decide)).trans a4.1.2.2.2.2), (gi 107 48 (by decide) (by decide)).trans a4.2.1, b5, ⟨by rw [b4, List.length_append]; omega, by rw [List.length_append]; omega, ?_⟩, a4.2.2.2.2.1.cg2 e121 (Nat.le_refl _) hM2 (gi 141 d (by decide) (by decide)) (fun j => b2.2.2.2 136 j (by omega))⟩, a6⟩
    rw [List.reverse_append, um_app, RSg.app, um_len, List.length_reverse]
    exact ⟨RSg.cg (h := h2) e121 (Nat.le_refl _) hM2 (fun j _ hj => b2.2.2.2 135 j (by rw [um_len, List.length_reverse] at hj; omega)) zt.2.2, b3⟩
end Re
