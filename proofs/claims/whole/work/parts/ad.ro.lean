/-! the reference expands a row, whole -/
section Ro
variable {h h' h'' : MH} {M T d D C c p n : Nat} {v v3 : Int64} {t a b : Tk} {nm : Nm} {rp md rp' md' : Nat} {k g pa : Nat} {R dn l w : List Tk} {ar : List (List Tk)} {cm : List (Tk × Bool)} {q : NmD} {X : Nat → Nat → List Tk → RT (List Tk)} {H : Hd}
theorem le_a {n1 x y z : Nat} (a : n1 + x ≤ z + y) (hz : z ≤ 1224) : n1 + 2 + x ≤ 1226 + y := by omega
theorem le_b {n1 x y z : Nat} (a : n1 + x ≤ z + y) (hz : z ≤ 1224) : n1 + 1 + x ≤ 1225 + y := by omega
theorem le_c {n1 x y z : Nat} (a : n1 + x ≤ z + 2 + y) (hz : z ≤ 1224) : n1 + x ≤ 1226 + y := by omega
theorem rep_r (N : nmW nm) (HX : HXr nm T d X) (hd : d < 8) (hk : k < 8) (hq : nm k = some q) (hpa : (q.2.1.getD []).length ≤ ar.length) (hW : ∀ a ∈ ar, ∀ t ∈ a, tkW t) (hR' : ∀ t ∈ R, tkW t) (h4 : rp < 400) (hg : hR g (orH H fun i => decide (i = k))) (z : UR nm T d h (rp + 1) md k g 0 R dn ar []) :
    ((repS X k q H ar rp md R).1 = 0 → ∃ n h', RE n h h' ∧ RX2 d (T + 2 + md) h h' ∧ md ≤ (repS X k q H ar rp md R).2.2.1 ∧ SR nm T d h' (repS X k q H ar rp md R).2.1 (repS X k q H ar rp md R).2.2.1 (repS X k q H ar rp md R).2.2.2 dn ∧ (∀ t ∈ (repS X k q H ar rp md R).2.2.2, tkW t) ∧ n + 2000 * (rp + 1) ≤ 1225 + 2000 * (repS X k q H ar rp md R).2.1) ∧
    ((repS X k q H ar rp md R).1 ≠ 0 → ∃ n h', RF n h h' ∧ XB d (T + 2 + md) h h' (repS X k q H ar rp md R).1 (repS X k q H ar rp md R).2.1 ∧ n + 2000 * (rp + 1) ≤ 1226 + 2000 * (repS X k q H ar rp md R).2.1) := by
  have n3 := (N k hk q hq).2.2.1
  have s := su_r N HX hk hq hd hpa hW q.2.2.length q.2.2 0 h (rp + 1) md [] false (Nat.le_refl _) rfl (by omega) rfl z (fun x hx => absurd hx List.not_mem_nil) (by rw [List.length_nil]; omega)
  have h12 : 102 * q.2.2.length ≤ 1224 := by omega
  unfold repS
  rw [if_neg (show ¬ 400 ≤ rp by omega)]
  have hS : ∃ S, S = subT X (q.2.1.getD []) ar false (rp + 1) md [] q.2.2 := ⟨_, rfl⟩
  obtain ⟨S, hS⟩ := hS
  rw [← hS] at s ⊢
  by_cases c1 : S.1 = 0
  · rw [if_neg (show ¬ S.1 ≠ 0 from fun q => q c1)]
    obtain ⟨n1, h1, a1, a2, a3, a4, a5, a6⟩ := s.1 c1
    have hrp : (joinT S.2.1 S.2.2.1 [] S.2.2.2).2.1 = S.2.1 := joinT_rp S.2.2.2.length S.2.2.2 _ _ _ (Nat.le_refl _)
    obtain ⟨m1, m2, m3⟩ := m_comeR hd hg a4 a5
    obtain ⟨sc1, sc2⟩ := st_com hd hk hq a4 (Nat.le_refl _)
    by_cases c2 : (joinT S.2.1 S.2.2.1 [] S.2.2.2).1 = 0
    · rw [if_neg (show ¬ (joinT S.2.1 S.2.2.1 [] S.2.2.2).1 ≠ 0 from fun q => q c2)]
      by_cases c3 : 100 < (hideT (orH H fun i => decide (i = k)) (joinT S.2.1 S.2.2.1 [] S.2.2.2).2.2.2).length + R.length
      · rw [if_pos c3, hrp]
        obtain ⟨h2, b1, b2⟩ := m2 c2 c3
        exact ⟨fun q => absurd q (show ¬ (1 : Nat) = 0 by decide), fun _ => ⟨n1 + 2, h2, a1.fl (sc2 h2 b1 (by rw [b2.2.1]; decide)), XB.tr a2 b2 (by omega), le_a a6 h12⟩⟩
      · rw [if_neg c3, hrp]
        obtain ⟨h2, b1, b2, b3, b4, b5⟩ := m3 c2 c3
        refine ⟨fun _ => ⟨n1 + 1, h2, a1.tr (sc1 h2 b1 b4.1.2.2.2.2), a2.tr b2 (by omega), Nat.le_trans a3 b3, b4, ?_, le_b a6 h12⟩, fun q => absurd rfl q⟩
        intro t ht
        rcases List.mem_append.mp ht with q | q
        · exact b5 t q
        · exact hR' t q
    · rw [if_pos c2, hrp]
      obtain ⟨h2, b1, b2⟩ := m1 c2
      exact ⟨fun q => absurd q c2, fun _ => ⟨n1 + 2, h2, a1.fl (sc2 h2 b1 (by rw [b2.2.1]; omega)), XB.tr a2 b2 (by omega), le_a a6 h12⟩⟩
  · rw [if_pos c1]
    obtain ⟨n1, h1, a1, a2, a3⟩ := s.2 c1
    exact ⟨fun q => absurd q c1, fun _ => ⟨n1, h1, a1, a2, le_c a3 h12⟩⟩
theorem cutA_mem {P : Tk → Prop} : ∀ (rest : List Tk) (o : Nat) (cu : List Tk) (ar : List (List Tk)) (ar' : List (List Tk)) (cl : Tk) (r' : List Tk), cutA o cu ar rest = some (ar', cl, r') → (∀ a ∈ ar, ∀ t ∈ a, P t) → (∀ t ∈ cu, P t) → (∀ t ∈ rest, P t) → (∀ a ∈ ar', ∀ t ∈ a, P t) ∧ ∀ t ∈ r', P t := by
  intro rest
  induction rest with
  | nil => intro o cu ar ar' cl r' e; cases e
  | cons t rest ih =>
    intro o cu ar ar' cl r' e ha hc hr
    have hr' : ∀ x ∈ rest, P x := fun x hx => hr x (List.mem_cons_of_mem _ hx)
    have ht := hr t List.mem_cons_self
    have hct : ∀ x ∈ cu ++ [t], P x := fun x hx => by
      rcases List.mem_append.mp hx with q | q
      · exact hc x q
      · rw [List.mem_singleton.mp q]; exact ht
    have hac : ∀ a ∈ ar ++ [cu], ∀ t ∈ a, P t := fun a q => by
      rcases List.mem_append.mp q with q | q
      · exact ha a q
      · rw [List.mem_singleton.mp q]; exact hc
    rw [cutA] at e
    by_cases c1 : isSg t 40 = true
    · rw [if_pos c1] at e
      by_cases c0 : o = 0
      · rw [if_pos c0] at e
        exact ih _ _ _ _ _ _ e ha hc hr'
      · rw [if_neg c0] at e
        exact ih _ _ _ _ _ _ e ha hct hr'
    rw [if_neg c1] at e
    by_cases c2 : isSg t 41 = true
    · rw [if_pos c2] at e
      by_cases c0 : o ≤ 1
      · rw [if_pos c0] at e
        cases e
        exact ⟨hac, hr'⟩
      · rw [if_neg c0] at e
        exact ih _ _ _ _ _ _ e ha hct hr'
    rw [if_neg c2] at e
    by_cases c3 : isSg t 44 = true ∧ o = 1
    · rw [if_pos c3] at e
      exact ih _ _ _ _ _ _ e hac (fun x hx => absurd hx List.not_mem_nil) hr'
    · rw [if_neg c3] at e
      exact ih _ _ _ _ _ _ e ha hct hr'
theorem callT_W {H : Hd} {r' : List Tk} (e : callT nm t w = some (some (k, q, H, ar, r'))) (hw : ∀ t ∈ w, tkW t) : (q.2.1.getD []).length ≤ ar.length ∧ (∀ a ∈ ar, ∀ t ∈ a, tkW t) ∧ ∀ t ∈ r', tkW t := by
  unfold callT at e
  cases hfn : (if t.1 = 1 then fnd nm t.2.1 else none) with
  | none => rw [hfn] at e; cases e
  | some k' =>
    rw [hfn] at e
    dsimp only at e
    cases hq : nm k' with
    | none => rw [hq] at e; cases e
    | some q' =>
      rw [hq] at e
      dsimp only at e
      by_cases c1 : t.2.2 k' = true
      · rw [if_pos c1] at e; cases e
      rw [if_neg c1] at e
      cases hps : q'.2.1 with
      | none =>
        rw [hps] at e
        cases e
        rw [hps]
        exact ⟨Nat.le_refl _, fun a ha => absurd ha List.not_mem_nil, hw⟩
      | some ps =>
        rw [hps] at e
        dsimp only at e
        cases w with
        | nil => cases e
        | cons c w =>
          dsimp only at e
          by_cases c2 : isSg c 40 = true
          · rw [if_pos c2] at e
            cases hcu : cutA 0 [] [] (c :: w) with
            | none => rw [hcu] at e; cases e
            | some y =>
              obtain ⟨ar1, cl, r1⟩ := y
              rw [hcu] at e
              dsimp only at e
              by_cases c3 : arOk ps ar1 = true
              · rw [if_pos c3] at e
                cases e
                have m := cutA_mem (P := tkW) (c :: w) 0 [] [] ar cl r' hcu (fun a ha => absurd ha List.not_mem_nil) (fun a ha => absurd ha List.not_mem_nil) hw
                refine ⟨?_, m⟩
                rw [hps]
                show ps.length ≤ ar.length
                unfold arOk at c3
                by_cases cp : ps = []
                · rw [cp]; exact Nat.zero_le _
                · rw [if_neg cp] at c3
                  have := of_decide_eq_true c3
                  omega
              · rw [if_neg c3] at e; cases e
          · rw [if_neg c2] at e; cases e
theorem st_r (N : nmW nm) (HX : HXr nm T d X) (hX : ∀ rp md a, rp ≤ (X rp md a).2.1) (hd : d < 8) (z : SR nm T d h rp md (t :: w) dn) (ow : ∀ t' ∈ t :: w, tkW t') (od : ∀ t ∈ dn, tkW t) :
    ((stpT nm X rp md t w dn).1 = 0 → ∃ n h', RE n h h' ∧ RX2 d (T + 2 + md) h h' ∧ md ≤ (stpT nm X rp md t w dn).2.2.1 ∧ SR nm T d h' (stpT nm X rp md t w dn).2.1 (stpT nm X rp md t w dn).2.2.1 (stpT nm X rp md t w dn).2.2.2.1 (stpT nm X rp md t w dn).2.2.2.2 ∧ (∀ t' ∈ (stpT nm X rp md t w dn).2.2.2.1, tkW t') ∧ (∀ t' ∈ (stpT nm X rp md t w dn).2.2.2.2, tkW t') ∧ n + dn.length + 2000 * rp ≤ (stpT nm X rp md t w dn).2.2.2.2.length + 2000 * (stpT nm X rp md t w dn).2.1 ∧ (100 - (stpT nm X rp md t w dn).2.2.2.2.length) + (400 - (stpT nm X rp md t w dn).2.1) + 1 ≤ (100 - dn.length) + (400 - rp)) ∧
    ((stpT nm X rp md t w dn).1 ≠ 0 → ∃ n h', RF n h h' ∧ XB d (T + 2 + md) h h' (stpT nm X rp md t w dn).1 (stpT nm X rp md t w dn).2.1 ∧ n + dn.length + 2000 * rp ≤ 102 + 2000 * (stpT nm X rp md t w dn).2.1) := by
  have hdn := z.2.2.2.2.2.1
  have hrp4 := z.1.2.2.2.1
  have ow' : ∀ x ∈ w, tkW x := fun x hx => ow x (List.mem_cons_of_mem _ hx)
  have ot := ow t List.mem_cons_self
  obtain ⟨m1, m2, m3⟩ := m_scan N hd z
  obtain ⟨s1, s2, -⟩ := st_scan hd z
  cases hc : callT nm t w with
  | none =>
    have e : stpT nm X rp md t w dn = if 100 ≤ dn.length then (1, rp, md, [], dn) else (0, rp, md, w, dn ++ [t]) := by unfold stpT; rw [hc]
    rw [e]
    obtain ⟨b1, b2⟩ := m1 hc
    by_cases c1 : 100 ≤ dn.length
    · rw [if_pos c1]
      have xb : XB d (T + 2 + md) h (mPi h 107 1 1) 1 rp := XB.one (why := 1) z.1
      exact ⟨fun q => absurd q (show ¬ (1 : Nat) = 0 by decide), fun _ => ⟨2, _, s2 _ (b1 c1) (by rw [gi_s]; decide), xb, by show 2 + dn.length + 2000 * rp ≤ 102 + 2000 * rp; omega⟩⟩
    · rw [if_neg c1]
      obtain ⟨h1, a1, a2, a3⟩ := b2 (by omega)
      have hl : (dn ++ [t]).length = dn.length + 1 := by rw [List.length_append, List.length_singleton]
      refine ⟨fun _ => ⟨1, h1, s1 h1 a1 a3.1.2.2.2.2, a2, Nat.le_refl _, a3, ow', fun x hx => ?_, ?_, ?_⟩, fun q => absurd rfl q⟩
      · rcases List.mem_append.mp hx with q | q
        · exact od x q
        · rw [List.mem_singleton.mp q]; exact ot
      · show 1 + dn.length + 2000 * rp ≤ (dn ++ [t]).length + 2000 * rp
        rw [hl]; omega
      · show (100 - (dn ++ [t]).length) + (400 - rp) + 1 ≤ (100 - dn.length) + (400 - rp)
        rw [hl]; omega
  | some y =>
    cases y with
    | none =>
      have e : stpT nm X rp md t w dn = (8, rp, md, [], dn) := by unfold stpT; rw [hc]
      rw [e]
      obtain ⟨h1, a1, a2⟩ := m2 hc
      exact ⟨fun q => absurd q (show ¬ (8 : Nat) = 0 by decide), fun _ => ⟨2, h1, s2 h1 a1 (by rw [a2.2.1]; decide), a2, by show 2 + dn.length + 2000 * rp ≤ 102 + 2000 * rp; omega⟩⟩
    | some y =>
      obtain ⟨k, q, H, ar, r'⟩ := y
      have e : stpT nm X rp md t w dn = ((repS X k q H ar rp md r').1, (repS X k q H ar rp md r').2.1, (repS X k q H ar rp md r').2.2.1, (repS X k q H ar rp md r').2.2.2, dn) := by unfold stpT; rw [hc]
      rw [e]
      obtain ⟨b1, b2⟩ := m3 k q H ar r' hc
      obtain ⟨hk, hq⟩ := callT_s hc
      obtain ⟨w1, w2, w3⟩ := callT_W hc ow'
      by_cases c4 : 400 ≤ rp
      · have e : repS X k q H ar rp md r' = (2, rp, md, []) := by
          unfold repS
          rw [if_pos c4]
        rw [e]
        obtain ⟨h1, a1, a2⟩ := b1 c4
        exact ⟨fun q => absurd q (show ¬ (2 : Nat) = 0 by decide), fun _ => ⟨2, h1, s2 h1 a1 (by rw [a2.2.1]; decide), a2, by show 2 + dn.length + 2000 * rp ≤ 102 + 2000 * rp; omega⟩⟩
      · obtain ⟨h1, g, a1, a2, a3, a4⟩ := b2 (by omega)
        have r1 := s1 h1 a1 a4.1.2.2.2.2
        obtain ⟨p1, p2⟩ := rep_r N HX hd hk hq w1 w2 w3 (by omega) a2 a4
        have hmo := repS_rp (k := k) (q := q) (H := H) (R := r') (rp := rp) (md := md) (ar := ar) (Xs := X) hX (N k hk q hq).1.ne
        have hS : ∃ S, S = repS X k q H ar rp md r' := ⟨_, rfl⟩
        obtain ⟨S, hS⟩ := hS
        rw [← hS] at p1 p2 hmo ⊢
        refine ⟨fun c0 => ?_, fun c0 => ?_⟩
        · obtain ⟨n1, h2, c1, c2, c3, c5, c6, c7⟩ := p1 c0
          have hlt := hmo.2 c0
          have h4' := c5.1.2.2.2.1
          refine ⟨1 + n1, h2, r1.tr c1, a3.tr c2 (Nat.le_refl _), c3, c5, c6, od, ?_, ?_⟩
          · show 1 + n1 + dn.length + 2000 * rp ≤ dn.length + 2000 * S.2.1
            omega
          · show (100 - dn.length) + (400 - S.2.1) + 1 ≤ (100 - dn.length) + (400 - rp)
            omega
        · obtain ⟨n1, h2, c1, c2, c3⟩ := p2 c0
          exact ⟨1 + n1, h2, r1.fl c1, XB.tr a3 c2 (Nat.le_refl _), by show 1 + n1 + dn.length + 2000 * rp ≤ 102 + 2000 * S.2.1; omega⟩
theorem lo_r (N : nmW nm) : ∀ (f d rp md : Nat) (w dn : List Tk) (h : MH), d < 8 → 502 * (8 - d) + (100 - dn.length) + (400 - rp) + 1 ≤ f → SR nm T d h rp md w dn → (∀ t ∈ w, tkW t) → (∀ t ∈ dn, tkW t) →
    ((expT nm f d rp md w dn).1 = 0 → ∃ n h', RE n h h' ∧ RX2 d (T + 2 + md) h h' ∧ md ≤ (expT nm f d rp md w dn).2.2.1 ∧ SR nm T d h' (expT nm f d rp md w dn).2.1 (expT nm f d rp md w dn).2.2.1 [] (expT nm f d rp md w dn).2.2.2 ∧ (∀ t ∈ (expT nm f d rp md w dn).2.2.2, tkW t) ∧ n + dn.length + 2000 * rp ≤ (expT nm f d rp md w dn).2.2.2.length + 2000 * (expT nm f d rp md w dn).2.1) ∧
    ((expT nm f d rp md w dn).1 ≠ 0 → ∃ n h', RF n h h' ∧ XB d (T + 2 + md) h h' (expT nm f d rp md w dn).1 (expT nm f d rp md w dn).2.1 ∧ n + dn.length + 2000 * rp ≤ 102 + 2000 * (expT nm f d rp md w dn).2.1) := by
  intro f
  induction f with
  | zero => intro d rp md w dn h hd hf; omega
  | succ f ih =>
    intro d rp md w dn h hd hf z ow od
    cases w with
    | nil =>
      rw [expT]
      exact ⟨fun _ => ⟨0, h, RE.rf, RX2.rf, Nat.le_refl _, z, od, by show 0 + dn.length + 2000 * rp ≤ dn.length + 2000 * rp; omega⟩, fun q => absurd rfl q⟩
    | cons t w =>
      have HX : HXr nm T d (inX nm f d) := by
        refine ⟨fun h7 rp md a => ?_, fun h7 h1 rp1 md1 a z1 oa => ?_⟩
        · unfold inX
          rw [if_pos (.inl h7)]
        · have e : inX nm f d rp1 md1 a = expT nm f (d + 1) rp1 md1 a [] := by
            unfold inX
            have := z1.2.2.2.1.2.1
            rw [if_neg (by omega)]
          rw [e]
          obtain ⟨i1, i2⟩ := ih (d + 1) rp1 md1 a [] h1 (by omega) (by rw [List.length_nil]; omega) z1 oa (fun t ht => absurd ht List.not_mem_nil)
          rw [List.length_nil] at i1 i2
          exact ⟨i1, i2⟩
      obtain ⟨m1, m2⟩ := st_r N HX (inX_rp N.ok) hd z ow od
      rw [expT_s]
      by_cases c0 : (stpT nm (inX nm f d) rp md t w dn).1 = 0
      · obtain ⟨n1, h1, r1, a2, a3, a4, a5, a6, a7, a8⟩ := m1 c0
        rw [if_pos c0]
        obtain ⟨i1, i2⟩ := ih d _ _ _ _ h1 hd (by omega) a4 a5 a6
        refine ⟨fun q => ?_, fun q => ?_⟩
        · obtain ⟨n, h3, e1, e2, e3, e4, e5, e6⟩ := i1 q
          exact ⟨n1 + n, h3, r1.tr e1, a2.tr e2 (by omega), by omega, e4, e5, by omega⟩
        · obtain ⟨n, h3, e1, e2, e3⟩ := i2 q
          exact ⟨n1 + n, h3, r1.fl e1, XB.tr a2 e2 (by omega), by omega⟩
      · obtain ⟨n1, h1, r1, a2, a3⟩ := m2 c0
        rw [if_neg c0]
        exact ⟨fun q => absurd q c0, fun _ => ⟨n1, h1, r1, a2, a3⟩⟩
/-! a row of the line -/
theorem m_expand (N : nmW nm) (z : CmR nm T h rp md) (hw : p + w.length ≤ 400) (s : RSg h (T + 2 + md) 123 p (um w)) (ow : ∀ t ∈ w, tkW t) :
    ((rowT nm rp md w).1 = 0 → ∃ h', F_M_expand (p : Int) ((p + w.length : Nat) : Int) h = some (.inl (), h') ∧ RX2 0 (T + 2 + md) h h' ∧ md ≤ (rowT nm rp md w).2.2.1 ∧ CmR nm T h' (rowT nm rp md w).2.1 (rowT nm rp md w).2.2.1 ∧ DnR h' (T + 2 + (rowT nm rp md w).2.2.1) 0 (rowT nm rp md w).2.2.2 ∧ ∀ t ∈ (rowT nm rp md w).2.2.2, tkW t) ∧
    ((rowT nm rp md w).1 ≠ 0 → ∃ h', F_M_expand (p : Int) ((p + w.length : Nat) : Int) h = some (.inl (), h') ∧ XB 0 (T + 2 + md) h h' (rowT nm rp md w).1 (rowT nm rp md w).2.1) := by
  have hr4 := z.2.2.2.1
  unfold F_M_expand F_M_expand_21
  rw [gd_rg (by omega) (by omega), show ((p + w.length : Nat) : Int) - (p : Int) = (w.length : Int) by omega]
  unfold rowT
  by_cases c1 : 100 < w.length
  · rw [if_pos c1]
    have e := m_nobegin (D := 0) (p := p) (.inr c1) z.2.2.2.2
    have e' : F_M_beginRow 0 (p : Int) (w.length : Int) h = some (.inl (), mPi h 107 1 1) := e
    have xb : XB 0 (T + 2 + md) h (mPi h 107 1 1) 1 rp := XB.one (why := 1) z
    rw [e', bnd_l, gi_s, if_neg (by decide)]
    refine ⟨fun q => absurd q (show ¬ (1 : Nat) = 0 by decide), fun _ => ⟨_, ?_, xb⟩⟩
    exact em_0 (f := 99999999)
  · rw [if_neg c1]
    obtain ⟨h1, a1, a2, a3⟩ := m_begin (D := 0) (c := 123) (p := p) (by decide) (by rw [if_pos rfl]) z (by omega) (by rw [if_pos rfl]; exact hw) s
    have a1' : F_M_beginRow 0 (p : Int) (w.length : Int) h = some (.inl (), h1) := a1
    rw [a1', bnd_l, a3.1.2.2.2.2, if_pos rfl]
    obtain ⟨i1, i2⟩ := lo_r N xF 0 rp md w [] h1 (by decide) (by unfold xF; rw [List.length_nil]; omega) a3 ow (fun t ht => absurd ht List.not_mem_nil)
    rw [List.length_nil] at i1 i2
    generalize expT nm xF 0 rp md w [] = E at *
    refine ⟨fun q => ?_, fun q => ?_⟩
    · obtain ⟨n, h2, e1, e2, e3, e4, e5, e6⟩ := i1 q
      have h4' := e4.1.2.2.2.1
      have hl := e4.2.2.2.2.2.1
      have fin := (st_scan (by decide) e4).2.2 _ (m_end e4)
      have F3 : RX2 0 (T + 2 + E.2.2.1) h2 (mPi h2 107 48 0) := FW.pi FW.rf (by unfold pX; omega)
      have gi : ∀ b i, ¬ (b = 107 ∧ i = 48) → mGi (mPi h2 107 48 0) b i = mGi h2 b i := fun b i hb => by rw [gi_pi, if_neg hb]
      refine ⟨mPi h2 107 48 0, ?_, (a2.tr e2 (Nat.le_refl _)).tr F3 (by omega), e3, e4.1.fx F3 (Nat.le_refl _) (Nat.le_refl _) ⟨(gi 107 24 (by omega)).trans e4.1.2.1.1, (gi 107 25 (by omega)).trans e4.1.2.1.2.1, e4.1.2.1.2.2⟩ ((gi 107 28 (by omega)).trans e4.1.2.2.1) e4.1.2.2.2.1 ((gi 107 1 (by omega)).trans e4.1.2.2.2.2), e4.2.2.2.2.cg2 (fun j _ => gi 121 j (by omega)) (Nat.le_refl _) e4.1.mx (gi 141 0 (by omega)) (fun j => rfl), e5⟩
      have := e1.fl fin (FU - (n + 2))
      rw [show n + 2 + (FU - (n + 2)) = FU by unfold FU; omega] at this
      exact this
    · obtain ⟨n, h2, e1, e2, e3⟩ := i2 q
      have h4' : E.2.1 ≤ 400 := e2.2.2.2
      refine ⟨h2, ?_, XB.tr a2 e2 (Nat.le_refl _)⟩
      have := e1 (FU - n)
      rw [show n + (FU - n) = FU by unfold FU; omega] at this
      exact this
end Ro
