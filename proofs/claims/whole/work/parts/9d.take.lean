/-! one token of a row -/
section Take
variable {nm : Nm} {k0 d r : Nat} {h h' : MH} {Xs : Nat → Nat → List Tk → RT (List Tk)} {X : Int → Nat → Nat → Int → Int → MH → RS Nat} {w dn R : List Tk} {c0 : Nat} {ar : List (List Tk)} {rp md : Nat} {t : Tk}
/-- what is due at a token: none, it is done; some none, a call that isn't one; else a replacement -/
def callT (nm : Nm) (t : Tk) (r : List Tk) : Option (Option (Nat × NmD × Hd × List (List Tk) × List Tk)) :=
  match (if t.1 = 1 then fnd nm t.2.1 else none) with
  | none => none
  | some k => match nm k with
    | none => none
    | some q => if t.2.2 k = true then none
      else match q.2.1 with
        | none => some (some (k, q, t.2.2, [], r))
        | some ps => match r with
          | [] => none
          | c :: _ => if isSg c 40 = true then match cutA 0 [] [] r with
              | none => some none
              | some (ar, cl, r') => if arOk ps ar = true then some (some (k, q, anH t.2.2 cl.2.2, ar, r')) else some none
            else none
def stpT (nm : Nm) (Xs : Nat → Nat → List Tk → RT (List Tk)) (rp md : Nat) (t : Tk) (r dn : List Tk) : RT (List Tk × List Tk) := match callT nm t r with
  | none => if 100 ≤ dn.length then (1, rp, md, [], dn) else (0, rp, md, r, dn ++ [t])
  | some none => (8, rp, md, [], dn)
  | some (some (k, q, H, ar, r')) => ((repS Xs k q H ar rp md r').1, (repS Xs k q H ar rp md r').2.1, (repS Xs k q H ar rp md r').2.2.1, (repS Xs k q H ar rp md r').2.2.2, dn)
/-- how a deeper row is expanded -/
def inX (nm : Nm) (f d : Nat) : Nat → Nat → List Tk → RT (List Tk) := fun rp md a => if 7 ≤ d ∨ 100 < a.length then (1, rp, md, []) else expT nm f (d + 1) rp md a []
theorem expT_c {f : Nat} : expT nm (f + 1) d rp md (t :: w) dn = match callT nm t w with
    | none => if 100 ≤ dn.length then (1, rp, md, dn) else expT nm f d rp md w (dn ++ [t])
    | some none => (8, rp, md, dn)
    | some (some (k, q, H, ar, r')) => repT (inX nm f d) (fun rp md (w : List Tk) => expT nm f d rp md w dn) k q H ar rp md r' dn := by
  rw [expT]
  unfold callT
  cases (if t.1 = 1 then fnd nm t.2.1 else none) with
  | none => rfl
  | some k =>
    dsimp only
    cases nm k with
    | none => rfl
    | some q =>
      dsimp only
      by_cases c1 : t.2.2 k = true
      · simp only [if_pos c1]
      simp only [if_neg c1]
      cases q.2.1 with
      | none => rfl
      | some ps =>
        dsimp only
        cases w with
        | nil => rfl
        | cons c w =>
          dsimp only
          by_cases c2 : isSg c 40 = true
          · simp only [if_pos c2]
            cases cutA 0 [] [] (c :: w) with
            | none => rfl
            | some y =>
              obtain ⟨ar, cl, r'⟩ := y
              dsimp only
              by_cases c3 : arOk ps ar = true
              · simp only [if_pos c3]
                rfl
              · simp only [if_neg c3]
          · simp only [if_neg c2]
theorem expT_s {f : Nat} : expT nm (f + 1) d rp md (t :: w) dn = if (stpT nm (inX nm f d) rp md t w dn).1 = 0 then expT nm f d (stpT nm (inX nm f d) rp md t w dn).2.1 (stpT nm (inX nm f d) rp md t w dn).2.2.1 (stpT nm (inX nm f d) rp md t w dn).2.2.2.1 (stpT nm (inX nm f d) rp md t w dn).2.2.2.2 else ((stpT nm (inX nm f d) rp md t w dn).1, (stpT nm (inX nm f d) rp md t w dn).2.1, (stpT nm (inX nm f d) rp md t w dn).2.2.1, dn) := by
  rw [expT_c]
  unfold stpT
  cases callT nm t w with
  | none =>
    dsimp only
    by_cases c : 100 ≤ dn.length
    · simp only [if_pos c]; rfl
    · simp only [if_neg c]; rfl
  | some y =>
    cases y with
    | none => rfl
    | some y =>
      obtain ⟨k, q, H, ar, r'⟩ := y
      dsimp only
      rw [repT_e]
theorem fnd_s {x : List Int} {k : Nat} (e : fnd nm x = some k) : k < 8 ∧ ∃ q, nm k = some q ∧ q.1 = x := by
  unfold fnd at e
  have h1 := List.mem_of_find?_eq_some e
  have h2 := List.find?_some e
  refine ⟨List.mem_range.mp h1, ?_⟩
  unfold isNm at h2
  cases hq : nm k with
  | none => rw [hq] at h2; cases h2
  | some q =>
    obtain ⟨a, b, c⟩ := q
    rw [hq] at h2
    exact ⟨_, rfl, of_decide_eq_true h2⟩
theorem cutA_ok : ∀ (rest : List Tk) (o : Nat) (cu : List Tk) (ar : List (List Tk)) (ar' : List (List Tk)) (cl : Tk) (r' : List Tk), cutA o cu ar rest = some (ar', cl, r') → cu.length + rest.length ≤ 100 → (∀ a ∈ ar, a.length ≤ 100 ∧ ∀ t ∈ a, okT t) → (∀ t ∈ cu, okT t) → (∀ t ∈ rest, okT t) → (∀ a ∈ ar', a.length ≤ 100 ∧ ∀ t ∈ a, okT t) ∧ okT cl ∧ ∃ pre, rest = pre ++ r' := by
  intro rest
  induction rest with
  | nil => intro o cu ar ar' cl r' e; cases e
  | cons t rest ih =>
    intro o cu ar ar' cl r' e hl ha hc hr
    rw [List.length_cons] at hl
    have hr' : ∀ x ∈ rest, okT x := fun x hx => hr x (List.mem_cons_of_mem _ hx)
    have ht := hr t List.mem_cons_self
    have hct : ∀ x ∈ cu ++ [t], okT x := fun x hx => by
      rcases List.mem_append.mp hx with q | q
      · exact hc x q
      · rw [List.mem_singleton.mp q]; exact ht
    have hlt : (cu ++ [t]).length + rest.length ≤ 100 := by rw [List.length_append, List.length_singleton]; omega
    have hac : ∀ a ∈ ar ++ [cu], a.length ≤ 100 ∧ ∀ t ∈ a, okT t := fun a q => by
      rcases List.mem_append.mp q with q | q
      · exact ha a q
      · rw [List.mem_singleton.mp q]; exact ⟨by omega, hc⟩
    have pre : (∃ p, rest = p ++ r') → ∃ p, t :: rest = p ++ r' := fun ⟨p, hp⟩ => ⟨t :: p, by rw [hp]; rfl⟩
    rw [cutA] at e
    by_cases c1 : isSg t 40 = true
    · rw [if_pos c1] at e
      by_cases c0 : o = 0
      · rw [if_pos c0] at e
        obtain ⟨a, b, c⟩ := ih _ _ _ _ _ _ e (by omega) ha hc hr'
        exact ⟨a, b, pre c⟩
      · rw [if_neg c0] at e
        obtain ⟨a, b, c⟩ := ih _ _ _ _ _ _ e hlt ha hct hr'
        exact ⟨a, b, pre c⟩
    rw [if_neg c1] at e
    by_cases c2 : isSg t 41 = true
    · rw [if_pos c2] at e
      by_cases c0 : o ≤ 1
      · rw [if_pos c0] at e
        cases e
        exact ⟨hac, ht, [t], rfl⟩
      · rw [if_neg c0] at e
        obtain ⟨a, b, c⟩ := ih _ _ _ _ _ _ e hlt ha hct hr'
        exact ⟨a, b, pre c⟩
    rw [if_neg c2] at e
    by_cases c3 : isSg t 44 = true ∧ o = 1
    · rw [if_pos c3] at e
      obtain ⟨a, b, c⟩ := ih _ _ _ _ _ _ e (by rw [List.length_nil]; omega) hac (fun x hx => absurd hx List.not_mem_nil) hr'
      exact ⟨a, b, pre c⟩
    · rw [if_neg c3] at e
      obtain ⟨a, b, c⟩ := ih _ _ _ _ _ _ e hlt ha hct hr'
      exact ⟨a, b, pre c⟩
/-- what taking a token comes to -/
def TkR (nm : Nm) (k0 d r md : Nat) (h : MH) (x : RS Unit) (s : RT (List Tk × List Tk)) : Prop :=
  (s.1 = 0 → ∃ h', x = some (.inl (), h') ∧ XF d md h h' ∧ md ≤ s.2.2.1 ∧ Cm nm k0 h' s.2.1 s.2.2.1 ∧ RowW h' (402 + s.2.2.1) r s.2.2.2.1 ∧ RowD h' (402 + s.2.2.1) r s.2.2.2.2 ∧ (∀ y ∈ s.2.2.2.1, okT y) ∧ ∀ y ∈ s.2.2.2.2, okT y) ∧
  (s.1 ≠ 0 → ∃ h0, x = some (.inr 13, mNew (mPi h0 87 2 (s.1 : Int)) 13 6) ∧ XF d md h h0 ∧ mGi h0 95 3 = (s.2.1 : Int) ∧ s.2.1 ≤ 400)
theorem ar_for {kn : Nat} {q : NmD} {ps : List (List Int)} {M : Nat} (z : NmC h M nm) (hk : kn < 8) (hq : nm kn = some q) (hp : q.2.1 = some ps) (h7 : mGi h r 7 = (ar.length : Int)) (h0 : mGi h (r + 4) 0 = (c0 : Int)) (cp : CuP h M r 0 c0 ar) (hc : c0 ≤ 100) : F_Ex_areArgumentsFor (kn : Int) r h = some (.inl (bI (arOk ps ar)), h) := by
  have e := (z.bl hk hq).2
  rw [hp] at e
  have e' : mGi h 91 kn = (ps.length : Int) := e
  unfold F_Ex_areArgumentsFor F_Ex_areArgumentsFor_41 arOk
  rw [gd_b (by omega) (by omega), Int.toNat_natCast, e', h7]
  by_cases c : ps = []
  · rw [if_pos (by rw [c]; rfl), if_pos c]
    by_cases c1 : ar.length = 1
    · rw [if_pos (by omega), gd_b (by decide) (by decide), gd_b (by decide) (by decide)]
      match ar, c1, cp with
      | [a], _, cp =>
        have q1 : mGi h (r + 4) (1 : Int).toNat = ((c0 + 1 + a.length : Nat) : Int) := cp.1 (by decide)
        have q0 : mGi h (r + 4) (0 : Int).toNat = (c0 : Int) := h0
        rw [q1, q0, gd_rg (by omega) (by omega)]
        by_cases c2 : a = []
        · rw [if_pos (by rw [c2]; simp), decide_eq_true ⟨rfl, c2⟩]; rfl
        · have : a.length ≠ 0 := fun q => c2 (List.eq_nil_of_length_eq_zero q)
          rw [if_neg (by omega), decide_eq_false (fun q => c2 q.2)]; rfl
    · rw [if_neg (by omega), decide_eq_false (fun q => c1 q.1)]; rfl
  · have : ps.length ≠ 0 := fun q => c (List.eq_nil_of_length_eq_zero q)
    rw [if_neg (by omega), if_neg c]
    by_cases c1 : ar.length = ps.length
    · rw [if_pos (by omega), decide_eq_true c1]; rfl
    · rw [if_neg (by omega), decide_eq_false c1]; rfl
theorem ex_fin (hd : d < 8) (z : Cm nm k0 h rp md) (zr : mGr h 96 d = some r) (zw : RowW h (402 + md) r (t :: w)) (zd : RowD h (402 + md) r dn) (okw : ∀ y ∈ t :: w, okT y) (okd : ∀ y ∈ dn, okT y) : TkR nm k0 d r md h (F_Ex_takeToken_114 X r h) (if 100 ≤ dn.length then (1, rp, md, [], dn) else (0, rp, md, w, dn ++ [t])) := by
  obtain ⟨hr, hr150⟩ : RoO h r ∧ 150 ≤ r := z.2.2.2.1.1 d hd r zr
  unfold F_Ex_takeToken_114
  by_cases c : 100 ≤ dn.length
  · rw [if_pos c, ro_fin0 zd c, bnd_l, if_pos rfl]
    exact ⟨fun q => absurd q (by show ¬ (1 : Nat) = 0; decide), fun _ => ⟨h, to_fail (why := 1) z.rm.1 _, XF.rf, z.2.2.1, z.2.2.2.2.2.2.2⟩⟩
  · rw [if_neg c]
    obtain ⟨h1, e1, f1, y1, y2⟩ := ro_fin (by omega) zw zd (by omega)
    rw [e1, bnd_l, if_neg (by decide)]
    have x1 : XF d md h h1 := XF.fw f1 zr hd (fun b i q => by omega) (fun b i q => by omega)
    refine ⟨fun _ => ⟨h1, rfl, x1, Nat.le_refl _, z.xf x1 (Nat.le_refl _) ⟨(f1.2.2.1 87 1 (by omega)).trans z.2.1.1, z.2.1.2⟩ ((f1.2.2.1 95 3 (by omega)).trans z.2.2.1) z.2.2.2.2.2.2.2, y1, y2, fun y hy => okw y (List.mem_cons_of_mem _ hy), fun y hy => ?_⟩, fun q => absurd rfl q⟩
    rcases List.mem_append.mp hy with q | q
    · exact okd y q
    · rw [List.mem_singleton.mp q]; exact okw t List.mem_cons_self
theorem ex_take (HX : HXc nm k0 d r Xs X) (N : nmOK nm) (hd : d < 8) (z : Cm nm k0 h rp md) (zr : mGr h 96 d = some r) (zw : RowW h (402 + md) r (t :: w)) (zd : RowD h (402 + md) r dn) (okw : ∀ y ∈ t :: w, okT y) (okd : ∀ y ∈ dn, okT y) : TkR nm k0 d r md h (F_Ex_takeToken X (d : Int) r h) (stpT nm Xs rp md t w dn) := by
  obtain ⟨hr, hr150⟩ : RoO h r ∧ 150 ≤ r := z.2.2.2.1.1 d hd r zr
  have hm := z.2.1.2
  have fin := ex_fin (X := X) hd z zr zw zd okw okd
  obtain ⟨v, e0, y0⟩ := ro_at (k := 0) zw (by decide) (by omega)
  have y0' : TC h (402 + md) v t false := y0
  have hw2 := zw.2.1
  rw [List.length_cons] at hw2
  unfold F_Ex_takeToken
  have e0' : F_Ro_waitingAt r (0 : Int) h = some (.inl v, h) := e0
  rw [e0', bnd_l, to_kind y0', bnd_l]
  have hd3 : (if ((t.1 : Nat) : Int) = 1 then bnd (F_Na_find v h) fun x73 h71 => F_Ex_takeToken_30 X (d : Int) r v x73 h71 else F_Ex_takeToken_30 X (d : Int) r v (-1) h) = F_Ex_takeToken_30 X (d : Int) r v (oI (if t.1 = 1 then fnd nm t.2.1 else none)) h := by
    by_cases c : t.1 = 1
    · rw [if_pos (by omega), if_pos c, na_find z.1 y0', bnd_l]
    · rw [if_neg (by omega), if_neg c]; rfl
  rw [hd3]
  unfold F_Ex_takeToken_30 F_Ex_takeToken_53 stpT callT
  cases e1 : (if t.1 = 1 then fnd nm t.2.1 else none) with
  | none =>
    dsimp only
    rw [if_pos (show oI none < 0 by decide)]
    unfold F_Ex_takeToken_54 F_Ex_takeToken_79 F_Ex_takeToken_80
    rw [if_pos (show oI none < 0 by decide), if_pos (show oI none < 0 by decide)]
    exact fin
  | some k =>
    have ef : fnd nm t.2.1 = some k := by
      by_cases c : t.1 = 1
      · rw [if_pos c] at e1; exact e1
      · rw [if_neg c] at e1; cases e1
    obtain ⟨hk, q, hq, -⟩ := fnd_s ef
    obtain ⟨n1, n2, n3, n4⟩ := N k hk q hq
    have hok : oI (some k) = (k : Int) := rfl
    obtain ⟨g, hg, eg⟩ := to_hid y0'
    dsimp only
    rw [hok, if_neg (by omega), eg, bnd_l, hq]
    dsimp only
    have hps := (z.1.bl hk hq).2
    -- the hidden bit
    have hbi : (iAnd (iShr (g : Int) (k : Int)) 1 = 0) ↔ ¬ t.2.2 k = true := by
      rw [hbit hg.1 hk, hg.2 k hk]
      cases t.2.2 k <;> simp
    by_cases c1 : t.2.2 k = true
    · rw [if_neg (fun q => hbi.mp q c1), if_pos c1]
      unfold F_Ex_takeToken_54 F_Ex_takeToken_79 F_Ex_takeToken_80
      rw [if_neg (by omega), gd_b (by omega) (by omega)]
      simp only [if_neg (show ¬ (1 : Int) = 0 by decide), if_neg (show ¬ (k : Int) < 0 by omega), ite_self]
      exact fin
    rw [if_pos (hbi.mpr c1), if_neg c1]
    unfold F_Ex_takeToken_54 F_Ex_takeToken_79
    rw [if_neg (by omega), gd_b (by omega) (by omega), Int.toNat_natCast, hps]
    cases e3 : q.2.1 with
    | none =>
      dsimp only
      rw [if_pos (show psN none = -1 from rfl)]
      unfold F_Ex_takeToken_80 F_Ex_takeToken_130 F_Ex_takeToken_150 F_Ex_takeToken_181
      rw [if_neg (by omega), if_pos rfl, if_neg (show ¬ (1 : Int) = 0 by decide), if_neg (show ¬ (1 : Int) = 0 by decide), if_neg (show ¬ (1 : Int) = 0 by decide), zw.1]
      have ya : TC h (402 + md) (mGl h (r + 1) (100 - (t :: w).length)) t false := zw.2.2.1
      have A := ex_rep (c0 := 0) (R := w) (last := 100 - (t :: w).length) (ar := []) (t := t) (cl := t) HX N hk hq hd (by rw [e3]; exact Nat.le_refl _) (fun a ha => absurd ha List.not_mem_nil) (by decide) z zr zw zd (by simp) trivial (fun q => absurd rfl q) ya ya (by rw [List.length_cons]; omega) (by
        rw [List.length_cons, show 100 - (w.length + 1) + 1 - (100 - (w.length + 1)) = 1 by omega]
        rfl) (Nat.le_refl _) (fun y hy => okw y (List.mem_cons_of_mem _ hy))
      have ean : anH t.2.2 t.2.2 = t.2.2 := by funext i; exact Bool.and_self _
      rw [ean] at A
      refine ⟨fun s0 => ?_, fun s0 => ?_⟩
      · obtain ⟨h1, a1, a2, a3, a4, a5, a6, a7⟩ := A.1 s0
        exact ⟨h1, by rw [a1, bnd_l], a2, a3, a4, a5, a6, a7, okd⟩
      · obtain ⟨h1, a1, a2⟩ := A.2 s0
        exact ⟨h1, by rw [a1, bnd_r], a2⟩
    | some ps =>
      dsimp only
      rw [if_neg (show ¬ psN (some ps) = -1 by show ¬ (ps.length : Int) = -1; omega)]
      unfold F_Ex_takeToken_80
      rw [if_neg (by omega), if_pos rfl, if_pos rfl]
      obtain ⟨v1, e5, y5⟩ := ro_at (k := 1) zw (by decide) (by omega)
      have e5' : F_Ro_waitingAt r (1 : Int) h = some (.inl v1, h) := e5
      rw [e5', bnd_l, to_sign y5, bnd_l]
      cases w with
      | nil =>
        have en : isSg ((t :: []).getD 1 nTk) 40 = false := rfl
        rw [en, if_pos (show bI false = 0 from rfl)]
        exact fin
      | cons c w =>
        have ec : (t :: c :: w).getD 1 nTk = c := rfl
        rw [ec]
        dsimp only
        by_cases c2 : isSg c 40 = true
        · rw [c2, if_neg (by decide), if_pos rfl]
          obtain ⟨h1, f1, i1, i2⟩ := ro_cut (M := 402 + md) (by omega) (by omega) (by omega) zw c2
          have x1 : XF d md h h1 := XF.fw f1 zr hd (fun b i q => by unfold pU at q; omega) (fun b i q => q.elim)
          have e88 : ∀ j, j < 402 + md → mGi h1 88 j = mGi h 88 j := fun j _ => f1.2.2.1 88 j (by unfold pU; omega)
          have C1 : Cm nm k0 h1 rp md := z.xf x1 (Nat.le_refl _) ⟨(f1.2.2.1 87 1 (by unfold pU; omega)).trans z.2.1.1, hm⟩ ((f1.2.2.1 95 3 (by unfold pU; omega)).trans z.2.2.1) z.2.2.2.2.2.2.2
          have W1 : RowW h1 (402 + md) r (t :: c :: w) := zw.cg e88 (Nat.le_refl _) (by omega) (f1.2.2.1 r 1 (by unfold pU; omega)) (fun j => f1.2.2.2 (r + 1) j id)
          have D1 : RowD h1 (402 + md) r dn := zd.cg e88 (Nat.le_refl _) (by omega) (f1.2.2.1 r 3 (by unfold pU; omega)) (fun j => f1.2.2.2 (r + 2) j id)
          have bad : TkR nm k0 d r md h (some (.inr 13, mNew (mPi h1 87 2 ((8 : Nat) : Int)) 13 6)) (8, rp, md, [], dn) := ⟨fun q => absurd q (by show ¬ (8 : Nat) = 0; decide), fun _ => ⟨h1, rfl, x1, C1.2.2.1, C1.2.2.2.2.2.2.2⟩⟩
          have tf : ∀ K : Unit → MH → RS Unit, bnd (F_To_fail 8 h1) K = some (.inr 13, mNew (mPi h1 87 2 ((8 : Nat) : Int)) 13 6) := fun K => to_fail (why := 8) C1.rm.1 K
          unfold F_Ex_takeToken_130
          rw [if_pos rfl]
          cases e4 : cutA 0 [] [] (c :: w) with
          | none =>
            dsimp only
            rw [i1 e4, bnd_l]
            unfold F_Ex_takeToken_150 F_Ex_takeToken_172
            rw [if_pos rfl, if_pos (by decide), tf]
            exact bad
          | some y =>
            obtain ⟨ar, cl, r'⟩ := y
            obtain ⟨b1, b2, b3, b4, b5, b6, b7⟩ := i2 ar cl r' e4
            rw [List.length_cons] at hw2
            obtain ⟨k1, k2, pre, hpre⟩ := cutA_ok (c :: w) 0 [] [] ar cl r' e4 (by rw [List.length_nil, List.length_cons]; omega) (fun a ha => absurd ha List.not_mem_nil) (fun a ha => absurd ha List.not_mem_nil) (fun y hy => okw y (List.mem_cons_of_mem _ hy))
            dsimp only
            rw [b1, bnd_l]
            unfold F_Ex_takeToken_150 F_Ex_takeToken_172 F_Ex_takeToken_181
            rw [if_pos rfl, if_neg (by omega), ar_for C1.1 hk hq e3 b2 b3 b4 (by omega), bnd_l]
            by_cases c3 : arOk ps ar = true
            · rw [c3, if_neg (show ¬ bI true = 0 by decide), if_pos rfl]
              have hpa : (q.2.1.getD []).length ≤ ar.length := by
                rw [e3]
                show ps.length ≤ ar.length
                unfold arOk at c3
                by_cases cp : ps = []
                · rw [cp]; simp
                · rw [if_neg cp] at c3
                  have := of_decide_eq_true c3
                  omega
              have hlen : (c :: w).length = pre.length + r'.length := by rw [hpre, List.length_append]
              rw [List.length_cons] at hlen
              have A := ex_rep (c0 := 100 - (w.length + 2) + 1) (R := r') (last := lp (100 - (w.length + 2) + 1) ar) (ar := ar) (t := t) (cl := cl) HX N hk hq hd hpa k1 (by omega) C1 (x1.2.1.2.1 d r zr) W1 D1 (by simp) b4 (fun _ => b3) W1.2.2.1 b6 b5 (by
                have hc : lp (100 - (w.length + 2) + 1) ar + 1 - (100 - (t :: c :: w).length) = pre.length + 1 := by rw [List.length_cons, List.length_cons]; omega
                rw [hc, hpre]
                show um (t :: (pre ++ r')) = List.take (pre.length + 1) (um (t :: (pre ++ r'))) ++ um r'
                have : t :: (pre ++ r') = (t :: pre) ++ r' := rfl
                rw [this, um_app, List.take_append_of_le_length (by rw [um_len, List.length_cons]; exact Nat.le_refl _), List.take_of_length_le (by rw [um_len, List.length_cons]; exact Nat.le_refl _)]) (by rw [List.length_cons, List.length_cons]; omega) (fun y hy => okw y (List.mem_cons_of_mem _ (by rw [hpre]; exact List.mem_append.mpr (.inr hy))))
              refine ⟨fun s0 => ?_, fun s0 => ?_⟩
              · obtain ⟨h2, a1, a2, a3, a4, a5, a6, a7⟩ := A.1 s0
                exact ⟨h2, by rw [a1, bnd_l], x1.tr a2 (Nat.le_refl _), a3, a4, a5, a6, a7, okd⟩
              · obtain ⟨h2, a1, a2, a3⟩ := A.2 s0
                exact ⟨h2, by rw [a1, bnd_r], x1.tr a2 (Nat.le_refl _), a3⟩
            · rw [Bool.eq_false_iff.mpr c3, if_pos (show bI false = 0 from rfl), if_neg (by decide), tf]
              exact bad
        · rw [Bool.eq_false_iff.mpr c2, if_pos (show bI false = 0 from rfl), if_neg (by decide)]
          exact fin
end Take
