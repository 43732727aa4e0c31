/-! the class replaces a name -/
section Rep
variable {nm : Nm} {k0 d r : Nat} {h h' : MH} {Xs : Nat → Nat → List Tk → RT (List Tk)} {X : Int → Nat → Nat → Int → Int → MH → RS Nat} {W dn R : List Tk} {c0 : Nat} {ar : List (List Tk)} {rp md : Nat}
def nmOK (nm : Nm) : Prop := ∀ k, k < 8 → ∀ q, nm k = some q → wds (q.2.1.getD []) ∧ (q.2.1.getD []).length ≤ 3 ∧ q.2.2.length ≤ 12 ∧ ∀ b ∈ q.2.2, okT (b.1, b.2, noH)
def repS (X : Nat → Nat → List Tk → RT (List Tk)) (k : Nat) (q : NmD) (H : Hd) (ar : List (List Tk)) (rp md : Nat) (R : List Tk) : RT (List Tk) :=
  if 400 ≤ rp then (2, rp, md, [])
  else if (subT X (q.2.1.getD []) ar false (rp + 1) md [] q.2.2).1 ≠ 0 then ((subT X (q.2.1.getD []) ar false (rp + 1) md [] q.2.2).1, (subT X (q.2.1.getD []) ar false (rp + 1) md [] q.2.2).2.1, (subT X (q.2.1.getD []) ar false (rp + 1) md [] q.2.2).2.2.1, [])
  else if (joinT (subT X (q.2.1.getD []) ar false (rp + 1) md [] q.2.2).2.1 (subT X (q.2.1.getD []) ar false (rp + 1) md [] q.2.2).2.2.1 [] (subT X (q.2.1.getD []) ar false (rp + 1) md [] q.2.2).2.2.2).1 ≠ 0 then ((joinT (subT X (q.2.1.getD []) ar false (rp + 1) md [] q.2.2).2.1 (subT X (q.2.1.getD []) ar false (rp + 1) md [] q.2.2).2.2.1 [] (subT X (q.2.1.getD []) ar false (rp + 1) md [] q.2.2).2.2.2).1, (joinT (subT X (q.2.1.getD []) ar false (rp + 1) md [] q.2.2).2.1 (subT X (q.2.1.getD []) ar false (rp + 1) md [] q.2.2).2.2.1 [] (subT X (q.2.1.getD []) ar false (rp + 1) md [] q.2.2).2.2.2).2.1, (joinT (subT X (q.2.1.getD []) ar false (rp + 1) md [] q.2.2).2.1 (subT X (q.2.1.getD []) ar false (rp + 1) md [] q.2.2).2.2.1 [] (subT X (q.2.1.getD []) ar false (rp + 1) md [] q.2.2).2.2.2).2.2.1, [])
  else if 100 < (hideT (orH H fun i => decide (i = k)) (joinT (subT X (q.2.1.getD []) ar false (rp + 1) md [] q.2.2).2.1 (subT X (q.2.1.getD []) ar false (rp + 1) md [] q.2.2).2.2.1 [] (subT X (q.2.1.getD []) ar false (rp + 1) md [] q.2.2).2.2.2).2.2.2).length + R.length then (1, (joinT (subT X (q.2.1.getD []) ar false (rp + 1) md [] q.2.2).2.1 (subT X (q.2.1.getD []) ar false (rp + 1) md [] q.2.2).2.2.1 [] (subT X (q.2.1.getD []) ar false (rp + 1) md [] q.2.2).2.2.2).2.1, (joinT (subT X (q.2.1.getD []) ar false (rp + 1) md [] q.2.2).2.1 (subT X (q.2.1.getD []) ar false (rp + 1) md [] q.2.2).2.2.1 [] (subT X (q.2.1.getD []) ar false (rp + 1) md [] q.2.2).2.2.2).2.2.1, [])
  else (0, (joinT (subT X (q.2.1.getD []) ar false (rp + 1) md [] q.2.2).2.1 (subT X (q.2.1.getD []) ar false (rp + 1) md [] q.2.2).2.2.1 [] (subT X (q.2.1.getD []) ar false (rp + 1) md [] q.2.2).2.2.2).2.1, (joinT (subT X (q.2.1.getD []) ar false (rp + 1) md [] q.2.2).2.1 (subT X (q.2.1.getD []) ar false (rp + 1) md [] q.2.2).2.2.1 [] (subT X (q.2.1.getD []) ar false (rp + 1) md [] q.2.2).2.2.2).2.2.1, hideT (orH H fun i => decide (i = k)) (joinT (subT X (q.2.1.getD []) ar false (rp + 1) md [] q.2.2).2.1 (subT X (q.2.1.getD []) ar false (rp + 1) md [] q.2.2).2.2.1 [] (subT X (q.2.1.getD []) ar false (rp + 1) md [] q.2.2).2.2.2).2.2.2 ++ R)
theorem repT_e {E : Nat → Nat → List Tk → RT (List Tk)} {k : Nat} {q : NmD} {H : Hd} : repT Xs E k q H ar rp md R dn = if (repS Xs k q H ar rp md R).1 = 0 then E (repS Xs k q H ar rp md R).2.1 (repS Xs k q H ar rp md R).2.2.1 (repS Xs k q H ar rp md R).2.2.2 else ((repS Xs k q H ar rp md R).1, (repS Xs k q H ar rp md R).2.1, (repS Xs k q H ar rp md R).2.2.1, dn) := by
  unfold repT repS
  by_cases c1 : 400 ≤ rp
  · rw [if_pos c1, if_pos c1]; rfl
  rw [if_neg c1, if_neg c1]
  dsimp only
  by_cases c2 : (subT Xs (q.2.1.getD []) ar false (rp + 1) md [] q.2.2).1 ≠ 0
  · rw [if_pos c2, if_pos c2, if_neg c2]
  rw [if_neg c2, if_neg c2]
  by_cases c3 : (joinT (subT Xs (q.2.1.getD []) ar false (rp + 1) md [] q.2.2).2.1 (subT Xs (q.2.1.getD []) ar false (rp + 1) md [] q.2.2).2.2.1 [] (subT Xs (q.2.1.getD []) ar false (rp + 1) md [] q.2.2).2.2.2).1 ≠ 0
  · rw [if_pos c3, if_pos c3, if_neg c3]
  rw [if_neg c3, if_neg c3]
  by_cases c4 : 100 < (hideT (orH H fun i => decide (i = k)) (joinT (subT Xs (q.2.1.getD []) ar false (rp + 1) md [] q.2.2).2.1 (subT Xs (q.2.1.getD []) ar false (rp + 1) md [] q.2.2).2.2.1 [] (subT Xs (q.2.1.getD []) ar false (rp + 1) md [] q.2.2).2.2.2).2.2.2).length + R.length
  · rw [if_pos c4, if_pos c4]; rfl
  · rw [if_neg c4, if_neg c4]; rfl
theorem joinT_rp : ∀ (N : Nat) (l : List (Tk × Bool)) (rp md : Nat) (acc : List Tk), l.length ≤ N → (joinT rp md acc l).2.1 = rp := by
  intro N
  induction N with
  | zero =>
    intro l rp md acc hN
    have : l = [] := List.eq_nil_of_length_eq_zero (by omega)
    subst this
    rfl
  | succ N ih =>
    intro l rp md acc hN
    match l, hN with
    | [], _ => rfl
    | (t, false) :: l, hN =>
      rw [List.length_cons] at hN
      rw [joinT]
      exact ih l rp md _ (by omega)
    | (t, true) :: l, hN =>
      rw [List.length_cons] at hN
      have hN' : l.tail.length ≤ N := by rw [List.length_tail]; omega
      rw [joinT_t]
      split
      · rfl
      · split
        · exact ih _ _ _ _ hN'
        · split
          · rfl
          · exact ih _ _ _ _ hN'
theorem joinT_ok : ∀ (N : Nat) (l : List (Tk × Bool)) (rp md : Nat) (acc : List Tk), l.length ≤ N → (∀ t ∈ acc, okT t) → (∀ x ∈ l, okT x.1) → ∀ t ∈ (joinT rp md acc l).2.2.2, okT t := by
  intro N
  induction N with
  | zero =>
    intro l rp md acc hN ha hl
    have : l = [] := List.eq_nil_of_length_eq_zero (by omega)
    subst this
    exact ha
  | succ N ih =>
    intro l rp md acc hN ha hl
    match l, hN, hl with
    | [], _, _ => exact ha
    | (t, false) :: l, hN, hl =>
      rw [List.length_cons] at hN
      rw [joinT]
      exact ih l rp md _ (by omega) (fun x hx => by rcases List.mem_append.mp hx with q | q; exact ha x q; rw [List.mem_singleton.mp q]; exact hl (t, false) List.mem_cons_self) (fun x hx => hl x (List.mem_cons_of_mem _ hx))
    | (t, true) :: l, hN, hl =>
      rw [List.length_cons] at hN
      have hN' : l.tail.length ≤ N := by rw [List.length_tail]; omega
      have hl' : ∀ x ∈ l.tail, okT x.1 := fun x hx => hl x (List.mem_cons_of_mem _ (List.mem_of_mem_tail hx))
      have hdl : ∀ t' : Tk, okT t' → ∀ t ∈ acc.dropLast ++ [t'], okT t := fun t' ht x hx => by
        rcases List.mem_append.mp hx with q | q
        · exact ha x (List.dropLast_subset _ q)
        · rw [List.mem_singleton.mp q]; exact ht
      have oB : okT (l.headD (nTk, false)).1 := by
        cases l with
        | nil => exact okT_n
        | cons y l => exact hl y (List.mem_cons_of_mem _ List.mem_cons_self)
      rw [joinT_t]
      split
      · exact ha
      · split
        · exact ih _ _ _ _ hN' (hdl _ okT_n) hl'
        · next c2 =>
          split
          · exact ha
          · refine ih _ _ _ _ hN' (hdl _ ⟨fun c hc => ?_, fun q => absurd q c2⟩) hl'
            rcases List.mem_append.mp (show c ∈ (acc.getLastD nTk).2.1 ++ (l.headD (nTk, false)).1.2.1 from hc) with q | q
            · exact (okT_last ha).1 c q
            · exact oB.1 c q
theorem hide_ok {H : Hd} : ∀ {l : List Tk}, (∀ t ∈ l, okT t) → ∀ t ∈ hideT H l, okT t
  | [], _, t, ht => absurd ht List.not_mem_nil
  | (k, x, g) :: l, hl, t, ht => by
    have il := hide_ok (H := H) (l := l) (fun t ht => hl t (List.mem_cons_of_mem _ ht))
    rw [hideT] at ht
    by_cases c : x = []
    · rw [if_pos c] at ht
      exact il t ht
    · rw [if_neg c] at ht
      rcases List.mem_cons.mp ht with q | q
      · rw [q]
        exact ⟨(hl (k, x, g) List.mem_cons_self).1, fun e => absurd e c⟩
      · exact il t q
theorem hC.bit {k : Nat} (hk : k < 8) : hC (2 ^ k) (fun i => decide (i = k)) := by
  refine ⟨by have : 2 ^ k < 2 ^ 8 := Nat.pow_lt_pow_right (by decide) hk; omega, fun i _ => ?_⟩
  rw [Nat.testBit_two_pow]
  by_cases c : k = i
  · show decide (k = i) = decide (i = k)
    rw [decide_eq_true c, decide_eq_true c.symm]
  · show decide (k = i) = decide (i = k)
    rw [decide_eq_false c, decide_eq_false (fun q : i = k => c q.symm)]
theorem to_hid {M : Nat} {v : Int64} {t : Tk} {m : Bool} (z : TC h M v t m) : ∃ g, hC g t.2.2 ∧ ∀ h' : MH, F_To_hides v h' = some (.inl (g : Int), h') := by
  obtain ⟨s, g, z1, z2, -⟩ := z
  refine ⟨g, z2, fun h' => ?_⟩
  unfold F_To_hides
  rw [z1.hid]
theorem ex_rep {kn last : Nat} {dD : NmD} {t cl : Tk} (HX : HXc nm k0 d r Xs X) (N : nmOK nm) (hkn : kn < 8) (hD : nm kn = some dD) (hd : d < 8) (hpa : (dD.2.1.getD []).length ≤ ar.length) (hb : ∀ a ∈ ar, a.length ≤ 100 ∧ ∀ t ∈ a, okT t) (hlp : lp c0 ar ≤ 99)
    (z : Cm nm k0 h rp md) (zr : mGr h 96 d = some r) (zw : RowW h (402 + md) r W) (zd : RowD h (402 + md) r dn) (hW : 0 < W.length) (cp : CuP h (402 + md) r 0 c0 ar) (ce : ar ≠ [] → mGi h (r + 4) 0 = (c0 : Int)) (yt : TC h (402 + md) (mGl h (r + 1) (100 - W.length)) t false) (yc : TC h (402 + md) (mGl h (r + 1) last) cl false) (hl : last + 1 + R.length = 100) (s : um W = (um W).take (last + 1 - (100 - W.length)) ++ um R) (hlW : 100 - W.length ≤ last) (okR : ∀ t ∈ R, okT t) :
    ((repS Xs kn dD (anH t.2.2 cl.2.2) ar rp md R).1 = 0 → ∃ h', F_Ex_replace X (d : Int) r (kn : Int) (last : Int) h = some (.inl (), h') ∧ XF d md h h' ∧ md ≤ (repS Xs kn dD (anH t.2.2 cl.2.2) ar rp md R).2.2.1 ∧ Cm nm k0 h' (repS Xs kn dD (anH t.2.2 cl.2.2) ar rp md R).2.1 (repS Xs kn dD (anH t.2.2 cl.2.2) ar rp md R).2.2.1 ∧ RowW h' (402 + (repS Xs kn dD (anH t.2.2 cl.2.2) ar rp md R).2.2.1) r (repS Xs kn dD (anH t.2.2 cl.2.2) ar rp md R).2.2.2 ∧ RowD h' (402 + (repS Xs kn dD (anH t.2.2 cl.2.2) ar rp md R).2.2.1) r dn ∧ ∀ y ∈ (repS Xs kn dD (anH t.2.2 cl.2.2) ar rp md R).2.2.2, okT y) ∧
    ((repS Xs kn dD (anH t.2.2 cl.2.2) ar rp md R).1 ≠ 0 → ∃ h0, F_Ex_replace X (d : Int) r (kn : Int) (last : Int) h = some (.inr 13, mNew (mPi h0 87 2 ((repS Xs kn dD (anH t.2.2 cl.2.2) ar rp md R).1 : Int)) 13 6) ∧ XF d md h h0 ∧ mGi h0 95 3 = ((repS Xs kn dD (anH t.2.2 cl.2.2) ar rp md R).2.1 : Int) ∧ (repS Xs kn dD (anH t.2.2 cl.2.2) ar rp md R).2.1 ≤ 400) := by
  obtain ⟨hr, hr150⟩ : RoO h r ∧ 150 ≤ r := z.2.2.2.1.1 d hd r zr
  obtain ⟨n1, n2, n3, n4⟩ := N kn hkn dD hD
  have hm := z.2.1.2
  have h3 := z.2.2.1
  have hW2 := zw.2.1
  have hlen1 : last + 1 - (100 - W.length) ≤ W.length := by omega
  have hlen2 : 100 - W.length + (last + 1 - (100 - W.length)) = last + 1 := by omega
  unfold F_Ex_replace
  by_cases c1 : 400 ≤ rp
  · have e : repS Xs kn dD (anH t.2.2 cl.2.2) ar rp md R = (2, rp, md, []) := by unfold repS; rw [if_pos c1]
    rw [e, h3, if_neg (by omega)]
    exact ⟨fun q => absurd q (by show ¬ (2 : Nat) = 0; decide), fun _ => ⟨h, to_fail (why := 2) z.rm.1 _, XF.rf, h3, z.2.2.2.2.2.2.2⟩⟩
  rw [h3, if_pos (by omega)]
  -- one replacement more, nothing comes yet
  have f1 : FW (fun b i => (b = 95 ∧ i = 3) ∨ (b = r ∧ i = 5)) noQ h (mPi (mPi h 95 3 ((rp : Int) + 1)) r 5 0) := FW.pi (FW.pi FW.rf (.inl ⟨rfl, rfl⟩)) (.inr ⟨rfl, rfl⟩)
  have x1 : XF d md h (mPi (mPi h 95 3 ((rp : Int) + 1)) r 5 0) := XF.fw f1 zr hd (fun b i q => by unfold pZ; omega) (fun b i q => q.elim)
  have g1 : ∀ b i, ¬ (b = 95 ∧ i = 3) → ¬ (b = r ∧ i = 5) → mGi (mPi (mPi h 95 3 ((rp : Int) + 1)) r 5 0) b i = mGi h b i := fun b i q1 q2 => f1.2.2.1 b i (by omega)
  have c1' : Cm nm k0 (mPi (mPi h 95 3 ((rp : Int) + 1)) r 5 0) (rp + 1) md := z.xf x1 (Nat.le_refl _) ⟨(g1 87 1 (by omega) (by omega)).trans z.2.1.1, hm⟩ (by rw [gi_pi, if_neg (by omega), gi_s]; omega) (by omega)
  have e88 : ∀ j, j < 402 + md → mGi (mPi (mPi h 95 3 ((rp : Int) + 1)) r 5 0) 88 j = mGi h 88 j := fun j _ => g1 88 j (by omega) (by omega)
  have S1 : SI nm k0 d r W dn c0 ar (mPi (mPi h 95 3 ((rp : Int) + 1)) r 5 0) (rp + 1) md [] := ⟨c1', x1.2.1.2.1 d r zr, zw.cg e88 (Nat.le_refl _) (by omega) (g1 r 1 (by omega) (by omega)) (fun j => rfl), zd.cg e88 (Nat.le_refl _) (by omega) (g1 r 3 (by omega) (by omega)) (fun j => rfl), CuP.cg e88 (Nat.le_refl _) (by omega) (fun j => rfl) (fun i _ _ _ => g1 (r + 4) i (by omega) (by omega)) cp, fun q => (g1 (r + 4) 0 (by omega) (by omega)).trans (ce q), gi_s, by simp, trivial⟩
  obtain ⟨ga, ha, ea⟩ := to_hid yt
  obtain ⟨gc, hc, ec⟩ := to_hid yc
  have U := su_l (ar := ar) (c0 := c0) (W := W) (dn := dn) HX hkn hD hd n1 n2 hpa n3 n4 hW2 hb hlp dD.2.2.length dD.2.2 FU 0 (mPi (mPi h 95 3 ((rp : Int) + 1)) r 5 0) (rp + 1) md [] false (Nat.le_refl _) (by unfold FU; omega) rfl (by rfl) (by decide) S1 (fun x hx => absurd hx List.not_mem_nil) (by rw [List.length_nil]; omega)
  have hd1 : ∀ K : Unit → MH → RS Unit, bnd (F_Ex_substitute X (d : Int) r (kn : Int) (mPi h 95 3 ((rp : Int) + 1))) K = bnd (suL X FU (d : Int) r (kn : Int) ((0 : Nat) : Int) (mPi (mPi h 95 3 ((rp : Int) + 1)) r 5 0)) K := fun K => rfl
  have g95 : mGi (mPi h 95 3 ((rp : Int) + 1)) r 1 = ((100 - W.length : Nat) : Int) := by rw [gi_pi, if_neg (by omega), zw.1]
  have e0 : F_Ex_replace_18 X (d : Int) r (kn : Int) (last : Int) h = bnd (suL X FU (d : Int) r (kn : Int) ((0 : Nat) : Int) (mPi (mPi h 95 3 ((rp : Int) + 1)) r 5 0)) fun x19 h17 => bnd (F_To_joinAll (r + 3) 1200 (mGi h17 r 5) h17) fun x24 h22 => sto (mPi h22 r 5 x24) fun h27 => bnd (F_Ex_hide r (iOr (iAnd (ga : Int) (gc : Int)) (iShl (1 : Int) (kn : Int))) h27) fun x32 h30 => bnd (F_Ro_comeIn r (last : Int) h30) fun x37 h35 => if x37 = 0 then bnd (F_To_fail (1 : Int) h35) fun x43 h41 => some (.inl (), h41) else some (.inl (), h35) := by
    unfold F_Ex_replace_18
    rw [h3, gd_rg (by omega) (by omega)]
    simp only [sto_e]
    rw [g95, gd_b (by omega) (by omega), Int.toNat_natCast, gl_pi, ea, bnd_l, gd_b (by omega) (by omega), Int.toNat_natCast, gl_pi, ec, bnd_l, hd1]
  rw [e0]
  unfold repS
  rw [if_neg c1]
  by_cases c2 : (subT Xs (dD.2.1.getD []) ar false (rp + 1) md [] dD.2.2).1 ≠ 0
  · rw [if_pos c2]
    obtain ⟨h0, a1, a2, a3, a4⟩ := U.2 c2
    rw [a1, bnd_r]
    exact ⟨fun q => absurd q c2, fun _ => ⟨h0, rfl, x1.tr a2 (Nat.le_refl _), a3, a4⟩⟩
  have c2' : (subT Xs (dD.2.1.getD []) ar false (rp + 1) md [] dD.2.2).1 = 0 := Classical.byContradiction c2
  rw [if_neg c2]
  obtain ⟨h2, a1, a2, a3, S2, ok2⟩ := U.1 c2'
  rw [a1, bnd_l]
  generalize (subT Xs (dD.2.1.getD []) ar false (rp + 1) md [] dD.2.2).2.1 = rp2 at *
  generalize (subT Xs (dD.2.1.getD []) ar false (rp + 1) md [] dD.2.2).2.2.1 = md2 at *
  generalize (subT Xs (dD.2.1.getD []) ar false (rp + 1) md [] dD.2.2).2.2.2 = cm2 at *
  have hm2 := S2.1.2.1.2
  have J := to_joinAll (r := r) (rp := rp2) (by omega) S2.1.rm.1 S2.1.2.1 ok2 S2.2.2.2.2.2.2
  have jok := joinT_ok cm2.length cm2 rp2 md2 [] (Nat.le_refl _) (fun t ht => absurd ht List.not_mem_nil) ok2
  have jrp := joinT_rp cm2.length cm2 rp2 md2 [] (Nat.le_refl _)
  by_cases c3 : (joinT rp2 md2 [] cm2).1 ≠ 0
  · rw [if_pos c3]
    obtain ⟨⟨h0, b1, b2⟩, b3⟩ := J.2 c3
    rw [b1, bnd_r]
    have xf : XF d md2 h2 h0 := XF.fw b2 S2.2.1 hd (fun b i q => by unfold pQ at q; unfold pZ; omega) (fun b i q => by have : b = r + 3 := q; omega)
    exact ⟨fun q => absurd q c3, fun _ => ⟨h0, rfl, (x1.tr a2 (Nat.le_refl _)).tr xf a3, by rw [b3]; exact (b2.2.2.1 95 3 (by unfold pQ; omega)).trans S2.1.2.2.1, by rw [b3]; exact S2.1.2.2.2.2.2.2.2⟩⟩
  rw [if_neg c3]
  have c3' : (joinT rp2 md2 [] cm2).1 = 0 := Classical.byContradiction c3
  obtain ⟨h3', b1, b2, b3, b4, b5, b6, b7⟩ := J.1 c3'
  rw [b1, bnd_l]
  simp only [sto_e]
  rw [jrp]
  generalize (joinT rp2 md2 [] cm2).2.2.1 = md3 at *
  generalize (joinT rp2 md2 [] cm2).2.2.2 = l3 at *
  have hm3 := b5.2
  have hc2 := S2.2.2.2.2.2.2.2.1
  have f3 : FW (fun b i => (b = r ∧ i = 5) ∨ pQ md2 b i) (qK r) h2 (mPi h3' r 5 (l3.length : Int)) := FW.pi (b2.sub (fun b i q => .inr q) (fun _ _ q => q)) (.inl ⟨rfl, rfl⟩)
  have k3 : RowK (mPi h3' r 5 (l3.length : Int)) (402 + md3) r (um l3) := ⟨by rw [gi_s, um_len], by rw [um_len]; omega, TSg.cg (h := h3') (fun j _ => by rw [gi_pi, if_neg (by omega)]) (Nat.le_refl _) (by omega) (fun j _ _ => rfl) b6⟩
  have p3 : PlC (mPi h3' r 5 (l3.length : Int)) md3 := ⟨by rw [gi_pi, if_neg (by omega)]; exact b5.1, b5.2⟩
  obtain ⟨S3, x3⟩ := S2.fw hd f3 (fun b i q => q) (fun b i q => q) b4 p3 k3
  have hx : hC ((ga &&& gc) ||| 2 ^ kn) (orH (anH t.2.2 cl.2.2) fun i => decide (i = kn)) := (ha.and hc).or (hC.bit hkn)
  obtain ⟨h4, d1, d2, d3⟩ := ex_hide (M := 402 + md3) (by omega) hx (by omega) k3
  rw [iAnd_n ha.1 hc.1, iShl_n hkn, iOr_n (ha.and hc).1 (hC.bit hkn).1, d1, bnd_l]
  have hok := hide_ok (H := orH (anH t.2.2 cl.2.2) fun i => decide (i = kn)) jok
  generalize hideT (orH (anH t.2.2 cl.2.2) fun i => decide (i = kn)) l3 = n4' at *
  obtain ⟨S4, x4⟩ := S3.fw hd d2 (fun b i q => .inl q) (fun b i q => q) (Nat.le_refl _) ⟨(d2.2.2.1 87 1 (by unfold pK; omega)).trans p3.1, hm3⟩ d3
  have X4 : XF d md h h4 := ((x1.tr a2 (Nat.le_refl _)).tr x3 a3).tr x4 (by omega)
  by_cases c4 : 100 < n4'.length + R.length
  · rw [if_pos c4, ro_in0 d3 (by omega) (by omega), bnd_l, if_pos rfl]
    exact ⟨fun q => absurd q (by show ¬ (1 : Nat) = 0; decide), fun _ => ⟨h4, to_fail (why := 1) S4.1.rm.1 _, X4, S4.1.2.2.1, S4.1.2.2.2.2.2.2.2⟩⟩
  rw [if_neg c4]
  have sR : TSg h4 (402 + md3) (r + 1) (last + 1) (um R) := by
    have q := S4.2.2.1.2.2
    rw [s, TSg.app] at q
    have q2 := q.2
    rw [List.length_take, um_len, Nat.min_eq_left hlen1, hlen2] at q2
    exact q2
  obtain ⟨h5, i1, i2, i3⟩ := ro_in (M := 402 + md3) (r' := R) (last := last) (by omega) (by omega) d3 hl (by omega) sR
  rw [i1, bnd_l, if_neg (by decide)]
  have x5 : XF d md3 h4 h5 := XF.fw i2 S4.2.1 hd (fun b i q => by omega) (fun b i q => by omega)
  have hmm : md ≤ md3 := Nat.le_trans a3 b4
  have q87 : mGi h5 87 1 = (md3 : Int) := (i2.2.2.1 87 1 (fun q => by omega)).trans S4.1.2.1.1
  have q95 : mGi h5 95 3 = (rp2 : Int) := (i2.2.2.1 95 3 (fun q => by omega)).trans S4.1.2.2.1
  have C5 : Cm nm k0 h5 rp2 md3 := S4.1.xf x5 (Nat.le_refl _) ⟨q87, hm3⟩ q95 S4.1.2.2.2.2.2.2.2
  have D5 : RowD h5 (402 + md3) r dn := S4.2.2.2.1.cg (fun j _ => i2.2.2.1 88 j (fun q => by omega)) (Nat.le_refl _) (by omega) (i2.2.2.1 r 3 (fun q => by omega)) (fun j => i2.2.2.2 (r + 2) j (by omega))
  refine ⟨fun _ => ⟨h5, rfl, X4.tr x5 hmm, hmm, C5, i3, D5, fun t' ht => ?_⟩, fun q => absurd rfl q⟩
  rcases List.mem_append.mp (show t' ∈ n4' ++ R from ht) with q | q
  · exact hok t' q
  · exact okR t' q
end Rep
