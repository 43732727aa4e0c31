/-! the class's substitution -/
section Subl
variable {nm : Nm} {k0 d r : Nat} {h h' : MH} {Xs : Nat → Nat → List Tk → RT (List Tk)} {X : Int → Nat → Nat → Int → Int → MH → RS Nat} {W dn : List Tk} {c0 : Nat} {ar : List (List Tk)} {rp md : Nat} {cm : List (Tk × Bool)}
theorem lp_le : ∀ (l : List (List Tk)) (c : Nat), c ≤ lp c l
  | [], c => Nat.le_refl _
  | a :: l, c => by have := lp_le l (c + 1 + a.length); show c ≤ lp (c + 1 + a.length) l; omega
theorem CuP.pos {M : Nat} : ∀ {l : List (List Tk)} {j c : Nat} (_ : CuP h M r j c l) (_ : j ≤ 3 → mGi h (r + 4) j = (c : Int)) {i : Nat}, i < l.length → j + i < 3 → ∀ p : Nat, mGi h (r + 4) (j + i) = (p : Int) → p + 1 + (l.getD i []).length ≤ lp c l
  | [], _, _, _, _, i, hi, _, _, _ => absurd hi (Nat.not_lt_zero _)
  | a :: l, j, c, z, e, 0, _, h3, p, hp => by
    have q := e (by omega)
    have hp' : mGi h (r + 4) j = (p : Int) := hp
    rw [q] at hp'
    have := lp_le l (c + 1 + a.length)
    show p + 1 + a.length ≤ lp (c + 1 + a.length) l
    omega
  | a :: l, j, c, z, e, i + 1, hi, h3, p, hp => by
    rw [List.length_cons] at hi
    exact CuP.pos z.2.2 (fun _ => z.1 (by omega)) (i := i) (by omega) (by omega) p (by rw [show j + 1 + i = j + (i + 1) by omega]; exact hp)
theorem pix_lt {ps : List (List Int)} {x : List Int} {j : Nat} (e : pix ps x = some j) : j < ps.length ∧ x ∈ ps := by
  unfold pix at e
  rw [List.findIdx?_eq_some_iff_getElem] at e
  obtain ⟨h1, h2, -⟩ := e
  refine ⟨h1, ?_⟩
  have q := of_decide_eq_true h2
  rw [← q]
  exact List.getElem_mem h1
def wds (ps : List (List Int)) : Prop := ∀ p ∈ ps, cL (p.getD 0 0) = true
theorem wds.ne {ps : List (List Int)} (z : wds ps) : [] ∉ ps := fun q => absurd (z [] q) (by decide)
theorem wds.jn {ps : List (List Int)} {x : List Int} {j k : Nat} (z : wds ps) (e : pix ps x = some j) : isJn k x = false := by
  unfold isJn
  refine decide_eq_false fun q => ?_
  have := z x (pix_lt e).2
  rw [q.2] at this
  exact absurd this (by decide)
theorem dr_cons {B B' : List (Nat × List Int)} {k kd : Nat} {x : List Int} (e : B.drop k = (kd, x) :: B') : k < B.length ∧ B[k]? = some (kd, x) ∧ B.drop (k + 1) = B' := by
  have hl : k < B.length := by
    have := congrArg List.length e
    rw [List.length_drop, List.length_cons] at this
    omega
  refine ⟨hl, ?_, ?_⟩
  · have := congrArg (fun l => l[0]?) e
    simpa using this
  · rw [← List.drop_drop, e]
    rfl
theorem bTk_hd {B B' : List (Nat × List Int)} {k : Nat} (e : B.drop k = B') : (bTk B (k : Int)) = ((hdx B').1, (hdx B').2, noH) := by
  unfold bTk
  rw [if_neg (by omega), Int.toNat_natCast]
  have q : B[k]? = B'[0]? := by rw [← e]; simp
  rw [q]
  cases B' with
  | nil => rfl
  | cons y l => obtain ⟨a, b⟩ := y; rfl
noncomputable def suL (X : Int → Nat → Nat → Int → Int → MH → RS Nat) (f : Nat) (v1 : Int) (v2 : Nat) (v3 v4 : Int) (h : MH) : RS Unit := itr (fun self (q : Int × Nat × Int × Int × MH) => F_Ex_substitute_8_b X (fun v1 v2 v3 v4 h => self (v1, v2, v3, v4, h)) q.1 q.2.1 q.2.2.1 q.2.2.2.1 q.2.2.2.2) f (v1, v2, v3, v4, h)
theorem suL_s {f : Nat} {v1 : Int} {v2 : Nat} {v3 v4 : Int} : suL X (f + 1) v1 v2 v3 v4 h = F_Ex_substitute_8_b X (suL X f) v1 v2 v3 v4 h := rfl
theorem NmC.bl {M k : Nat} {dD : NmD} (z : NmC h M nm) (hk : k < 8) (hD : nm k = some dD) : mGi h 93 k = (dD.2.2.length : Int) ∧ mGi h 91 k = psN dD.2.1 := by
  obtain ⟨w, ps, b⟩ := dD
  have zk := z k hk
  rw [hD] at zk
  exact ⟨zk.2.2.2.1, zk.2.1⟩
theorem su_l {kn : Nat} {dD : NmD} (HX : HXc nm k0 d r Xs X) (hkn : kn < 8) (hD : nm kn = some dD) (hd : d < 8) (hps : wds (dD.2.1.getD [])) (hp3 : (dD.2.1.getD []).length ≤ 3) (hpa : (dD.2.1.getD []).length ≤ ar.length) (hB : dD.2.2.length ≤ 12) (okB : ∀ b ∈ dD.2.2, okT (b.1, b.2, noH)) (hW : W.length ≤ 100) (hb : ∀ a ∈ ar, a.length ≤ 100 ∧ ∀ t ∈ a, okT t) (hlp : lp c0 ar ≤ 99) :
    ∀ (N : Nat) (B' : List (Nat × List Int)) (f k : Nat) (h : MH) (rp md : Nat) (cm : List (Tk × Bool)) (pj : Bool), B'.length ≤ N → N < f → dD.2.2.drop k = B' → pj = isJn (bTk dD.2.2 ((k : Int) - 1)).1 (bTk dD.2.2 ((k : Int) - 1)).2.1 → k ≤ 100 → SI nm k0 d r W dn c0 ar h rp md cm → (∀ x ∈ cm, okT x.1) → cm.length + 100 * B'.length ≤ 1200 →
    ((subT Xs (dD.2.1.getD []) ar pj rp md cm B').1 = 0 → ∃ h', suL X f (d : Int) r (kn : Int) (k : Int) h = some (.inl (), h') ∧ XF d md h h' ∧ md ≤ (subT Xs (dD.2.1.getD []) ar pj rp md cm B').2.2.1 ∧ SI nm k0 d r W dn c0 ar h' (subT Xs (dD.2.1.getD []) ar pj rp md cm B').2.1 (subT Xs (dD.2.1.getD []) ar pj rp md cm B').2.2.1 (subT Xs (dD.2.1.getD []) ar pj rp md cm B').2.2.2 ∧ ∀ x ∈ (subT Xs (dD.2.1.getD []) ar pj rp md cm B').2.2.2, okT x.1) ∧
    ((subT Xs (dD.2.1.getD []) ar pj rp md cm B').1 ≠ 0 → ∃ h0, suL X f (d : Int) r (kn : Int) (k : Int) h = some (.inr 13, mNew (mPi h0 87 2 ((subT Xs (dD.2.1.getD []) ar pj rp md cm B').1 : Int)) 13 6) ∧ XF d md h h0 ∧ mGi h0 95 3 = ((subT Xs (dD.2.1.getD []) ar pj rp md cm B').2.1 : Int) ∧ (subT Xs (dD.2.1.getD []) ar pj rp md cm B').2.1 ≤ 400) := by
  intro N
  induction N with
  | zero =>
    intro B' f k h rp md cm pj hN hf hk hpj hk100 z ok hc
    obtain ⟨f, rfl⟩ : ∃ g, f = g + 1 := ⟨f - 1, by omega⟩
    have : B' = [] := List.eq_nil_of_length_eq_zero (by omega)
    subst this
    have hle : dD.2.2.length ≤ k := by
      have := congrArg List.length hk
      rw [List.length_drop, List.length_nil] at this
      omega
    have zk := (z.1.1.bl hkn hD).1
    rw [subT]
    refine ⟨fun _ => ⟨h, ?_, XF.rf, Nat.le_refl _, z, ok⟩, fun q => absurd rfl q⟩
    rw [suL_s, F_Ex_substitute_8_b, gd_b (by omega) (by omega), Int.toNat_natCast, zk, if_pos (by omega)]
  | succ N ih =>
    intro B' f k h rp md cm pj hN hf hk hpj hk100 z ok hc
    obtain ⟨f, rfl⟩ : ∃ g, f = g + 1 := ⟨f - 1, by omega⟩
    have zk := (z.1.1.bl hkn hD).1
    have hm := z.1.2.1.2
    cases B' with
    | nil =>
      have hle : dD.2.2.length ≤ k := by
        have := congrArg List.length hk
        rw [List.length_drop, List.length_nil] at this
        omega
      rw [subT]
      refine ⟨fun _ => ⟨h, ?_, XF.rf, Nat.le_refl _, z, ok⟩, fun q => absurd rfl q⟩
      rw [suL_s, F_Ex_substitute_8_b, gd_b (by omega) (by omega), Int.toNat_natCast, zk, if_pos (by omega)]
    | cons y R =>
      obtain ⟨kd, x⟩ := y
      rw [List.length_cons] at hN hc
      obtain ⟨hkl, hget, hdr⟩ := dr_cons hk
      have b0 : bTk dD.2.2 (k : Int) = (kd, x, noH) := bTk_hd hk
      have b1 : bTk dD.2.2 ((k : Int) + 1) = ((hdx R).1, (hdx R).2, noH) := by
        have := bTk_hd hdr
        rw [show ((k + 1 : Nat) : Int) = (k : Int) + 1 by omega] at this
        exact this
      obtain ⟨v0, e0, y0⟩ := na_body z.1.1 hkn hD (by omega) (j := (k : Int)) (by omega) (by omega)
      obtain ⟨v1, e1, y1⟩ := na_body z.1.1 hkn hD (by omega) (j := (k : Int) + 1) (by omega) (by omega)
      obtain ⟨vp, ep, yp⟩ := na_body z.1.1 hkn hD (by omega) (j := (k : Int) - 1) (by omega) (by omega)
      rw [b0] at y0
      rw [b1] at y1
      have p0 := na_par z.1.1 hkn hD y0
      have p1 := na_par z.1.1 hkn hD y1
      change F_Na_parameterOf (kn : Int) v0 h = some (.inl (oI (pix (dD.2.1.getD []) x)), h) at p0
      change F_Na_parameterOf (kn : Int) v1 h = some (.inl (oI (pix (dD.2.1.getD []) (hdx R).2)), h) at p1
      have okx : okT (kd, x, noH) := okB (kd, x) (List.mem_of_getElem? hget)
      -- go on behind this token
      have next : ∀ (n : Nat) (h1 : MH) (rp1 md1 : Nat) (cm1 : List (Tk × Bool)) (pj1 : Bool) (R' : List (Nat × List Int)), (n = 1 ∧ R' = R ∨ n = 2 ∧ R' = R.tail ∧ R ≠ []) → pj1 = isJn (bTk dD.2.2 ((k : Int) + (n : Int) - 1)).1 (bTk dD.2.2 ((k : Int) + (n : Int) - 1)).2.1 → XF d md h h1 → md ≤ md1 → SI nm k0 d r W dn c0 ar h1 rp1 md1 cm1 → (∀ x ∈ cm1, okT x.1) → cm1.length ≤ cm.length + 100 →
          ((subT Xs (dD.2.1.getD []) ar pj1 rp1 md1 cm1 R').1 = 0 → ∃ h', gd (inR ((k : Int) + (n : Int))) (suL X f (d : Int) r (kn : Int) ((k : Int) + (n : Int)) h1) = some (.inl (), h') ∧ XF d md h h' ∧ md ≤ (subT Xs (dD.2.1.getD []) ar pj1 rp1 md1 cm1 R').2.2.1 ∧ SI nm k0 d r W dn c0 ar h' (subT Xs (dD.2.1.getD []) ar pj1 rp1 md1 cm1 R').2.1 (subT Xs (dD.2.1.getD []) ar pj1 rp1 md1 cm1 R').2.2.1 (subT Xs (dD.2.1.getD []) ar pj1 rp1 md1 cm1 R').2.2.2 ∧ ∀ x ∈ (subT Xs (dD.2.1.getD []) ar pj1 rp1 md1 cm1 R').2.2.2, okT x.1) ∧
          ((subT Xs (dD.2.1.getD []) ar pj1 rp1 md1 cm1 R').1 ≠ 0 → ∃ h0, gd (inR ((k : Int) + (n : Int))) (suL X f (d : Int) r (kn : Int) ((k : Int) + (n : Int)) h1) = some (.inr 13, mNew (mPi h0 87 2 ((subT Xs (dD.2.1.getD []) ar pj1 rp1 md1 cm1 R').1 : Int)) 13 6) ∧ XF d md h h0 ∧ mGi h0 95 3 = ((subT Xs (dD.2.1.getD []) ar pj1 rp1 md1 cm1 R').2.1 : Int) ∧ (subT Xs (dD.2.1.getD []) ar pj1 rp1 md1 cm1 R').2.1 ≤ 400) := by
        intro n h1 rp1 md1 cm1 pj1 R' hn hpj1 xf hm1 z1 ok1 hc1
        have hR' : dD.2.2.drop (k + n) = R' ∧ R'.length ≤ R.length ∧ n ≤ 2 ∧ k + n ≤ 100 := by
          rcases hn with ⟨rfl, rfl⟩ | ⟨rfl, rfl, hne⟩
          · exact ⟨hdr, Nat.le_refl _, by decide, by omega⟩
          · refine ⟨?_, by rw [List.length_tail]; omega, by decide, by omega⟩
            rw [show k + 2 = k + 1 + 1 by omega, ← List.drop_drop, hdr, List.drop_one]
        obtain ⟨r1, r2, r3, r4⟩ := hR'
        have i := ih R' f (k + n) h1 rp1 md1 cm1 pj1 (by omega) (by omega) r1 (by rw [show ((k + n : Nat) : Int) = (k : Int) + (n : Int) by omega]; exact hpj1) r4 z1 ok1 (by
          have : R'.length ≤ R.length := r2
          omega)
        rw [show ((k + n : Nat) : Int) = (k : Int) + (n : Int) by omega] at i
        rw [gd_rg (by omega) (by omega)]
        refine ⟨fun q => ?_, fun q => ?_⟩
        · obtain ⟨h2, a1, a2, a3, a4⟩ := i.1 q
          exact ⟨h2, a1, xf.tr a2 hm1, by omega, a4⟩
        · obtain ⟨h0, a1, a2, a3⟩ := i.2 q
          exact ⟨h0, a1, xf.tr a2 hm1, a3⟩
      rw [subT_u hps.ne, suL_s, F_Ex_substitute_8_b, gd_b (by omega) (by omega), Int.toNat_natCast, zk, if_neg (show ¬ (dD.2.2.length : Int) ≤ (k : Int) by omega), e0, bnd_l, p0, bnd_l, gd_rg (by omega) (by omega), e1, bnd_l, p1, bnd_l]
      -- no string
      have plain : ¬ (kd = 4 ∧ x = [35] ∧ (pix (dD.2.1.getD []) (hdx R).2).isSome = true) → ∀ S : RT (List (Tk × Bool)), S = (match pix (dD.2.1.getD []) x with
            | none => subT Xs (dD.2.1.getD []) ar (isJn kd x) rp md (cm ++ [((kd, x, noH), isJn kd x)]) R
            | some j => if pj = true ∨ isJn (hdx R).1 (hdx R).2 = true then subT Xs (dD.2.1.getD []) ar false rp md (cm ++ (if ar.getD j [] = [] then [(nTk, false)] else um (ar.getD j []))) R
              else if (Xs rp md (ar.getD j [])).1 = 0 then subT Xs (dD.2.1.getD []) ar false (Xs rp md (ar.getD j [])).2.1 (Xs rp md (ar.getD j [])).2.2.1 (cm ++ um (Xs rp md (ar.getD j [])).2.2.2) R else ((Xs rp md (ar.getD j [])).1, (Xs rp md (ar.getD j [])).2.1, (Xs rp md (ar.getD j [])).2.2.1, cm)) →
          (S.1 = 0 → ∃ h', F_Ex_substitute_134 X (suL X f) (d : Int) r (kn : Int) (k : Int) v0 (oI (pix (dD.2.1.getD []) x)) h = some (.inl (), h') ∧ XF d md h h' ∧ md ≤ S.2.2.1 ∧ SI nm k0 d r W dn c0 ar h' S.2.1 S.2.2.1 S.2.2.2 ∧ ∀ x ∈ S.2.2.2, okT x.1) ∧
          (S.1 ≠ 0 → ∃ h0, F_Ex_substitute_134 X (suL X f) (d : Int) r (kn : Int) (k : Int) v0 (oI (pix (dD.2.1.getD []) x)) h = some (.inr 13, mNew (mPi h0 87 2 (S.1 : Int)) 13 6) ∧ XF d md h h0 ∧ mGi h0 95 3 = (S.2.1 : Int) ∧ S.2.1 ≤ 400) := by
        intro _ S hS
        unfold F_Ex_substitute_134
        cases hpx : pix (dD.2.1.getD []) x with
        | none =>
          rw [hpx] at hS
          simp only at hS
          have bn : isJn kd x = isJn (bTk dD.2.2 ((k : Int) + ((1 : Nat) : Int) - 1)).1 (bTk dD.2.2 ((k : Int) + ((1 : Nat) : Int) - 1)).2.1 := by
            rw [show (k : Int) + ((1 : Nat) : Int) - 1 = (k : Int) by omega, b0]
          rw [if_pos (by show (-1 : Int) < 0; decide), to_jn y0, bnd_l]
          unfold F_Ex_substitute_227 F_Ex_substitute_230
          have fin : ∀ (v : Int64) (b : Bool), b = isJn kd x → TC h (402 + md) v (kd, x, noH) b → (S.1 = 0 → ∃ h', (bnd (F_Ro_bring r v h) fun x4 h2 => gd (inR ((k : Int) + (1 : Int))) (suL X f (d : Int) r (kn : Int) ((k : Int) + (1 : Int)) h2)) = some (.inl (), h') ∧ XF d md h h' ∧ md ≤ S.2.2.1 ∧ SI nm k0 d r W dn c0 ar h' S.2.1 S.2.2.1 S.2.2.2 ∧ ∀ x ∈ S.2.2.2, okT x.1) ∧ (S.1 ≠ 0 → ∃ h0, (bnd (F_Ro_bring r v h) fun x4 h2 => gd (inR ((k : Int) + (1 : Int))) (suL X f (d : Int) r (kn : Int) ((k : Int) + (1 : Int)) h2)) = some (.inr 13, mNew (mPi h0 87 2 (S.1 : Int)) 13 6) ∧ XF d md h h0 ∧ mGi h0 95 3 = (S.2.1 : Int) ∧ S.2.1 ≤ 400) := by
            intro v b hb yv
            obtain ⟨h1, x1, f1, z1⟩ := z.bring hd yv (by omega)
            rw [x1, bnd_l, hS]
            rw [hb] at z1
            exact next 1 h1 rp md _ _ R (.inl ⟨rfl, rfl⟩) bn f1 (Nat.le_refl _) z1 (fun y hy => by rcases List.mem_append.mp hy with q | q; exact ok y q; rw [List.mem_singleton.mp q]; exact okx) (by rw [List.length_append, List.length_singleton]; omega)
          by_cases cj : isJn kd x = true
          · rw [cj, if_neg (show ¬ bI true = 0 by decide)]
            obtain ⟨s, g, a1, a2, a3, a4, a5⟩ := y0
            exact fin _ true cj.symm ⟨s, g, a1.join, a2, a3, a4, a5⟩
          · have cj' := Bool.eq_false_iff.mpr cj
            rw [cj', if_pos (show bI false = 0 from rfl)]
            exact fin v0 false cj'.symm y0
        | some j =>
          rw [hpx] at hS
          simp only at hS
          have hjl := (pix_lt hpx).1
          have bn : false = isJn (bTk dD.2.2 ((k : Int) + ((1 : Nat) : Int) - 1)).1 (bTk dD.2.2 ((k : Int) + ((1 : Nat) : Int) - 1)).2.1 := by
            rw [show (k : Int) + ((1 : Nat) : Int) - 1 = (k : Int) by omega, b0]
            exact (hps.jn hpx).symm
          have A := fun pl => ex_arg (j := j) (pl := pl) HX z hd (by omega) (by omega) hW hb (fun p hp => by
            have q := z.2.2.2.2.1.pos (fun _ => z.2.2.2.2.2.1 (ne_lt (show j < ar.length by omega))) (i := j) (by omega) (by omega) p (by rw [Nat.zero_add]; exact hp)
            omega) (by omega)
          have okar : ∀ t ∈ ar.getD j [], okT t := by
            have hm : ar.getD j [] ∈ ar := by
              rw [List.getD_eq_getElem?_getD, List.getElem?_eq_getElem (by omega)]
              exact List.getElem_mem _
            exact (hb _ hm).2
          have lar : (ar.getD j []).length ≤ 100 := by
            have hm : ar.getD j [] ∈ ar := by
              rw [List.getD_eq_getElem?_getD, List.getElem?_eq_getElem (by omega)]
              exact List.getElem_mem _
            exact (hb _ hm).1
          rw [if_neg (by show ¬ (j : Int) < 0; omega), gd_rg (by omega) (by omega), ep, bnd_l, to_jn yp, bnd_l, ← hpj]
          have q188 : ∀ pl : Bool, (pl = true ↔ (pj = true ∨ isJn (hdx R).1 (hdx R).2 = true)) → (S.1 = 0 → ∃ h', F_Ex_substitute_188 X (suL X f) (d : Int) r (kn : Int) (k : Int) (j : Int) (bI pl) h = some (.inl (), h') ∧ XF d md h h' ∧ md ≤ S.2.2.1 ∧ SI nm k0 d r W dn c0 ar h' S.2.1 S.2.2.1 S.2.2.2 ∧ ∀ x ∈ S.2.2.2, okT x.1) ∧ (S.1 ≠ 0 → ∃ h0, F_Ex_substitute_188 X (suL X f) (d : Int) r (kn : Int) (k : Int) (j : Int) (bI pl) h = some (.inr 13, mNew (mPi h0 87 2 (S.1 : Int)) 13 6) ∧ XF d md h h0 ∧ mGi h0 95 3 = (S.2.1 : Int) ∧ S.2.1 ≤ 400) := by
            intro pl hpl
            obtain ⟨A1, A2, A3⟩ := A pl
            unfold F_Ex_substitute_188 F_Ex_substitute_230
            rw [gd_t bI_01]
            cases pl with
            | true =>
              rw [if_pos (hpl.mp rfl)] at hS
              obtain ⟨h1, x1, f1, z1⟩ := A1 rfl
              rw [x1, bnd_l, hS]
              refine next 1 h1 rp md _ _ R (.inl ⟨rfl, rfl⟩) bn f1 (Nat.le_refl _) z1 (fun y hy => ?_) ?_
              · rcases List.mem_append.mp hy with q | q
                · exact ok y q
                · by_cases c : ar.getD j [] = []
                  · rw [if_pos c] at q
                    rw [List.mem_singleton.mp q]; exact okT_n
                  · rw [if_neg c] at q
                    unfold um at q
                    obtain ⟨t, ht, rfl⟩ := List.mem_map.mp q
                    exact okar t ht
              · rw [List.length_append]
                by_cases c : ar.getD j [] = []
                · rw [if_pos c]; simp
                · rw [if_neg c, um_len]; omega
            | false =>
              rw [if_neg (fun q => absurd (hpl.mpr q) (by decide))] at hS
              by_cases x0 : (Xs rp md (ar.getD j [])).1 = 0
              · rw [if_pos x0] at hS
                obtain ⟨h1, x1, f1, hm1, z1, ok1, l1⟩ := A2 rfl x0
                rw [x1, bnd_l, hS]
                refine next 1 h1 _ _ _ _ R (.inl ⟨rfl, rfl⟩) bn f1 hm1 z1 (fun y hy => ?_) (by rw [List.length_append, um_len]; omega)
                rcases List.mem_append.mp hy with q | q
                · exact ok y q
                · unfold um at q
                  obtain ⟨t, ht, rfl⟩ := List.mem_map.mp q
                  exact ok1 t ht
              · rw [if_neg x0] at hS
                obtain ⟨h0, x1, f1, a1, a2⟩ := A3 rfl x0
                rw [x1, bnd_r, hS]
                exact ⟨fun q => absurd q x0, fun _ => ⟨h0, rfl, f1, a1, a2⟩⟩
          unfold F_Ex_substitute_183
          by_cases cp : pj = true
          · rw [cp, if_neg (show ¬ bI true = 0 by decide)]
            exact q188 true ⟨fun _ => .inl cp, fun _ => rfl⟩
          · have cp' := Bool.eq_false_iff.mpr cp
            rw [cp', if_pos (show bI false = 0 from rfl), gd_rg (by omega) (by omega), e1, bnd_l, to_jn y1, bnd_l]
            by_cases cn : isJn (hdx R).1 (hdx R).2 = true
            · rw [cn, if_neg (show ¬ bI true = 0 by decide)]
              exact q188 true ⟨fun _ => .inr cn, fun _ => rfl⟩
            · have cn' := Bool.eq_false_iff.mpr cn
              rw [cn', if_pos (show bI false = 0 from rfl)]
              exact q188 false ⟨fun q => (by cases q), fun q => by rcases q with q | q; exact absurd q cp; exact absurd q cn⟩
      by_cases cs : kd = 4 ∧ x = [35] ∧ (pix (dD.2.1.getD []) (hdx R).2).isSome = true
      · rw [if_pos cs]
        obtain ⟨j, hj⟩ := Option.isSome_iff_exists.mp cs.2.2
        have hjl := (pix_lt hj).1
        have hRne : R ≠ [] := fun q => by
          rw [q] at hj
          exact hps.ne (pix_lt hj).2
        have sg : isSg (kd, x, noH) 35 = true := decide_eq_true ⟨cs.1, cs.2.1⟩
        rw [hj]
        simp only [Option.getD_some]
        rw [if_neg (show ¬ oI (some j) < 0 by show ¬ (j : Int) < 0; omega), to_sign y0, bnd_l, sg, if_neg (show ¬ bI true = 0 by decide)]
        obtain ⟨p, q1, q2, q3⟩ := z.2.2.2.2.1.get (fun _ => z.2.2.2.2.2.1 (ne_lt (show j < ar.length by omega))) (i := j) (by omega) (by omega)
        rw [Nat.zero_add] at q1 q2
        have hp := z.2.2.2.2.1.pos (fun _ => z.2.2.2.2.2.1 (ne_lt (show j < ar.length by omega))) (i := j) (by omega) (by omega) p (by rw [Nat.zero_add]; exact q1)
        have hr150 := (z.1.2.2.2.1.1 d hd r z.2.1).2
        have lar : (ar.getD j []).length ≤ 100 ∧ ∀ t ∈ ar.getD j [], okT t := by
          have hm : ar.getD j [] ∈ ar := by
            rw [List.getD_eq_getElem?_getD, List.getElem?_eq_getElem (by omega)]
            exact List.getElem_mem _
          exact hb _ hm
        have T := to_str (a := r + 1) (an := 100) (p := p + 1) (l := ar.getD j []) z.1.rm.1 (by decide) (by omega) z.1.2.1 lar.1 (by omega) q3
        have hoi : oI (some j) = (j : Int) := rfl
        rw [hoi, gd_b (by omega) (by omega), Int.toNat_natCast, q1, gd_rg (by omega) (by omega), gd_rg (by omega) (by omega), gd_b (by omega) (by omega), show ((j : Int) + 1).toNat = j + 1 by omega, q2, show (p : Int) + 1 = ((p + 1 : Nat) : Int) by omega]
        by_cases cl : 900 < md + (strK (ar.getD j [])).length
        · rw [if_pos cl, T.1 cl, bnd_r]
          exact ⟨fun q => absurd q (by show ¬ (1 : Nat) = 0; decide), fun _ => ⟨h, rfl, XF.rf, z.1.2.2.1, z.1.2.2.2.2.2.2.2⟩⟩
        · rw [if_neg cl]
          obtain ⟨h1, v, x1, f1, pl1, y5⟩ := T.2 (by omega)
          have e88 : ∀ i, i < 402 + md → mGi h1 88 i = mGi h 88 i := fun i hi => f1.2.2.1 88 i (by unfold pQ; omega)
          obtain ⟨z1, xf1⟩ := z.fw hd f1 (fun b i q => .inr q) (fun b i q => q.elim) (by omega) pl1 (z.2.2.2.2.2.2.cg e88 (by omega) (by omega) (f1.2.2.1 r 5 (by unfold pQ; omega)) (fun i => f1.2.2.2 (r + 3) i id))
          obtain ⟨h2, x2, xf2, z2⟩ := z1.bring hd y5 (by omega)
          rw [x1, bnd_l, x2, bnd_l]
          unfold F_Ex_substitute_230
          have bn : false = isJn (bTk dD.2.2 ((k : Int) + ((2 : Nat) : Int) - 1)).1 (bTk dD.2.2 ((k : Int) + ((2 : Nat) : Int) - 1)).2.1 := by
            rw [show (k : Int) + ((2 : Nat) : Int) - 1 = (k : Int) + 1 by omega, b1]
            exact (hps.jn hj).symm
          have okS : okT (3, strK (ar.getD j []), noH) := by
            refine ⟨fun c hc => ?_, fun q => by unfold strK at q; cases q⟩
            have hs : ∀ (l : List Tk), (∀ t ∈ l, okT t) → ∀ c ∈ stR true l ++ stR false l, lgl c := by
              intro l
              induction l with
              | nil =>
                intro _ c hc
                have : c = 34 := by simpa [stR] using hc
                exact .inr (by omega)
              | cons t l ih =>
                intro hl c hc
                have it := ih (fun t ht => hl t (List.mem_cons_of_mem _ ht))
                have h1 := hl t List.mem_cons_self
                have gen : ∀ b, c ∈ stR b (t :: l) → lgl c := fun b hb => by
                  rw [stR] at hb
                  rcases List.mem_append.mp hb with q | q
                  · cases b with
                    | true => rw [if_pos rfl] at q; cases q
                    | false =>
                      rw [if_neg (by decide)] at q
                      have : c = 32 := by simpa using q
                      exact .inr (by omega)
                  · rcases List.mem_append.mp q with q | q
                    · exact h1.1 c q
                    · exact it c (List.mem_append.mpr (.inr q))
                rcases List.mem_append.mp hc with q | q
                · exact gen true q
                · exact gen false q
            rw [show (3, strK (ar.getD j []), noH).2.1 = strK (ar.getD j []) from rfl, strK_e] at hc
            rcases List.mem_cons.mp hc with q | q
            · exact .inr (by omega)
            · exact hs _ lar.2 c (List.mem_append.mpr (.inl q))
          have e2 : (gd (inR ((k : Int) + (1 : Int) + (1 : Int))) (suL X f (d : Int) r (kn : Int) ((k : Int) + (1 : Int) + (1 : Int)) h2)) = gd (inR ((k : Int) + ((2 : Nat) : Int))) (suL X f (d : Int) r (kn : Int) ((k : Int) + ((2 : Nat) : Int)) h2) := by
            rw [show (k : Int) + 1 + 1 = (k : Int) + ((2 : Nat) : Int) by omega]
          rw [e2]
          exact next 2 h2 rp _ _ _ R.tail (.inr ⟨rfl, rfl, hRne⟩) bn (xf1.tr xf2 (by omega)) (by omega) z2 (fun y hy => by rcases List.mem_append.mp hy with q | q; exact ok y q; rw [List.mem_singleton.mp q]; exact okS) (by rw [List.length_append, List.length_singleton]; omega)
      · rw [if_neg cs]
        cases hpn : pix (dD.2.1.getD []) (hdx R).2 with
        | none =>
          rw [if_pos (by show (-1 : Int) < 0; decide)]
          exact plain cs _ rfl
        | some j =>
          rw [if_neg (by show ¬ (j : Int) < 0; omega), to_sign y0, bnd_l]
          have sg : isSg (kd, x, noH) 35 = false := decide_eq_false (fun q => cs ⟨q.1, q.2, by rw [hpn]; rfl⟩)
          rw [sg, if_pos (show bI false = 0 from rfl)]
          exact plain cs _ rfl
end Subl
