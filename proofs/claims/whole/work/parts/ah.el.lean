/-! the reference's values: the loop -/
section El
variable {h h' : MH} {M : Nat} {vs r : VS} {sg : List Int} {s st : Int} {a b v : Int64 × Bool} {u : Int64} {t : Tk} {m : Bool}
theorem rE.cg {P : Prop} (z : rE h P) (e : mGi h' 107 1 = mGi h 107 1) : rE h' P := ⟨fun q => e.trans (z.1 q), fun q => e.trans (z.2 q)⟩
/-- a bracket closes -/
theorem go_c (z : EsF h v r sg) (hf : finV sg (v :: r)) (w : ∀ s ∈ sg, sgP s) (hb : r.length = bin sg) (hr : r.length ≤ 110) (hs : sg.length ≤ 110) :
    ∃ v' r' sg', apd 1 sg (v :: r) = (v' :: r', sg') ∧ r'.length = bin sg' ∧ (∀ s ∈ sg', sgP s) ∧ r'.length ≤ r.length ∧ sg'.length ≤ sg.length ∧ (∀ x q, sg' = x :: q → x = 40) ∧
      ∃ h', F_M_goesOn_53 41 h = some (.inl 0, h') ∧ FW pEr qEr h h' ∧ (sg' = [] → mGi h' 107 1 = 9) ∧ (∀ x q, sg' = x :: q → finV sg' (v' :: r') → EsF h' v' r' q) ∧ (¬ finV sg' (v' :: r') → mGi h' 107 1 = 9) := by
  obtain ⟨h1, v', r', sg', a1, a2, a3, a4, a5, a6, a7, a8, a9⟩ := rd_l (st := 1) (by decide) (by decide) sg FU v r h (by unfold FU; omega) z w hb hr hs
  have h40 : ∀ x q, sg' = x :: q → x = 40 := fun x q e => (strn_neg (a6 x (by rw [e]; exact List.mem_cons_self))).2 (a9 x q e)
  refine ⟨v', r', sg', a1, a5, a6, a7, a8, h40, ?_⟩
  rw [go_104 (by decide) (.inl rfl) (z.2.2.2.2.2.1 hf)]
  unfold F_M_goesOn_104
  have a2' : F_M_reduceTo (if (41 : Int) = 41 then 1 else strn 41) h = some (.inl (), h1) := a2
  rw [a2', bnd_l, if_pos rfl, a4.2.1]
  have e145 : ∀ (y : Int) (h : MH), F_M_goesOn_145 41 y h = some (.inl 0, h) := fun y h => by unfold F_M_goesOn_145; rw [if_pos rfl]
  cases sg' with
  | nil =>
    obtain ⟨h2, y, b1, b2, -, b4⟩ := need9 (x := 0) (.inl rfl) a4.2.2.2.2.2
    obtain ⟨q1, q2⟩ := b4 (fun q => absurd q.2 (by decide))
    rw [if_pos (by decide)]
    unfold F_M_goesOn_127
    rw [gd_01a, b1, bnd_l, if_pos q1, e145]
    exact ⟨h2, rfl, a3.tr (b2.sub (fun b i q => by unfold pEr; omega) (fun _ _ q => q.elim)), fun _ => q2, fun x q e => (by cases e), fun _ => q2⟩
  | cons x sg' =>
    have hx := h40 x sg' rfl
    subst hx
    have hu : ¬ ((40 : Int) < 65536 ∧ (40 : Int) ≠ 40) := by omega
    rw [List.length_cons, if_neg (by omega)]
    obtain ⟨h2, y, b1, b2, b3, b4⟩ := need9 (x := 1) (.inr rfl) a4.2.2.2.2.2
    unfold F_M_goesOn_127
    rw [gd_01b, b1, bnd_l]
    by_cases cf : finV (40 :: sg') (v' :: r')
    · obtain ⟨q1, q2⟩ := b3 cf rfl
      subst q2
      obtain ⟨z1, z2, z3, z4, z5, z6⟩ := a4
      rw [List.length_cons] at z2
      have a8' : sg'.length + 1 ≤ sg.length := a8
      rw [q1, if_neg (by decide), z2, gd_rg (by omega) (by omega), sto_e, e145]
      have gi : ∀ b i, ¬ (b = 107 ∧ i = 50) → mGi (mPi h2 107 50 (((sg'.length + 1 : Nat) : Int) - 1)) b i = mGi h2 b i := fun b i hb => by rw [gi_pi, if_neg hb]
      refine ⟨_, rfl, FW.pi a3 (by unfold pEr; omega), fun e => (by cases e), fun x q e _ => ?_, fun q => absurd cf q⟩
      cases e
      rw [nS_u hu] at z3
      rw [SgR_u hu] at z5
      refine ⟨(gi 107 49 (by omega)).trans z1, by rw [gi_s]; omega, (gi 107 51 (by omega)).trans z3, VsR.cg (h := h2) (fun j _ => rfl) z4, SgR.cg (fun j _ => ⟨gi 147 j (by omega), gi 148 j (by omega)⟩) z5.2, fun q => (gi 107 1 (by omega)).trans (z6.1 ((finV_u hu).mpr q)), fun q => (gi 107 1 (by omega)).trans (z6.2 (fun y => q ((finV_u hu).mp y)))⟩
    · obtain ⟨q1, q2⟩ := b4 (fun q => cf q.1)
      rw [if_pos q1, e145]
      exact ⟨h2, rfl, a3.tr (b2.sub (fun b i q => by unfold pEr; omega) (fun _ _ q => q.elim)), fun e => (by cases e), fun x q e y => absurd y cf, fun _ => q2⟩
/-- a sign between two values -/
theorem go_b {x : Int} (h0 : 0 ≤ x) (h1 : x < 65536) (c41 : x ≠ 41) (c0 : strn x ≠ 0) (z : EsF h v r sg) (hf : finV sg (v :: r)) (w : ∀ s ∈ sg, sgP s) (hb : r.length = bin sg) (hr : r.length ≤ 110) (hs : sg.length ≤ 110) :
    ∃ v' r' sg', apd (strn x) sg (v :: r) = (v' :: r', sg') ∧ r'.length = bin sg' ∧ (∀ s ∈ sg', sgP s) ∧ r'.length ≤ r.length ∧ sg'.length ≤ sg.length ∧
      (finV sg' (v' :: r') → ∃ h', F_M_goesOn_53 x h = some (.inl 1, h') ∧ FW pEr qEr h h' ∧ EsT h' (v' :: r') (x :: sg')) ∧ (¬ finV sg' (v' :: r') → ∃ h', F_M_goesOn_53 x h = some (.inl 0, h') ∧ FW pEr qEr h h' ∧ mGi h' 107 1 = 9) := by
  have hb1 := strn_b h1
  have h40 : x ≠ 40 := fun q => c0 (by rw [q]; exact strn_40)
  obtain ⟨h2, v', r', sg', a1, a2, a3, a4, a5, a6, a7, a8, a9⟩ := rd_l (st := strn x) (by omega) (by omega) sg FU v r h (by unfold FU; omega) z w hb hr hs
  refine ⟨v', r', sg', a1, a5, a6, a7, a8, ?_⟩
  rw [go_104 h1 (.inr c0) (z.2.2.2.2.2.1 hf), if_neg c41]
  unfold F_M_goesOn_104
  have a2' : F_M_reduceTo (strn x) h = some (.inl (), h2) := a2
  rw [a2', bnd_l, if_neg c41]
  unfold F_M_goesOn_145
  rw [if_neg c41]
  obtain ⟨z1, z2, z3, z4, z5, z6⟩ := a4
  refine ⟨fun cf => ?_, fun cf => ?_⟩
  · have hns := nS_le sg' r'
    rw [z6.1 cf, if_pos (by decide), z1, gd_rg (by omega) (by omega), show ((r'.length + 1 : Nat) : Int) - 1 = (r'.length : Int) by omega, gd_b (by omega) (by omega), Int.toNat_natCast, z4.1]
    obtain ⟨s2, s1⟩ := strn_2 h1
    have e214 : (if (lgI v'.1 (0 : Int64)) = 0 then F_M_goesOn_182 x (strn x) (1 : Int) h2 else F_M_goesOn_182 x (strn x) (0 : Int) h2) = F_M_goesOn_214 x (bI (stl x v'.1)) h2 := by
      unfold F_M_goesOn_182 F_M_goesOn_198 F_M_goesOn_213 F_M_goesOn_209 stl
      by_cases q0 : v'.1 = 0
      · rw [if_pos (lg_eq.mpr q0)]
        by_cases q2 : strn x = 2
        · rw [if_pos q2, if_neg (by decide), decide_eq_true (.inl ⟨s2.mp q2, q0⟩)]; rfl
        · rw [if_neg q2, if_neg (show ¬ (1 : Int) = 0 by decide), decide_eq_false (fun q => q.elim (fun q => q2 (s2.mpr q.1)) (fun q => q.2 q0))]
          split <;> rfl
      · rw [if_neg (fun q => q0 (lg_eq.mp q)), if_pos (show (0 : Int) = 0 from rfl)]
        by_cases q1 : strn x = 1
        · rw [if_neg (by omega), if_pos q1, if_pos (show (0 : Int) = 0 from rfl), decide_eq_true (.inr ⟨s1.mp q1, q0⟩)]; rfl
        · rw [if_neg (show ¬ strn x = 1 from q1), ite_self, decide_eq_false (fun q => q.elim (fun q => q0 q.2) (fun q => q1 (s1.mpr q.1)))]; rfl
    rw [e214]
    unfold F_M_goesOn_214
    obtain ⟨h3, b1, b2, b3, b4, b5, b6⟩ := hold_e (x := x) (fl := stl x v'.1) z2 z3 (by omega) (by omega)
    rw [gd_t (bI_p _), b1, bnd_l]
    have e1 := b2.2.2.1 107 1 (by omega)
    refine ⟨h3, rfl, a3.tr (b2.sub (fun b i q => by unfold pEr; omega) (fun _ _ q => q.elim)), (b2.2.2.1 107 49 (by omega)).trans z1, b3, ?_, VsR.cg (fun j _ => b2.2.2.2 139 j id) z4, (SgR_b h1 h40).mpr ⟨?_, b6, SgR.cg (fun j hj => ⟨b2.2.2.1 147 j (by omega), b2.2.2.1 148 j (by omega)⟩) z5⟩, fun q => e1.trans (z6.1 ((fin_b h1 h40).mp q)), fun q => e1.trans (z6.2 (fun y => q ((fin_b h1 h40).mpr y)))⟩
    · rw [b4, nS_b h1 h40]; omega
    · rw [b5]; unfold enc; rw [if_pos h1]
  · rw [z6.2 cf, if_neg (by decide)]
    exact ⟨h2, rfl, a3, z6.2 cf⟩
def EvQ (h : MH) (x : RS Int64) (o : Option Int64) : Prop := (∀ w, o = some w → ∃ h', x = some (.inl w, h') ∧ FW pEr qEr h h' ∧ mGi h' 107 1 = 0) ∧ (o = none → ∃ h' w, x = some (.inl w, h') ∧ FW pEr qEr h h' ∧ mGi h' 107 1 = 9)
theorem EvQ.up {x : RS Int64} {o : Option Int64} (f : FW pEr qEr h h') (z : EvQ h' x o) : EvQ h x o := by
  refine ⟨fun w e => ?_, fun e => ?_⟩
  · obtain ⟨h2, a, b, c⟩ := z.1 w e
    exact ⟨h2, a, f.tr b, c⟩
  · obtain ⟨h2, w, a, b, c⟩ := z.2 e
    exact ⟨h2, w, a, f.tr b, c⟩
noncomputable def evM (f : Nat) (v1 v2 : Int) (h : MH) : RS Int64 := itr (fun self (q : Int × Int × MH) => F_M_evaluate_19_b (fun v1 v2 h => self (v1, v2, h)) q.1 q.2.1 q.2.2) f (v1, v2, h)
theorem evM_s {f : Nat} {v1 v2 : Int} : evM (f + 1) v1 v2 h = F_M_evaluate_19_b (evM f) v1 v2 h := rfl
theorem ev_9 {x : Int} (e : mGi h 107 1 = 9) : EvQ h (F_M_evaluate_70 x h) none := by
  refine ⟨fun w q => (by cases q), fun _ => ?_⟩
  have key : ∀ y : Int, p01 y → ∃ h' w, F_M_evaluate_80 y h = some (.inl w, h') ∧ FW pEr qEr h h' ∧ mGi h' 107 1 = 9 := fun y hy => by
    obtain ⟨h2, z, b1, b2, -, b4⟩ := need9 (h := h) (x := y) (P := False) hy ⟨fun q => q.elim, fun _ => e⟩
    obtain ⟨q1, q2⟩ := b4 (fun q => q.1)
    unfold F_M_evaluate_80
    rw [gd_t hy, b1, bnd_l, if_pos q1]
    exact ⟨h2, 0, rfl, b2.sub (fun b i q => by unfold pEr; omega) (fun _ _ q => q.elim), q2⟩
  unfold F_M_evaluate_70
  split
  · exact key 1 (.inr rfl)
  · exact key 0 (.inl rfl)
theorem ev_bad {f : Nat} {x y : Int} (hy : 0 ≤ y) (e : mGi h 107 1 = 9) : EvQ h (evM (f + 1) x y h) none := by
  rw [evM_s, F_M_evaluate_19_b, gd_b (by decide) (by decide)]
  split
  · exact ev_9 e
  · rw [if_neg (by omega)]; exact ev_9 e
theorem evq_l {n : Nat} (hn : n ≤ 100) (hM : M ≤ 1302) : ∀ (L : List Tk) (f k : Nat) (due : Bool) (vs : VS) (sg : List Int) (h : MH), L.length < f → k + L.length = n → mGi h 141 0 = (n : Int) → (∀ s ∈ sg, sgP s) → vs.length = bin sg + (if due = true then 0 else 1) → vs.length + sg.length ≤ k → RSg h M 136 k (um L) → (∀ t ∈ L, tkW t ∧ t.2.1 ≠ []) → (due = true → EsT h vs sg ∧ fin' sg vs) → (due = false → ∀ v r, vs = v :: r → EsF h v r sg ∧ finV sg (v :: r)) →
    EvQ h (evM f (bI due) (k : Int) h) (evE due vs sg (kx L)) := by
  intro L
  induction L with
  | nil =>
    intro f k due vs sg h hf hk e141 w hb hvk s ok zt zf
    obtain ⟨f, rfl⟩ : ∃ g, f = g + 1 := ⟨f - 1, by omega⟩
    rw [List.length_nil] at hk
    rw [evM_s, F_M_evaluate_19_b, gd_b (by decide) (by decide)]
    have t0 : ((0 : Int)).toNat = 0 := rfl
    rw [t0, e141, if_pos (by omega)]
    unfold F_M_evaluate_70
    cases due with
    | true =>
      rw [if_neg (show ¬ bI true = 0 by decide)]
      obtain ⟨z, -⟩ := zt rfl
      obtain ⟨h2, y, b1, b2, -, b4⟩ := need9 (x := 0) (.inl rfl) z.2.2.2.2.2
      obtain ⟨q1, q2⟩ := b4 (fun q => absurd q.2 (by decide))
      unfold F_M_evaluate_80
      rw [gd_01a, b1, bnd_l, if_pos q1]
      exact ⟨fun w q => (by cases q), fun _ => ⟨h2, 0, rfl, b2.sub (fun b i q => by unfold pEr; omega) (fun _ _ q => q.elim), q2⟩⟩
    | false =>
      rw [if_neg (show ¬ false = true by decide)] at hb
      rw [if_pos (show bI false = 0 from rfl)]
      cases vs with
      | nil => rw [List.length_nil] at hb; omega
      | cons v r =>
        rw [List.length_cons] at hb hvk
        obtain ⟨z, hf'⟩ := zf rfl v r rfl
        obtain ⟨h1, v', r', sg', a1, a2, a3, a4, a5, a6, a7, a8, a9⟩ := rd_l (st := 1) (by decide) (by decide) sg FU v r h (by unfold FU; omega) z w (by omega) (by omega) (by omega)
        have a2' : F_M_reduceTo 1 h = some (.inl (), h1) := a2
        unfold F_M_evaluate_80
        rw [gd_01b, need_1 (z.2.2.2.2.2.1 hf'), bnd_l, if_neg (by decide), a2', bnd_l, a4.2.1]
        show EvQ h _ (match apd 1 sg (v :: r) with | ([(v, false)], []) => some v | _ => none)
        rw [a1]
        refine EvQ.up a3 ?_
        cases sg' with
        | cons x sg' =>
          have e0 : (match ((v' :: r', x :: sg') : VS × List Int) with | ([(v, false)], []) => some v | _ => none) = none := by
            obtain ⟨y, by'⟩ := v'
            cases r' <;> cases by' <;> rfl
          rw [e0, List.length_cons, if_neg (by omega)]
          obtain ⟨h2, y, b1, b2, -, b4⟩ := need9 (x := 0) (.inl rfl) a4.2.2.2.2.2
          obtain ⟨q1, q2⟩ := b4 (fun q => absurd q.2 (by decide))
          unfold F_M_evaluate_108
          rw [gd_01a, b1, bnd_l, if_pos q1]
          exact ⟨fun w q => (by cases q), fun _ => ⟨h2, 0, rfl, b2.sub (fun b i q => by unfold pEr; omega) (fun _ _ q => q.elim), q2⟩⟩
        | nil =>
          have hr' : r' = [] := List.eq_nil_of_length_eq_zero a5
          subst hr'
          rw [if_pos (by rfl)]
          unfold F_M_evaluate_108
          obtain ⟨h2, y, b1, b2, b3, b4⟩ := need9 (x := 1) (.inr rfl) a4.2.2.2.2.2
          rw [gd_01b, b1, bnd_l]
          obtain ⟨y', by'⟩ := v'
          cases by' with
          | false =>
            obtain ⟨q1, q2⟩ := b3 ⟨fun e => (by cases e), trivial⟩ rfl
            rw [q1, if_neg (by decide), gd_b (by decide) (by decide), q2]
            have e9 : mGl h1 139 (0 : Int).toNat = y' := a4.2.2.2.1.1
            rw [e9]
            refine ⟨fun w q => ?_, fun q => (by cases q)⟩
            cases q
            exact ⟨h1, rfl, FW.rf, a4.2.2.2.2.2.1 ⟨fun e => (by cases e), trivial⟩⟩
          | true =>
            obtain ⟨q1, q2⟩ := b4 (fun q => absurd (q.1.1 rfl) (Nat.not_lt_zero _))
            rw [if_pos q1]
            exact ⟨fun w q => (by cases q), fun _ => ⟨h2, 0, rfl, b2.sub (fun b i q => by unfold pEr; omega) (fun _ _ q => q.elim), q2⟩⟩
  | cons t L ih =>
    intro f k due vs sg h hf hk e141 w hb hvk s ok zt zf
    obtain ⟨f, rfl⟩ : ∃ g, f = g + 1 := ⟨f - 1, by omega⟩
    rw [List.length_cons] at hf hk
    have ok' : ∀ x ∈ L, tkW x ∧ x.2.1 ≠ [] := fun x hx => ok x (List.mem_cons_of_mem _ hx)
    have okk : ∀ x ∈ L, okT x := fun x hx => (ok' x hx).1.ok
    obtain ⟨wt, ne⟩ := ok t List.mem_cons_self
    obtain ⟨s0, s1⟩ := sgOf_r wt.ok
    have yt := s.1
    have keep : ∀ h', FW pEr qEr h h' → mGi h' 141 0 = (n : Int) ∧ RSg h' M 136 (k + 1) (um L) := fun h' F => ⟨(F.2.2.1 141 0 (by unfold pEr; omega)).trans e141, RSg.cg (fun j _ => F.2.2.1 121 j (by unfold pEr; omega)) (Nat.le_refl _) hM (fun j _ _ => F.2.2.2 136 j (by unfold qEr; omega)) s.2⟩
    have ekx : kx (t :: L) = (t.1, t.2.1) :: kx L := rfl
    rw [ekx]
    have e0 : mGi h 107 1 = 0 → evM (f + 1) (bI due) (k : Int) h = if bI due = 0 then bnd (F_M_goesOn (mGl h 136 k) h) fun x31 h29 => F_M_evaluate_63 (evM f) (k : Int) x31 h29 else bnd (F_M_begins (mGl h 136 k) h) fun x37 h35 => F_M_evaluate_63 (evM f) (k : Int) x37 h35 := fun er => by
      rw [evM_s, F_M_evaluate_19_b, gd_b (by decide) (by decide)]
      have t0 : ((0 : Int)).toNat = 0 := rfl
      rw [t0, e141, if_neg (by omega), er, if_pos rfl]
      split
      · rw [gd_b (by omega) (by omega), Int.toNat_natCast]
      · rw [gd_b (by omega) (by omega), Int.toNat_natCast]
    have e63 : ∀ (x : Int) (h : MH), F_M_evaluate_63 (evM f) (k : Int) x h = evM f x ((k + 1 : Nat) : Int) h := fun x h => by
      unfold F_M_evaluate_63
      rw [gd_rg (by omega) (by omega)]
      rfl
    have badn : ∀ (x : Int) (h' : MH), FW pEr qEr h h' → mGi h' 107 1 = 9 → EvQ h (evM f x ((k + 1 : Nat) : Int) h') none := fun x h' F e => by
      obtain ⟨f, rfl⟩ : ∃ g, f = g + 1 := ⟨f - 1, by omega⟩
      exact EvQ.up F (ev_bad (by omega) e)
    cases due with
    | true =>
      obtain ⟨z, hfi⟩ := zt rfl
      rw [if_pos rfl, Nat.add_zero] at hb
      rw [e0 (z.2.2.2.2.2.1 hfi), if_neg (show ¬ bI true = 0 by decide), evE]
      have val : ∀ (x : Int64) (h' : MH), F_M_begins (mGl h 136 k) h = some (.inl 0, h') → FW pEr qEr h h' → EsF h' (x, false) vs sg → EvQ h (bnd (F_M_begins (mGl h 136 k) h) fun x37 h35 => F_M_evaluate_63 (evM f) (k : Int) x37 h35) (evE false ((x, false) :: vs) sg (kx L)) := fun x h' e F zz => by
        rw [e, bnd_l, e63]
        obtain ⟨k1, k2⟩ := keep h' F
        refine EvQ.up F (ih f (k + 1) false _ sg h' (by omega) (by omega) k1 w (by rw [List.length_cons, if_neg (show ¬ false = true by decide)]; omega) (by rw [List.length_cons]; omega) k2 ok' (fun q => (by cases q)) (fun _ v r e => ?_))
        cases e
        exact ⟨zz, fun q => (by cases q), hfi⟩
      have sgh : ∀ (x : Int) (h' : MH), sgP x → ¬ (x < 65536 ∧ x ≠ 40) → F_M_begins (mGl h 136 k) h = some (.inl 1, h') → FW pEr qEr h h' → EsT h' vs (x :: sg) → EvQ h (bnd (F_M_begins (mGl h 136 k) h) fun x37 h35 => F_M_evaluate_63 (evM f) (k : Int) x37 h35) (evE true vs (x :: sg) (kx L)) := fun x h' hx hu e F zz => by
        rw [e, bnd_l, e63]
        obtain ⟨k1, k2⟩ := keep h' F
        refine EvQ.up F (ih f (k + 1) true vs (x :: sg) h' (by omega) (by omega) k1 (fun y hy => ?_) (by rw [if_pos rfl, bin_u hu]; omega) (by rw [List.length_cons]; omega) k2 ok' (fun _ => ⟨zz, (fin_u hu).mpr hfi⟩) (fun q => (by cases q)))
        rcases List.mem_cons.mp hy with q | q
        · rw [q]; exact hx
        · exact w y q
      by_cases k1 : t.1 = 1
      · rw [if_pos k1]
        obtain ⟨h', b1, b2, b3⟩ := beg_v yt z (by omega) k1
        exact val 0 h' b1 b2 b3
      rw [if_neg k1]
      by_cases k2 : t.1 = 2
      · rw [if_pos k2]
        obtain ⟨n1, n2⟩ := beg_n yt wt.ok z (by omega) k2
        cases hnm : numE 0 t.2.1 with
        | none =>
          dsimp only
          obtain ⟨h', b1, b2, b3⟩ := n2 hnm
          rw [b1, bnd_l, e63]
          exact badn 0 h' b2 b3
        | some x =>
          dsimp only
          obtain ⟨h', b1, b2, b3⟩ := n1 x hnm
          exact val _ h' b1 b2 b3
      rw [if_neg k2]
      obtain ⟨g1, g2, g3⟩ := beg_s yt wt ne z hfi (by omega) k1 k2
      by_cases c1 : sgOf t.1 t.2.1 = 45 ∨ sgOf t.1 t.2.1 = 33 ∨ sgOf t.1 t.2.1 = 126
      · rw [if_pos c1]
        obtain ⟨h', b1, b2, b3⟩ := g1 c1
        have hs : sgW (sgOf t.1 t.2.1 + 65536) := by unfold sgW; omega
        refine sgh _ h' ⟨hs, fun q' => ?_⟩ (by omega) b1 b2 b3
        rw [strn_u (by omega)] at q'
        omega
      rw [if_neg c1]
      by_cases c2 : sgOf t.1 t.2.1 = 40
      · rw [if_pos c2]
        obtain ⟨h', b1, b2, b3⟩ := g2 c2
        exact sgh 40 h' ⟨.inl ⟨by decide, by decide⟩, fun _ => rfl⟩ (by omega) b1 b2 b3
      · rw [if_neg c2]
        obtain ⟨h', b1, b2, b3⟩ := g3 c1 c2
        rw [b1, bnd_l, e63]
        exact badn 1 h' b2 b3
    | false =>
      rw [if_neg (show ¬ false = true by decide)] at hb
      cases vs with
      | nil => rw [List.length_nil] at hb; omega
      | cons v r =>
        rw [List.length_cons] at hb hvk
        obtain ⟨z, hfi⟩ := zf rfl v r rfl
        rw [e0 (z.2.2.2.2.2.1 hfi), if_pos (show bI false = 0 from rfl), evE, go_0 yt wt ne]
        by_cases c41 : sgOf t.1 t.2.1 = 41
        · rw [if_pos c41, c41]
          obtain ⟨v', r', sg', a1, a2, a3, a4, a5, a6, h', b1, b2, b3, b4, b5⟩ := go_c z hfi w (by omega) (by omega) (by omega)
          rw [a1, b1, bnd_l, e63]
          cases sg' with
          | nil => exact badn 0 h' b2 (b3 rfl)
          | cons y q =>
            have hy := a6 y q rfl
            subst hy
            have hu : ¬ ((40 : Int) < 65536 ∧ (40 : Int) ≠ 40) := by omega
            dsimp only
            rw [List.length_cons] at a5
            rw [bin_u hu] at a2
            have wq : ∀ s ∈ q, sgP s := fun s hs => a3 s (List.mem_cons_of_mem _ hs)
            have hlen : (v' :: r').length = bin q + (if false = true then 0 else 1) := by rw [List.length_cons, if_neg (show ¬ false = true by decide), a2]
            by_cases cf : finV (40 :: q) (v' :: r')
            · obtain ⟨k1, k2⟩ := keep h' b2
              refine EvQ.up b2 (ih f (k + 1) false (v' :: r') q h' (by omega) (by omega) k1 wq hlen (by rw [List.length_cons]; omega) k2 ok' (fun q => (by cases q)) (fun _ v r e => ?_))
              cases e
              exact ⟨b4 40 q rfl cf, (finV_u hu).mp cf⟩
            · rw [doom_l L false (v' :: r') q wq hlen okk (by rw [if_neg (show ¬ false = true by decide)]; exact fun y => cf ((finV_u hu).mpr y))]
              exact badn 0 h' b2 (b5 cf)
        rw [if_neg c41]
        by_cases c0 : strn (sgOf t.1 t.2.1) = 0
        · rw [if_pos c0]
          obtain ⟨h', b1, b2, b3⟩ := go_x s1 c41 c0 z.2.2.2.2.2
          rw [b1, bnd_l, e63]
          exact badn 0 h' b2 b3
        · rw [if_neg c0]
          have h40 : sgOf t.1 t.2.1 ≠ 40 := fun q => c0 (by rw [q]; exact strn_40)
          obtain ⟨v', r', sg', a1, a2, a3, a4, a5, a6, a7⟩ := go_b s0 s1 c41 c0 z hfi w (by omega) (by omega) (by omega)
          rw [a1]
          dsimp only
          have wq : ∀ s ∈ sgOf t.1 t.2.1 :: sg', sgP s := fun s hs => by
            rcases List.mem_cons.mp hs with q | q
            · rw [q]; exact ⟨.inl ⟨s0, s1⟩, fun q' => absurd q' c0⟩
            · exact a3 s q
          have hlen : (v' :: r').length = bin (sgOf t.1 t.2.1 :: sg') + (if true = true then 0 else 1) := by rw [List.length_cons, if_pos rfl, a2, bin_c s1 h40]
          by_cases cf : finV sg' (v' :: r')
          · obtain ⟨h', b1, b2, b3⟩ := a6 cf
            rw [b1, bnd_l, e63]
            obtain ⟨k1, k2⟩ := keep h' b2
            exact EvQ.up b2 (ih f (k + 1) true (v' :: r') (sgOf t.1 t.2.1 :: sg') h' (by omega) (by omega) k1 wq hlen (by rw [List.length_cons, List.length_cons]; omega) k2 ok' (fun _ => ⟨b3, (fin_b s1 h40).mpr cf⟩) (fun q => (by cases q)))
          · obtain ⟨h', b1, b2, b3⟩ := a7 cf
            rw [b1, bnd_l, e63, doom_l L true (v' :: r') (sgOf t.1 t.2.1 :: sg') wq hlen okk (by rw [if_pos rfl]; exact fun y => cf ((fin_b s1 h40).mp y))]
            exact badn 0 h' b2 b3
theorem m_eval {L : List Tk} (hM : M ≤ 1302) (er : mGi h 107 1 = 0) (z : DnR h M 0 L) (ok : ∀ t ∈ L, tkW t ∧ t.2.1 ≠ []) : EvQ h (F_M_evaluate h) (evE true [] [] (kx L)) := by
  have F : FW pEr qEr h (mPi (mPi (mPi h 107 49 0) 107 50 0) 107 51 0) := FW.pi (FW.pi (FW.pi FW.rf (by unfold pEr; omega)) (by unfold pEr; omega)) (by unfold pEr; omega)
  have gi : ∀ b i, ¬ (b = 107 ∧ (i = 49 ∨ i = 50 ∨ i = 51)) → mGi (mPi (mPi (mPi h 107 49 0) 107 50 0) 107 51 0) b i = mGi h b i := fun b i hb => by rw [gi_pi, if_neg (by omega), gi_pi, if_neg (by omega), gi_pi, if_neg (by omega)]
  have hl := z.2.1
  refine EvQ.up F ?_
  exact evq_l (n := L.length) hl hM L FU 0 true [] [] _ (by unfold FU; omega) (by omega) ((gi 141 0 (by omega)).trans z.1) (fun s hs => absurd hs List.not_mem_nil) rfl (Nat.le_refl _) (RSg.cg (h := h) (fun j _ => gi 121 j (by omega)) (Nat.le_refl _) hM (fun j _ _ => rfl) z.2.2) ok (fun _ => ⟨⟨by rw [gi_pi, if_neg (by omega), gi_pi, if_neg (by omega), gi_s]; rfl, by rw [gi_pi, if_neg (by omega), gi_s]; rfl, gi_s, trivial, trivial, fun _ => (gi 107 1 (by omega)).trans er, fun q => absurd trivial q⟩, trivial⟩) (fun q => (by cases q))
end El
