/-! the class's values: tokens -/
section Ev2
variable {h h' : MH} {M : Nat} {vs : VS} {sg : List Int}
theorem psh_e {s : Int} (z : EsC h vs sg) (hs : sg.length < 100) : ∃ h', F_Es_pushSign s h = some (.inl (), h') ∧ FW pE qE h h' ∧ EsC h' vs (s :: sg) := by
  obtain ⟨z1, z2, z3, z4⟩ := z
  refine ⟨mPi (mPi h 100 sg.length s) 97 5 ((sg.length : Int) + 1), ?_, FW.pi (FW.pi FW.rf (by unfold pE; omega)) (by unfold pE; omega), ?_, ?_, ?_, ?_, ?_⟩
  · unfold F_Es_pushSign
    rw [z2, gd_b (by omega) (by omega), Int.toNat_natCast]
    simp only [sto_e]
    rw [gi_pi, if_neg (by omega), z2, gd_rg (by omega) (by omega)]
  · rw [gi_pi, if_neg (by omega), gi_pi, if_neg (by omega), z1]
  · rw [gi_s, List.length_cons]; omega
  · exact VsC.cg (h := h) (fun j _ => ⟨rfl, by rw [gi_pi, if_neg (by omega), gi_pi, if_neg (by omega)]⟩) z3
  · rw [gi_pi, if_neg (by omega), gi_s]
  · exact SgC.cg (h := h) (fun j hj => by rw [gi_pi, if_neg (by omega), gi_pi, if_neg (by omega)]) z4
theorem psv_e {x : Int64} (z : EsC h vs sg) (hv : vs.length < 100) : ∃ h', F_Es_takeValue_37 (vs.length : Int) x h = some (.inl 0, h') ∧ FW pE qE h h' ∧ EsC h' ((x, false) :: vs) sg := by
  obtain ⟨z1, z2, z3, z4⟩ := z
  refine ⟨mPi (mPi (mPl h 98 vs.length x) 99 vs.length 0) 97 3 ((vs.length : Int) + 1), ?_, FW.pi (FW.pi (FW.pl FW.rf rfl) (by unfold pE; omega)) (by unfold pE; omega), ?_, ?_, ⟨?_, ?_, ?_⟩, ?_⟩
  · unfold F_Es_takeValue_37
    rw [gd_b (by omega) (by omega), Int.toNat_natCast]
    simp only [sto_e]
    rw [gi_pl, z1, gd_b (by omega) (by omega), Int.toNat_natCast, gi_pi, if_neg (by omega), gi_pl, z1, gd_rg (by omega) (by omega)]
  · rw [gi_s, List.length_cons]; omega
  · rw [gi_pi, if_neg (by omega), gi_pi, if_neg (by omega), gi_pl, z2]
  · rw [gl_pi, gl_pi, gl_pl, if_pos ⟨rfl, rfl⟩]
  · rw [gi_pi, if_neg (by omega), gi_s]; rfl
  · exact VsC.cg (h := h) (fun j hj => ⟨by rw [gl_pi, gl_pi, gl_pl, if_neg (by omega)], by rw [gi_pi, if_neg (by omega), gi_pi, if_neg (by omega), gi_pl]⟩) z3
  · exact SgC.cg (h := h) (fun j hj => by rw [gi_pi, if_neg (by omega), gi_pi, if_neg (by omega), gi_pl]) z4
noncomputable def evL (f : Nat) (v1 v1n : Nat) (v2 v3 v4 : Int) (h : MH) : RS Int64 := itr (fun self (q : Nat × Nat × Int × Int × Int × MH) => F_Es_valueOf_15_b (fun v1 v1n v2 v3 v4 h => self (v1, v1n, v2, v3, v4, h)) q.1 q.2.1 q.2.2.1 q.2.2.2.1 q.2.2.2.2.1 q.2.2.2.2.2) f (v1, v1n, v2, v3, v4, h)
theorem evL_s {f v1 v1n : Nat} {v2 v3 v4 : Int} : evL (f + 1) v1 v1n v2 v3 v4 h = F_Es_valueOf_15_b (evL f) v1 v1n v2 v3 v4 h := rfl
def kx (l : List Tk) : List (Nat × List Int) := l.map fun t => (t.1, t.2.1)
def EvR (h : MH) (x : RS Int64) (o : Option Int64) : Prop := (∀ v, o = some v → ∃ h', x = some (.inl v, h') ∧ FW pE qE h h') ∧ (o = none → ∃ h0, x = some (.inr 13, mNew (mPi h0 87 2 ((9 : Nat) : Int)) 13 6) ∧ FW pE qE h h0)
theorem ev_none (R : rmE h) (K : Unit → MH → RS Int64) : EvR h (bnd (F_To_fail 9 h) K) none := ⟨fun v e => (by cases e), fun _ => ⟨h, to_fail (why := 9) R K, FW.rf⟩⟩
theorem EvR.up {x : RS Int64} {o : Option Int64} (f : FW pE qE h h') (z : EvR h' x o) : EvR h x o := by
  refine ⟨fun v e => ?_, fun e => ?_⟩
  · obtain ⟨h2, a, b⟩ := z.1 v e
    exact ⟨h2, a, f.tr b⟩
  · obtain ⟨h2, a, b⟩ := z.2 e
    exact ⟨h2, a, f.tr b⟩
theorem ev_l {a n : Nat} (ha : 150 ≤ a) (hn : n ≤ 100) (hM : M ≤ 1302) : ∀ (L : List Tk) (f k : Nat) (due : Bool) (vs : VS) (sg : List Int) (h : MH), L.length < f → k + L.length = n → rmE h → EsC h vs sg → (∀ s ∈ sg, sgP s) → vs.length = bin sg + (if due = true then 0 else 1) → vs.length + sg.length ≤ k → TSg h M a k (um L) → (∀ t ∈ L, okT t) →
    EvR h (evL f a 100 (n : Int) (bI due) (k : Int) h) (evE due vs sg (kx L)) := by
  intro L
  induction L with
  | nil =>
    intro f k due vs sg h hf hk R z w hb hvk s ok
    obtain ⟨f, rfl⟩ : ∃ g, f = g + 1 := ⟨f - 1, by omega⟩
    rw [List.length_nil] at hk
    rw [evL_s, F_Es_valueOf_15_b, if_pos (by omega)]
    unfold F_Es_valueOf_58
    cases due with
    | true =>
      rw [if_neg (by decide)]
      exact ev_none R _
    | false =>
      rw [if_neg (by decide)] at hb
      rw [if_pos (show bI false = 0 from rfl)]
      obtain ⟨h1, e1, f1, y1, y2, y3, y4, y5, -⟩ := apd_e (st := 1) (by decide) (by decide) sg FU vs h (by unfold FU; omega) z w hb (by omega) (by omega)
      have e1' : F_Es_applyDownTo 1 h = some (.inl (), h1) := e1
      unfold F_Es_valueOf_71 F_Es_valueOf_109 F_Es_valueOf_100
      show EvR h _ (match apd 1 sg vs with | ([(v, false)], []) => some v | _ => none)
      rw [e1', bnd_l, y1.1, y1.2.1]
      have bad : EvR h (bnd (F_To_fail 9 h1) fun x4 h2 => gd (0 ≤ (0 : Int) ∧ (0 : Int) < 100) (some (.inl (mGl h2 98 (0 : Int).toNat), h2))) none := (ev_none (rmE_c R f1.1) _).up f1
      match hq : apd 1 sg vs, y1, y2 with
      | (vs', x :: sg'), y1, y2 =>
        have : (match ((vs', x :: sg') : VS × List Int) with | ([(v, false)], []) => some v | _ => none) = none := by
          split
          · next e => cases e
          · rfl
        rw [this, if_neg (by show ¬ ((x :: sg').length : Int) = 0; rw [List.length_cons]; omega)]
        exact bad
      | ([], []), y1, y2 => exact absurd y2 (by decide)
      | (v :: v2 :: r, []), y1, y2 => exact absurd y2 (by simp [bin])
      | ([(v, true)], []), y1, y2 =>
        have g9 : mGi h1 99 0 = bI true := y1.2.2.1.2.1
        show EvR h _ none
        rw [if_pos (show ((([(v, true)], []) : VS × List Int).2.length : Int) = 0 from rfl), if_pos (show ((([(v, true)], []) : VS × List Int).1.length : Int) = 1 from rfl), gd_b (by decide) (by decide), show (0 : Int).toNat = 0 from rfl, g9, if_neg (by decide)]
        exact bad
      | ([(v, false)], []), y1, y2 =>
        have g9 : mGi h1 99 0 = bI false := y1.2.2.1.2.1
        have g8 : mGl h1 98 0 = v := y1.2.2.1.1
        show EvR h _ (some v)
        rw [if_pos (show ((([(v, false)], []) : VS × List Int).2.length : Int) = 0 from rfl), if_pos (show ((([(v, false)], []) : VS × List Int).1.length : Int) = 1 from rfl), gd_b (by decide) (by decide), show (0 : Int).toNat = 0 from rfl, g9, if_pos (show bI false = 0 from rfl), gd_b (by decide) (by decide), g8]
        exact ⟨fun v' e => by cases e; exact ⟨h1, rfl, f1⟩, fun e => (by cases e)⟩
  | cons t L ih =>
    intro f k due vs sg h hf hk R z w hb hvk s ok
    obtain ⟨f, rfl⟩ : ∃ g, f = g + 1 := ⟨f - 1, by omega⟩
    rw [List.length_cons] at hk hf
    have s' : TC h M (mGl h a k) t false ∧ TSg h M a (k + 1) (um L) := s
    have okt := ok t List.mem_cons_self
    have okL : ∀ y ∈ L, okT y := fun y hy => ok y (List.mem_cons_of_mem _ hy)
    obtain ⟨sr1, sr2⟩ := sgOf_r okt
    have next : ∀ (h1 : MH) (due : Bool) (vs1 : VS) (sg1 : List Int), FW pE qE h h1 → EsC h1 vs1 sg1 → (∀ s ∈ sg1, sgP s) → vs1.length = bin sg1 + (if due = true then 0 else 1) → vs1.length + sg1.length ≤ k + 1 → EvR h (F_Es_valueOf_51 (evL f) a 100 (n : Int) (k : Int) (bI due) h1) (evE due vs1 sg1 (kx L)) := by
      intro h1 due vs1 sg1 f1 z1 w1 hb1 hk1
      unfold F_Es_valueOf_51
      rw [gd_rg (by omega) (by omega), show (k : Int) + 1 = ((k + 1 : Nat) : Int) by omega]
      exact (ih f (k + 1) due vs1 sg1 h1 (by omega) (by omega) (rmE_c R f1.1) z1 w1 hb1 hk1 (TSg.cg (fun j _ => f1.2.2.1 88 j (by unfold pE; omega)) (Nat.le_refl _) hM (fun j _ _ => f1.2.2.2 a j (by unfold qE; omega)) s'.2) okL).up f1
    have hkx : kx (t :: L) = (t.1, t.2.1) :: kx L := rfl
    rw [evL_s, F_Es_valueOf_15_b, if_neg (by omega), if_neg (by omega), hkx]
    cases due with
    | true =>
      rw [if_pos rfl] at hb
      rw [if_neg (by decide), gd_b (by omega) (by omega), Int.toNat_natCast, evE]
      unfold F_Es_takeValue F_Es_takeValue_15
      rw [to_kind s'.1, bnd_l]
      by_cases c1 : t.1 = 1
      · obtain ⟨h1, e1, f1, y1⟩ := psv_e (x := 0) z (by omega)
        rw [if_pos (by omega), if_pos (by omega), if_pos c1, z.1, e1, bnd_l]
        exact next h1 false _ _ f1 y1 w (by rw [List.length_cons, if_neg (by decide)]; omega) (by rw [List.length_cons]; omega)
      rw [if_neg (by omega), if_neg c1]
      by_cases c2 : t.1 = 2
      · rw [if_pos (by omega), if_pos c2, if_neg (by omega)]
        obtain ⟨n1, n2⟩ := num_e R s'.1 okt
        cases en : numE 0 t.2.1 with
        | none =>
          rw [n2 en, bnd_r, bnd_r]
          exact ⟨fun v e => (by cases e), fun _ => ⟨h, rfl, FW.rf⟩⟩
        | some w2 =>
          obtain ⟨h1, e1, f1, y1⟩ := psv_e (x := Int64.ofInt w2) z (by omega)
          rw [n1 w2 en, bnd_l, z.1, e1, bnd_l]
          exact next h1 false _ _ f1 y1 w (by rw [List.length_cons, if_neg (by decide)]; omega) (by rw [List.length_cons]; omega)
      rw [if_neg (by omega), if_neg c2, sgn_e s'.1 okt, bnd_l]
      unfold F_Es_takeValue_88 F_Es_takeValue_114
      have go : ∀ x : Int, sgP x → bin (x :: sg) = bin sg → EvR h (bnd (bnd (F_Es_pushSign x h) fun x3 h1 => some (.inl 1, h1)) fun x35 h33 => F_Es_valueOf_51 (evL f) a 100 (n : Int) (k : Int) x35 h33) (evE true vs (x :: sg) (kx L)) := by
        intro x wx bx
        obtain ⟨h1, e1, f1, y1⟩ := psh_e (s := x) z (by omega)
        rw [e1, bnd_l, bnd_l]
        exact next h1 true _ _ f1 y1 (fun y hy => by rcases List.mem_cons.mp hy with q | q; rw [q]; exact wx; exact w y q) (by rw [bx, if_pos rfl]; omega) (by rw [List.length_cons]; omega)
      generalize sgOf t.1 t.2.1 = g at *
      by_cases d1 : g = 45
      · rw [if_pos d1, if_pos (.inl d1)]
        subst d1
        exact go _ ⟨by unfold sgW; decide, by decide⟩ (bin_u (by decide))
      by_cases d2 : g = 33
      · rw [if_neg d1, if_pos d2, if_pos (.inr (.inl d2))]
        subst d2
        exact go _ ⟨by unfold sgW; decide, by decide⟩ (bin_u (by decide))
      by_cases d3 : g = 126
      · rw [if_neg d1, if_neg d2, if_pos d3, if_pos (.inr (.inr d3))]
        subst d3
        exact go _ ⟨by unfold sgW; decide, by decide⟩ (bin_u (by decide))
      rw [if_neg d1, if_neg d2, if_neg d3, if_neg (show ¬ (g = 45 ∨ g = 33 ∨ g = 126) by omega)]
      by_cases d4 : g = 40
      · rw [if_pos d4, if_pos d4]
        subst d4
        exact go _ ⟨by unfold sgW; decide, by decide⟩ (bin_u (by decide))
      · rw [if_neg d4, if_neg d4]
        have tf : ∀ K : Unit → MH → RS Int, bnd (F_To_fail 9 h) K = some (.inr 13, mNew (mPi h 87 2 ((9 : Nat) : Int)) 13 6) := fun K => to_fail (why := 9) R K
        rw [tf, bnd_r]
        exact ⟨fun v e => (by cases e), fun _ => ⟨h, rfl, FW.rf⟩⟩
    | false =>
      rw [if_neg (by decide)] at hb
      rw [if_pos (show bI false = 0 from rfl), gd_b (by omega) (by omega), Int.toNat_natCast, evE]
      unfold F_Es_takeSign F_Es_takeSign_33 F_Es_takeSign_65
      rw [sgn_e s'.1 okt, bnd_l]
      generalize sgOf t.1 t.2.1 = g at *
      have wg : sgW g := .inl ⟨sr1, sr2⟩
      have tf : ∀ (h1 : MH) (K : Unit → MH → RS Int), rmE h1 → bnd (F_To_fail 9 h1) K = some (.inr 13, mNew (mPi h1 87 2 ((9 : Nat) : Int)) 13 6) := fun h1 K R => to_fail (why := 9) R K
      have apE : ∀ st : Int, 1 ≤ st → st ≤ 10 → ∃ h1, F_Es_applyDownTo st h = some (.inl (), h1) ∧ FW pE qE h h1 ∧ EsC h1 (apd st sg vs).1 (apd st sg vs).2 ∧ (apd st sg vs).1.length = bin (apd st sg vs).2 + 1 ∧ (∀ s ∈ (apd st sg vs).2, sgP s) ∧ (apd st sg vs).1.length ≤ vs.length ∧ (apd st sg vs).2.length ≤ sg.length ∧ ∀ x r, (apd st sg vs).2 = x :: r → strn x < st := fun st h1 h10 => apd_e h1 h10 sg FU vs h (by unfold FU; omega) z w hb (by omega) (by omega)
      by_cases d1 : g = 41
      · rw [if_pos d1, if_pos d1]
        obtain ⟨h1, e1, f1, y1, y2, y3, y4, y5, y8⟩ := apE 1 (by decide) (by decide)
        rw [e1, bnd_l, y1.2.1]
        match hq : apd 1 sg vs, y1, y2, y3, y4, y5, y8 with
        | (vs', []), y1, y2, y3, y4, y5, y8 =>
          show EvR h _ none
          rw [if_pos (show (((vs', []) : VS × List Int).2.length : Int) = 0 from rfl), tf h1 _ (rmE_c R f1.1), bnd_r]
          exact ⟨fun v e => (by cases e), fun _ => ⟨h1, rfl, f1⟩⟩
        | (vs', x :: sg'), y1, y2, y3, y4, y5, y8 =>
          have hx : ((x :: sg').length : Int) = (sg'.length : Int) + 1 := by rw [List.length_cons]; omega
          have y5' : sg'.length + 1 ≤ sg.length := by rw [← List.length_cons (a := x)]; exact y5
          show EvR h _ (evE false vs' sg' (kx L))
          rw [if_neg (by show ¬ ((x :: sg').length : Int) = 0; omega)]
          show EvR h (bnd (gd (inR (((x :: sg').length : Int) - 1)) (sto (mPi h1 97 5 (((x :: sg').length : Int) - 1)) fun h12 => some (.inl 0, h12))) _) _
          rw [hx, gd_rg (by omega) (by omega), show (sg'.length : Int) + 1 - 1 = (sg'.length : Int) by omega]
          simp only [sto_e]
          rw [bnd_l]
          -- what is taken away is an opening bracket
          have h40 : x = 40 := by
            have wx := y3 x List.mem_cons_self
            have q := y8 x sg' rfl
            refine wx.2 ?_
            rcases wx.1 with q1 | q1
            · have := (strn_b q1.2).2
              omega
            · have := strn_u q1
              omega
          have f2 : FW pE qE h (mPi h1 97 5 (sg'.length : Int)) := FW.pi f1 (by unfold pE; omega)
          refine next (mPi h1 97 5 (sg'.length : Int)) false vs' sg' f2 ⟨by rw [gi_pi, if_neg (by omega)]; exact y1.1, gi_s, VsC.cg (h := h1) (fun j _ => ⟨rfl, by rw [gi_pi, if_neg (by omega)]⟩) y1.2.2.1, SgC.cg (h := h1) (fun j _ => by rw [gi_pi, if_neg (by omega)]) y1.2.2.2.2⟩ (fun y hy => y3 y (List.mem_cons_of_mem _ hy)) ?_ ?_
          · rw [if_neg (by decide)]
            have y2' : vs'.length = bin (x :: sg') + 1 := y2
            rw [bin_u (by omega)] at y2'
            exact y2'
          · have y4' : vs'.length ≤ vs.length := y4
            omega
      · rw [if_neg d1, if_neg d1, str_e wg, bnd_l]
        by_cases d2 : strn g = 0
        · rw [if_pos d2, if_pos d2, tf h _ R, bnd_r]
          exact ⟨fun v e => (by cases e), fun _ => ⟨h, rfl, FW.rf⟩⟩
        · have hb2 := strn_b sr2
          rw [if_neg d2, if_neg d2]
          obtain ⟨h1, e1, f1, y1, y2, y3, y4, y5, -⟩ := apE (strn g) (by omega) (by omega)
          obtain ⟨h2, e2, f2, y6⟩ := psh_e (s := g) y1 (by omega)
          rw [e1, bnd_l, e2, bnd_l, bnd_l]
          have h40 : g ≠ 40 := fun q => d2 (by rw [q]; exact strn_40)
          exact next h2 true _ _ (f1.tr f2) y6 (fun y hy => by rcases List.mem_cons.mp hy with q | q; rw [q]; exact ⟨wg, fun e => absurd e d2⟩; exact y3 y q) (by rw [bin_c sr2 h40, if_pos rfl]; omega) (by rw [List.length_cons]; omega)
theorem val_e {a n : Nat} {L : List Tk} (ha : 150 ≤ a) (hM : M ≤ 1302) (hL : L.length = n) (hn : n ≤ 100) (R : rmE h) (s : TSg h M a 0 (um L)) (ok : ∀ t ∈ L, okT t) : EvR h (F_Es_valueOf a 100 (n : Int) h) (evE true [] [] (kx L)) := by
  have f1 : FW pE qE h (mPi (mPi h 97 3 0) 97 5 0) := FW.pi (FW.pi FW.rf (by unfold pE; omega)) (by unfold pE; omega)
  have q := ev_l (n := n) ha hn hM L FU 0 true [] [] (mPi (mPi h 97 3 0) 97 5 0) (by unfold FU; omega) (by omega) (rmE_c R f1.1) ⟨by rw [gi_pi, if_neg (by omega), gi_s]; rfl, by rw [gi_s]; rfl, trivial, trivial⟩ (fun s hs => absurd hs List.not_mem_nil) rfl (by simp) (TSg.cg (h := h) (fun j _ => by rw [gi_pi, if_neg (by omega), gi_pi, if_neg (by omega)]) (Nat.le_refl _) hM (fun j _ _ => rfl) s) ok
  exact q.up f1
end Ev2
