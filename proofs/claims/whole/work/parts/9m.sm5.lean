/-! the class's second mill: orders, lines -/
section Sm5
variable {B h h' h0 : MH} {k0 md md' rp rp' : Nat} {tx : List Int} {n : Int} {s : S2} {P Q : Nat → Nat → Prop} {L : List LnT} {nm : Nm} {lv : List (Bool × Bool × Bool)} {res : List Int} {M : Nat}
theorem LnO.fw {P Q : Nat → Nat → Prop} (z : LnO h L) (f : FW P Q h h') (hP : ∀ b i, P b i → b ≠ 88 ∧ ¬ (b = 86 ∧ i = 6)) (hQ : ∀ b i, Q b i → b ≠ 103) : LnO h' L := ⟨(f.2.2.1 86 6 (fun q => (hP _ _ q).2 ⟨rfl, rfl⟩)).trans z.1, z.2.1, LnC.cg (fun j _ => f.2.2.1 88 j (fun q => (hP _ _ q).1 rfl)) (fun j _ _ => f.2.2.2 103 j (fun q => hQ _ _ q rfl)) z.2.2.1, z.2.2.2⟩
theorem dfd_ok : ∀ (N : Nat) (l : List Tk), l.length ≤ N → (∀ t ∈ l, okT t) → (∀ t ∈ dfd nm l, okT t) ∧ (dfd nm l).length ≤ l.length := by
  intro N
  induction N with
  | zero =>
    intro l hl ok
    have : l = [] := List.eq_nil_of_length_eq_zero (by omega)
    subst this
    exact ⟨ok, Nat.le_refl _⟩
  | succ N ih =>
    intro l hl ok
    cases l with
    | nil => exact ⟨ok, Nat.le_refl _⟩
    | cons t r =>
      rw [List.length_cons] at hl
      have okr : ∀ t ∈ r, okT t := fun y hy => ok y (List.mem_cons_of_mem _ hy)
      have dg : ∀ b : Bool, okT (dgT b) := fun b => by
        refine ⟨fun c hc => ?_, fun q => (by cases q)⟩
        have : c = if b = true then 49 else 48 := List.mem_singleton.mp hc
        rw [this]
        cases b
        · exact .inr (by decide)
        · exact .inr (by decide)
      have go : ∀ (x : Tk) (r' : List Tk), okT x → r'.length ≤ r.length → (∀ t ∈ r', okT t) → (∀ t ∈ x :: dfd nm r', okT t) ∧ (x :: dfd nm r').length ≤ (t :: r).length := fun x r' ox hr' or' => by
        obtain ⟨a, b⟩ := ih r' (by omega) or'
        refine ⟨fun y hy => ?_, by rw [List.length_cons, List.length_cons]; omega⟩
        rcases List.mem_cons.mp hy with q | q
        · rw [q]; exact ox
        · exact a y q
      rw [dfd_u]
      split
      · exact go _ _ (dg _) (by rw [List.length_drop]; omega) (fun y hy => okr y (List.mem_of_mem_drop hy))
      · split
        · exact go _ _ (dg _) (by rw [List.length_drop]; omega) (fun y hy => okr y (List.mem_of_mem_drop hy))
        · exact go _ _ (ok t List.mem_cons_self) (Nat.le_refl _) okr
theorem LnO.oks (z : LnO h L) : ∀ t ∈ L.map ltk, okT t := fun t ht => by
  obtain ⟨l, hl, rfl⟩ := List.mem_map.mp ht
  exact (z.2.2.2 l hl).ok
theorem sm_if (z : SC B k0 tx n h (nm, lv, res, rp, md)) (zl : LnO h L) (ha : actv lv = true) (h2 : 2 ≤ L.length) : SO B k0 tx n (bnd (F_Sm_requireLevelRoom h) fun x90 h88 => bnd (F_Sm_answerDefined h88) fun x95 h93 => bnd (F_Ex_expand (0 : Int) 103 400 (0 : Int) x95 h93) fun x100 h98 => gd (RoO h98 x100) (bnd (F_Es_valueOf (x100 + 2) 100 (mGi h98 x100 3) h98) fun x106 h104 => if (lgI x106 (0 : Int64)) = 0 then F_Sm_takeOrder_125 (0 : Int) h104 else F_Sm_takeOrder_125 (1 : Int) h104)) (ifL L (nm, lv, res, rp, md)) := by
  have l1 : mGi h 86 11 = (lv.length : Int) := z.2.2.2.1.1
  have hm : md ≤ 900 := z.2.1.2.1.2
  unfold F_Sm_requireLevelRoom ifL
  dsimp only
  by_cases c6 : 6 ≤ lv.length
  · rw [if_pos c6, l1, if_neg (by omega)]
    refine ⟨fun q => absurd q (by show ¬ (1 : Nat) = 0; decide), fun _ => ⟨h, ?_, z.sx⟩⟩
    have := to_fail (h := h) (why := 1) z.2.1.rm.1 (fun (_ : Unit) h => (some (.inl (), h) : RS Unit))
    rw [show ((1 : Nat) : Int) = 1 from rfl] at this
    rw [this, bnd_r]
    rfl
  rw [if_neg c6, l1, if_pos (by omega), bnd_l, if_pos ha]
  obtain ⟨h1, e1, f1, t1⟩ := sm_ans (md := md) (nm := nm) hm z.2.2.2.2.2.1 z.2.1.1 zl h2
  have z1 : SC B k0 tx n h1 (nm, lv, res, rp, md) := z.fw' f1 (fun b i q => q.elim) (fun b i q => .inr q)
  have okd := dfd_ok (nm := nm) _ ((L.drop 2).map ltk) (Nat.le_refl _) (fun t ht => zl.oks t (by rw [List.map_drop] at ht; exact List.mem_of_mem_drop ht))
  have hlen : (dfd nm ((L.drop 2).map ltk)).length ≤ 400 := by
    have a := okd.2
    rw [List.length_map, List.length_drop] at a
    have := zl.2.1
    omega
  obtain ⟨r, hr, ex⟩ := (show ∃ r, ((rowT nm rp md (dfd nm ((L.drop 2).map ltk))).1 = 0 → ∀ h' x, F_Ex_expand 0 103 400 0 ((dfd nm ((L.drop 2).map ltk)).length : Int) h1 = some (.inl x, h') → mGr h' 96 0 = some r) ∧ ExR nm k0 0 r md h1 (F_Ex_expand 0 103 400 0 ((dfd nm ((L.drop 2).map ltk)).length : Int) h1) (rowT nm rp md (dfd nm ((L.drop 2).map ltk))) from ex_row z1.2.2.1 z1.2.1 hlen t1 okd.1)
  rw [e1, bnd_l]
  generalize hE : rowT nm rp md (dfd nm ((L.drop 2).map ltk)) = E at *
  obtain ⟨ex1, ex2⟩ := ex
  by_cases c0 : E.1 ≠ 0
  · rw [if_pos c0]
    obtain ⟨h2', a1, a2, a3, a4⟩ := ex2 c0
    rw [a1, bnd_r]
    exact ⟨fun q => absurd q c0, fun _ => ⟨h2', rfl, z1.xx a2 a3 a4⟩⟩
  rw [if_neg c0]
  have c0' : E.1 = 0 := Classical.byContradiction c0
  obtain ⟨h2', a1, a2, a3, a4, a5, a6⟩ := ex1 c0'
  have z2 : SC B k0 tx n h2' (nm, lv, res, E.2.1, E.2.2.1) := z1.xf a2 a4
  have hr' := hr c0' h2' r a1
  obtain ⟨o1, o2⟩ := a4.2.2.2.1.1 0 (by decide) r hr'
  have hm2 := a4.2.1.2
  have V := val_e (a := r + 2) (n := E.2.2.2.length) (L := E.2.2.2) (M := 402 + E.2.2.1) (by omega) (by omega) rfl a5.2.1 a4.rm.1 a5.2.2 a6
  rw [a1, bnd_l, gd_t o1, a5.1]
  have hkx : (E.2.2.2.map fun t => (t.1, t.2.1)) = kx E.2.2.2 := rfl
  rw [hkx]
  cases ev : evE true [] [] (kx E.2.2.2) with
  | none =>
    obtain ⟨h3, b1, b2⟩ := V.2 ev
    rw [b1, bnd_r]
    have z3 : SC B k0 tx n h3 (nm, lv, res, E.2.1, E.2.2.1) := z2.fw' b2 (fun b i q => by unfold pE at q; omega) (fun b i q => .inl q)
    exact ⟨fun q => absurd q (by show ¬ (9 : Nat) = 0; decide), fun _ => ⟨h3, rfl, z3.sx⟩⟩
  | some v =>
    obtain ⟨h3, b1, b2⟩ := V.1 v ev
    rw [b1, bnd_l]
    have z3 : SC B k0 tx n h3 (nm, lv, res, E.2.1, E.2.2.1) := z2.fw' b2 (fun b i q => by unfold pE at q; omega) (fun b i q => .inl q)
    obtain ⟨h4, d1, d2⟩ := lv_begin (o := true) (hd := decide (v ≠ 0)) z3 (by omega)
    unfold F_Sm_takeOrder_125
    have d1' : ∀ x : Int, x = bI (decide (v ≠ 0)) → F_Sm_beginLevel x 0 h3 = some (.inl (), h4) := fun x hx => by rw [hx]; exact d1
    by_cases cv : lgI v (0 : Int64) = 0
    · rw [if_pos cv, gd_01a, d1' 0 (by rw [decide_eq_false (fun q : v ≠ 0 => q (lg_eq.mp cv))]; rfl), bnd_l]
      exact ⟨fun _ => ⟨h4, rfl, d2⟩, fun q => absurd rfl q⟩
    · rw [if_neg cv, gd_01b, d1' 1 (by rw [decide_eq_true (show v ≠ 0 from fun q => cv (lg_eq.mpr q))]; rfl), bnd_l]
      exact ⟨fun _ => ⟨h4, rfl, d2⟩, fun q => absurd rfl q⟩
/-! the words of orders -/
theorem sl_1 : mSLen.getD 1 0 = (strL 1).length := by decide +kernel
theorem sl_4 : mSLen.getD 4 0 = (strL 4).length := by decide +kernel
theorem sl_9 : mSLen.getD 9 0 = (strL 9).length := by decide +kernel
theorem sl_10 : mSLen.getD 10 0 = (strL 10).length := by decide +kernel
theorem sl_11 : mSLen.getD 11 0 = (strL 11).length := by decide +kernel
theorem sl_12 : mSLen.getD 12 0 = (strL 12).length := by decide +kernel
theorem sl_14 : mSLen.getD 14 0 = (strL 14).length := by decide +kernel
theorem sl_ne : strL 9 ≠ strL 1 ∧ strL 9 ≠ strL 14 ∧ strL 4 ≠ strL 1 ∧ strL 4 ≠ strL 14 ∧ strL 10 ≠ strL 1 ∧ strL 10 ≠ strL 14 ∧ strL 11 ≠ strL 1 ∧ strL 11 ≠ strL 14 ∧ strL 12 ≠ strL 1 ∧ strL 12 ≠ strL 14 ∧ strL 4 ≠ strL 9 ∧ strL 10 ≠ strL 9 ∧ strL 11 ≠ strL 9 ∧ strL 12 ≠ strL 9 ∧ strL 1 ≠ strL 14 := by decide +kernel
theorem skipV {w : LnT} (z : SC B k0 tx n h (nm, lv, res, rp, md)) (zl : LnO h L) (ha : ¬ actv lv = true) (e1 : L[1]? = some w) (kw : w.1 = 1) : SO B k0 tx n (F_Sm_skipOrder (mGl h 103 1) h) (ordL L (nm, lv, res, rp, md)) := by
  have hm : md ≤ 900 := z.2.1.2.1.2
  have tc := zl.tc (M := 402 + md) (p := 1) (by omega) (by omega) e1
  have hO : ∀ k, isO L k = decide (w.2.1 = strL k) := fun k => by
    unfold isO wdAt txAt
    rw [e1]
    show (decide (w.1 = 1) && _) = _
    rw [decide_eq_true kw]
    rfl
  have begin' : SO B k0 tx n (F_Sm_skipOrder_39 h) (if 6 ≤ lv.length then ((nm, lv, res, rp, md), 1) else ((nm, (false, false, false) :: lv, res, rp, md), 0)) := by
    unfold F_Sm_skipOrder_39
    refine SO.th (lv_rom z) (fun q h' z' => ?_) (fun q => ?_)
    · have c6 : ¬ 6 ≤ lv.length := fun c => by
        have q' : (if 6 ≤ lv.length then 1 else 0) = 0 := q
        rw [if_pos c] at q'
        cases q'
      rw [if_neg c6]
      obtain ⟨h1, e1, z1⟩ := lv_begin (o := false) (hd := false) z' (by omega)
      have e1' : F_Sm_beginLevel 0 1 h' = some (.inl (), h1) := e1
      rw [e1', bnd_l]
      exact ⟨fun _ => ⟨h1, rfl, z1⟩, fun q => absurd rfl q⟩
    · have c6 : 6 ≤ lv.length := Classical.byContradiction fun c => q (by show (if 6 ≤ lv.length then 1 else 0) = 0; rw [if_neg c])
      rw [if_pos c6, if_pos c6]
  have st : ∀ k, mSLen.getD k 0 = (strL k).length → F_To_is (mGl h 103 1) k h = some (.inl (if w.2.1 = strL k then 1 else 0), h) := fun k hk => to_is tc hk
  unfold F_Sm_skipOrder ordL
  rw [st 9 sl_9, bnd_l, hO 9]
  by_cases c9 : w.2.1 = strL 9
  · rw [if_pos c9, if_neg (by decide), decide_eq_true c9, if_pos rfl]
    unfold ifL
    dsimp only
    rw [if_neg ha]
    exact begin'
  rw [if_neg c9, if_pos rfl, decide_eq_false c9, if_neg (by decide), st 4 sl_4, bnd_l, hO 4]
  have ifd : ∀ how, ifdL how L (nm, lv, res, rp, md) = if 6 ≤ lv.length then ((nm, lv, res, rp, md), 1) else ((nm, (false, false, false) :: lv, res, rp, md), 0) := fun how => by
    unfold ifdL
    dsimp only
    rw [if_neg (fun q : actv lv = true ∧ ¬ (wdAt L 2 = true ∧ L.length = 3) => ha q.1), Bool.eq_false_iff.mpr ha]
    rfl
  by_cases c4 : w.2.1 = strL 4
  · rw [if_pos c4, if_neg (by decide), decide_eq_true c4, if_pos rfl, ifd]
    exact begin'
  rw [if_neg c4, if_pos rfl, decide_eq_false c4, if_neg (by decide), st 10 sl_10, bnd_l, hO 10]
  by_cases c10 : w.2.1 = strL 10
  · rw [if_pos c10, if_neg (by decide), decide_eq_true c10, if_pos rfl, ifd]
    exact begin'
  rw [if_neg c10, if_pos rfl, decide_eq_false c10, if_neg (by decide), st 11 sl_11, bnd_l, hO 11]
  by_cases c11 : w.2.1 = strL 11
  · rw [if_pos c11, if_neg (by decide), decide_eq_true c11, if_pos rfl]
    unfold turL
    dsimp only
    rw [if_neg (fun q : actv lv = true ∧ L.length ≠ 2 => ha q.1)]
    exact (lv_turn z).bd
  rw [if_neg c11, if_pos rfl, decide_eq_false c11, if_neg (by decide), st 12 sl_12, bnd_l, hO 12]
  by_cases c12 : w.2.1 = strL 12
  · rw [if_pos c12, if_neg (by decide), decide_eq_true c12, if_pos rfl]
    unfold endL
    dsimp only
    rw [if_neg (fun q : actv lv = true ∧ L.length ≠ 2 => ha q.1)]
    exact (lv_end z).bd
  rw [if_neg c12, if_pos rfl, decide_eq_false c12, if_neg (by decide)]
  dsimp only
  rw [if_neg (fun q : isO L 1 = true ∧ actv lv = true => ha q.2), if_neg (fun q : isO L 14 = true ∧ actv lv = true => ha q.2), if_neg (fun q : actv lv = true ∧ 1 < L.length => ha q.1)]
  exact SO.ok z
theorem hbw_e {w : LnT} (zl : LnO h L) (e2 : L[2]? = some w) : F_Sm_hasBracketAtWord h = some (.inl (bI (decide (sgAt L 3 40 = true ∧ stAt L 3 = stAt L 2 + (txAt L 2).length))), h) := by
  have q := zl.2.2.1.get e2
  rw [Nat.zero_add] at q
  obtain ⟨q1, q2, q3⟩ := q
  have es : stAt L 2 = w.2.2 := by unfold stAt; rw [e2]
  unfold F_Sm_hasBracketAtWord F_Sm_hasBracketAtWord_47 F_To_start F_To_length
  rw [gd_b (by decide) (by decide), show (2 : Int).toNat = 2 from rfl, q1.start, bnd_l, q1.len, bnd_l, gd_rg (by omega) (by omega), show (3 : Int) = ((3 : Nat) : Int) from rfl, ln_sign zl, bnd_l, es, txA e2]
  by_cases c : sgAt L 3 40 = true
  · rw [c, if_neg (show ¬ bI true = 0 by decide), gd_b (by decide) (by decide), show ((3 : Nat) : Int).toNat = 3 from rfl]
    cases e3 : L[3]? with
    | none => unfold sgAt at c; rw [e3] at c; cases c
    | some y =>
      have p := zl.2.2.1.get e3
      rw [Nat.zero_add] at p
      have es3 : stAt L 3 = y.2.2 := by unfold stAt; rw [e3]
      rw [p.1.start, bnd_l, es3]
      by_cases d : y.2.2 = w.2.2 + w.2.1.length
      · rw [if_pos (by omega), decide_eq_true ⟨rfl, d⟩]; rfl
      · rw [if_neg (by omega), decide_eq_false (fun q => d q.2)]; rfl
  · rw [Bool.eq_false_iff.mpr c, if_pos (show bI false = 0 from rfl), decide_eq_false (fun q => absurd q.1 (by decide))]; rfl
theorem sm_define (z : SC B k0 tx n h s) (zl : LnO h L) : SO B k0 tx n (bnd (F_Sm_isWordAt (2 : Int) h) fun x117 h115 => bnd (F_Sm_require x117 h115) fun x122 h120 => bnd (F_Sm_hasBracketAtWord h120) fun x127 h125 => if x127 = 0 then F_Sm_takeOrder_38 (-1 : Int) h125 else bnd (F_Sm_countParameters h125) fun x133 h131 => F_Sm_takeOrder_38 x133 h131) (defL L s) := by
  rw [show (2 : Int) = ((2 : Nat) : Int) from rfl, ln_word zl, bnd_l]
  unfold defL
  by_cases c : wdAt L 2 = true
  · obtain ⟨w, ew, kw⟩ := wdA c
    have R := z.2.1.rm.1
    rw [c, if_pos rfl]
    unfold F_Sm_require
    rw [if_neg (show ¬ bI true = 0 by decide), bnd_l, hbw_e zl ew, bnd_l]
    have fin : ∀ ps b, hdD L = some (ps, b) → SO B k0 tx n (F_Sm_takeOrder_38 (psN ps) h) (match hdD L with | none => (s, 6) | some (ps, b) => match (match fnd s.1 (txAt L 2) with | some k => some k | none => fre s.1) with | none => (s, 1) | some k => if 12 < b.length then (s, 1) else ((setN s.1 k (some (txAt L 2, ps, b.map fun l => (l.1, l.2.1))), s.2), 0)) := by
      intro ps b e
      have A := sm_dfn z zl c e
      rw [e]
      unfold F_Sm_takeOrder_38
      exact A.bd
    by_cases cb : sgAt L 3 40 = true ∧ stAt L 3 = stAt L 2 + (txAt L 2).length
    · rw [decide_eq_true cb, if_neg (show ¬ bI true = 0 by decide)]
      unfold F_Sm_countParameters
      rw [show (4 : Int) = ((4 : Nat) : Int) from rfl, ln_sign zl, bnd_l]
      by_cases c4 : sgAt L 4 41 = true
      · have eh : hdD L = some (some [], L.drop 5) := by unfold hdD; rw [if_pos cb, if_pos c4]
        have ec : F_Sm_countParameters_12 (bI (sgAt L 4 41)) 0 ((4 : Nat) : Int) h = some (.inl 0, h) := by
          show cpL FU (bI (sgAt L 4 41)) 0 ((4 : Nat) : Int) h = _
          rw [show FU = 99999999 + 1 from rfl, cpL_s, F_Sm_countParameters_12_b, c4, if_neg (show ¬ bI true = 0 by decide)]
          unfold F_Sm_countParameters_129
          rw [show bI true = 1 from rfl, gd_01b, rq0]
        rw [ec, bnd_l]
        exact fin _ _ eh
      · have A := cp_l R zl 3 0 FU [] rfl (by unfold FU; omega) rfl (fun i hi => absurd hi (Nat.not_lt_zero _))
        have A' : CpR h (F_Sm_countParameters_12 (bI (sgAt L 4 41)) 0 ((4 : Nat) : Int) h) ((prm 3 [] (L.drop 4)).map fun q => (q.1.length : Int)) := by
          rw [Bool.eq_false_iff.mpr c4]
          exact A
        have eh : hdD L = (prm 3 [] (L.drop 4)).map fun q => (some q.1, q.2) := by unfold hdD; rw [if_pos cb, if_neg c4]
        cases ep : prm 3 [] (L.drop 4) with
        | none =>
          rw [ep] at A' eh
          have ehn : hdD L = none := eh
          rw [A'.2 rfl, bnd_r, ehn]
          exact ⟨fun q => absurd q (by show ¬ (6 : Nat) = 0; decide), fun _ => ⟨h, rfl, z.sx⟩⟩
        | some y =>
          obtain ⟨ps, r⟩ := y
          rw [ep] at A' eh
          rw [A'.1 _ rfl, bnd_l]
          exact fin (some ps) r eh
    · have eh : hdD L = some (none, L.drop 3) := by unfold hdD; rw [if_neg cb]
      rw [decide_eq_false cb, if_pos (show bI false = 0 from rfl)]
      exact fin none _ eh
  · rw [Bool.eq_false_iff.mpr c, if_neg (by decide)]
    refine SO.th (sm_req (b := false) z) (fun q => absurd (show (6 : Nat) = 0 from q) (by decide)) (fun _ => rfl)
theorem takeV {w : LnT} (z : SC B k0 tx n h (nm, lv, res, rp, md)) (zl : LnO h L) (ha : actv lv = true) (e1 : L[1]? = some w) (kw : w.1 = 1) : SO B k0 tx n (F_Sm_takeOrder (mGl h 103 1) h) (ordL L (nm, lv, res, rp, md)) := by
  have hm : md ≤ 900 := z.2.1.2.1.2
  have tc := zl.tc (M := 402 + md) (p := 1) (by omega) (by omega) e1
  have hl2 : 2 ≤ L.length := (List.getElem?_eq_some_iff.mp e1).1
  have hO : ∀ k, isO L k = decide (w.2.1 = strL k) := fun k => by
    unfold isO wdAt txAt
    rw [e1]
    show (decide (w.1 = 1) && _) = _
    rw [decide_eq_true kw]
    rfl
  have st : ∀ k, mSLen.getD k 0 = (strL k).length → F_To_is (mGl h 103 1) k h = some (.inl (if w.2.1 = strL k then 1 else 0), h) := fun k hk => to_is tc hk
  obtain ⟨d1, d2, d3, d4, d5, d6, d7, d8, d9, d10, d11, d12, d13, d14, d15⟩ := sl_ne
  have lr : ∀ b : Bool, SO B k0 tx n (F_Sm_takeOrder_238 (bI b) h) (if b = true then endV lv (nm, lv, res, rp, md) else ((nm, lv, res, rp, md), 6)) := fun b => by
    unfold F_Sm_takeOrder_238
    rw [gd_t bI_01]
    refine SO.th (sm_req (b := b) z) (fun q h' z' => ?_) (fun q => ?_)
    · cases b with
      | true => rw [if_pos rfl]; exact (lv_end z').bd
      | false => exact absurd (show (6 : Nat) = 0 from q) (by decide)
    · cases b with
      | true => exact absurd rfl q
      | false => rfl
  unfold F_Sm_takeOrder ordL
  rw [st 1 sl_1, bnd_l, hO 9, hO 4, hO 10, hO 11, hO 12, hO 1, hO 14]
  by_cases c1 : w.2.1 = strL 1
  · rw [if_pos c1, if_neg (show ¬ (1 : Int) = 0 by decide), c1, decide_eq_false (fun q => d1 q.symm), decide_eq_false (fun q => d3 q.symm), decide_eq_false (fun q => d5 q.symm), decide_eq_false (fun q => d7 q.symm), decide_eq_false (fun q => d9 q.symm), decide_eq_true rfl]
    simp only [Bool.false_eq_true, if_false, ha, and_self, if_true]
    exact sm_define z zl
  rw [if_neg c1, if_pos rfl, st 14 sl_14, bnd_l, decide_eq_false c1]
  by_cases c14 : w.2.1 = strL 14
  · rw [if_pos c14, if_neg (show ¬ (1 : Int) = 0 by decide), c14, decide_eq_false (fun q => d2 q.symm), decide_eq_false (fun q => d4 q.symm), decide_eq_false (fun q => d6 q.symm), decide_eq_false (fun q => d8 q.symm), decide_eq_false (fun q => d10 q.symm), decide_eq_true rfl]
    simp only [Bool.false_eq_true, if_false, false_and, ha, and_self, if_true]
    exact (sm_und z zl).bd
  rw [if_neg c14, if_pos rfl, st 9 sl_9, bnd_l, decide_eq_false c14]
  by_cases c9 : w.2.1 = strL 9
  · rw [if_pos c9, if_neg (show ¬ (1 : Int) = 0 by decide), decide_eq_true c9, if_pos rfl]
    exact sm_if z zl ha hl2
  rw [if_neg c9, if_pos rfl, st 4 sl_4, bnd_l, decide_eq_false c9, if_neg (show ¬ false = true by decide)]
  by_cases c4 : w.2.1 = strL 4
  · rw [if_pos c4, if_neg (show ¬ (1 : Int) = 0 by decide), decide_eq_true c4, if_pos rfl]
    exact (sm_byn (how := true) z zl ha).bd
  rw [if_neg c4, if_pos rfl, st 10 sl_10, bnd_l, decide_eq_false c4, if_neg (show ¬ false = true by decide)]
  by_cases c10 : w.2.1 = strL 10
  · rw [if_pos c10, if_neg (show ¬ (1 : Int) = 0 by decide), decide_eq_true c10, if_pos rfl]
    exact (sm_byn (how := false) z zl ha).bd
  rw [if_neg c10, if_pos rfl, st 11 sl_11, bnd_l, decide_eq_false c10, if_neg (show ¬ false = true by decide)]
  by_cases c11 : w.2.1 = strL 11
  · rw [if_pos c11, if_neg (show ¬ (1 : Int) = 0 by decide), decide_eq_true c11, if_pos rfl]
    have lt : ∀ b : Bool, SO B k0 tx n (F_Sm_takeOrder_201 (bI b) h) (if b = true then turV lv (nm, lv, res, rp, md) else ((nm, lv, res, rp, md), 6)) := fun b => by
      unfold F_Sm_takeOrder_201
      rw [gd_t bI_01]
      refine SO.th (sm_req (b := b) z) (fun q h' z' => ?_) (fun q => ?_)
      · cases b with
        | true => rw [if_pos rfl]; exact (lv_turn z').bd
        | false => exact absurd (show (6 : Nat) = 0 from q) (by decide)
      · cases b with
        | true => exact absurd rfl q
        | false => rfl
    unfold turL
    dsimp only
    rw [zl.1]
    by_cases cl : L.length = 2
    · rw [if_pos (by omega), if_neg (fun q : actv lv = true ∧ L.length ≠ 2 => q.2 cl)]
      exact lt true
    · rw [if_neg (by omega), if_pos (show actv lv = true ∧ L.length ≠ 2 from ⟨ha, cl⟩)]
      exact lt false
  rw [if_neg c11, if_pos rfl, st 12 sl_12, bnd_l, decide_eq_false c11, if_neg (show ¬ false = true by decide)]
  unfold F_Sm_takeOrder_237
  by_cases c12 : w.2.1 = strL 12
  · rw [if_pos c12, if_neg (show ¬ (1 : Int) = 0 by decide), decide_eq_true c12, if_pos rfl]
    unfold endL
    dsimp only
    rw [zl.1]
    by_cases cl : L.length = 2
    · rw [if_pos (by omega), if_neg (fun q : actv lv = true ∧ L.length ≠ 2 => q.2 cl)]
      exact lr true
    · rw [if_neg (by omega), if_pos (show actv lv = true ∧ L.length ≠ 2 from ⟨ha, cl⟩)]
      exact lr false
  rw [if_neg c12, if_pos rfl, decide_eq_false c12, if_neg (show ¬ false = true by decide)]
  simp only [Bool.false_eq_true, false_and, if_false]
  rw [if_pos (show actv lv = true ∧ 1 < L.length from ⟨ha, hl2⟩)]
  exact lr false
theorem sm_line (z : SC B k0 tx n h (nm, lv, res, rp, md)) (zl : LnO h L) : SO B k0 tx n (F_Sm_takeLine h) (lineL L (nm, lv, res, rp, md)) := by
  have hm : md ≤ 900 := z.2.1.2.1.2
  obtain ⟨l1, l2, l3⟩ := z.2.2.2.1
  have l1' : mGi h 86 11 = (lv.length : Int) := l1
  have act : actv lv = true → SO B k0 tx n (F_Sm_takeLine_54 (bI (sgAt L 0 35)) h) (lineL L (nm, lv, res, rp, md)) := by
    intro ha
    unfold F_Sm_takeLine_54 lineL
    dsimp only
    by_cases c : sgAt L 0 35 = true
    · rw [c, if_neg (show ¬ bI true = 0 by decide), if_pos rfl, zl.1]
      by_cases c1 : L.length ≤ 1
      · rw [if_pos (by omega)]
        have hO : ∀ k, isO L k = false := fun k => by
          unfold isO wdAt
          rw [List.getElem?_eq_none c1]
          rfl
        unfold ordL
        simp only [hO, Bool.false_eq_true, false_and, if_false]
        rw [if_neg (fun q : actv lv = true ∧ 1 < L.length => absurd q.2 (by omega))]
        exact SO.ok z
      · rw [if_neg (by omega), show (1 : Int) = ((1 : Nat) : Int) from rfl, ln_word zl, bnd_l]
        by_cases cw : wdAt L 1 = true
        · obtain ⟨w, ew, kw⟩ := wdA cw
          unfold F_Sm_require
          rw [cw, if_neg (show ¬ bI true = 0 by decide), bnd_l, gd_b (by decide) (by decide), show ((1 : Nat) : Int).toNat = 1 from rfl]
          exact (takeV z zl ha ew kw).bd
        · have hO : ∀ k, isO L k = false := fun k => by
            unfold isO
            rw [Bool.eq_false_iff.mpr cw]
            rfl
          have e6 : ordL L (nm, lv, res, rp, md) = ((nm, lv, res, rp, md), 6) := by
            unfold ordL
            simp only [hO, Bool.false_eq_true, false_and, if_false]
            rw [if_pos (show actv lv = true ∧ 1 < L.length from ⟨ha, by omega⟩)]
          rw [e6, Bool.eq_false_iff.mpr cw]
          exact SO.th (sm_req (b := false) z) (fun q => absurd (show (6 : Nat) = 0 from q) (by decide)) (fun _ => rfl)
    · rw [Bool.eq_false_iff.mpr c, if_pos (show bI false = 0 from rfl), if_neg (show ¬ false = true by decide), if_pos ha, zl.1]
      have hlm : (L.map ltk).length = L.length := List.length_map _
      obtain ⟨r, hr, ex⟩ := (show ∃ r, ((rowT nm rp md (L.map ltk)).1 = 0 → ∀ h' x, F_Ex_expand 0 103 400 0 ((L.map ltk).length : Int) h = some (.inl x, h') → mGr h' 96 0 = some r) ∧ ExR nm k0 0 r md h (F_Ex_expand 0 103 400 0 ((L.map ltk).length : Int) h) (rowT nm rp md (L.map ltk)) from ex_row (w := L.map ltk) z.2.2.1 z.2.1 (by rw [hlm]; exact zl.2.1) (zl.2.2.1.ts (by omega) (by show 402 + md ≤ 1302; omega)) zl.oks)
      rw [hlm] at hr ex
      generalize hE : rowT nm rp md (L.map ltk) = E at *
      obtain ⟨ex1, ex2⟩ := ex
      by_cases c0 : E.1 ≠ 0
      · rw [if_pos c0]
        obtain ⟨h2', a1, a2, a3, a4⟩ := ex2 c0
        rw [a1, bnd_r]
        exact ⟨fun q => absurd q c0, fun _ => ⟨h2', rfl, z.xx a2 a3 a4⟩⟩
      rw [if_neg c0]
      have c0' : E.1 = 0 := Classical.byContradiction c0
      obtain ⟨h2', a1, a2, a3, a4, a5, a6⟩ := ex1 c0'
      have z2 : SC B k0 tx n h2' (nm, lv, res, E.2.1, E.2.2.1) := z.xf a2 a4
      have hr' := hr c0' h2' r a1
      obtain ⟨o1, o2⟩ := a4.2.2.2.1.1 0 (by decide) r hr'
      rw [a1, bnd_l, gd_t o1]
      exact sm_del z2 hr' a5
  unfold F_Sm_takeLine
  have hs0 : F_Sm_isSignAt 0 35 h = some (.inl (bI (sgAt L 0 35)), h) := ln_sign (p := 0) zl
  rw [hs0, bnd_l, l1']
  cases lv with
  | nil =>
    rw [if_pos (by show (0 : Int) ≤ 0; decide)]
    exact act rfl
  | cons x r =>
    obtain ⟨o, hd, t⟩ := x
    obtain ⟨l4, l5, l6, l7⟩ := l3
    have l2' : r.length + 1 ≤ 6 := l2
    rw [List.length_cons, if_neg (by omega), gd_rg (by omega) (by omega), show ((r.length + 1 : Nat) : Int) - 1 = (r.length : Int) by omega, gd_b (by omega) (by omega), Int.toNat_natCast, l4]
    by_cases ha : (o && hd) = true
    · rw [ha, if_neg (show ¬ bI true = 0 by decide)]
      exact act ha
    · rw [Bool.eq_false_iff.mpr ha, if_pos (show bI false = 0 from rfl)]
      unfold lineL
      dsimp only
      have ha' : ¬ actv ((o, hd, t) :: r) = true := ha
      by_cases c : sgAt L 0 35 = true
      · rw [c, if_neg (show ¬ bI true = 0 by decide), if_pos rfl, show (1 : Int) = ((1 : Nat) : Int) from rfl, ln_word zl, bnd_l]
        by_cases cw : wdAt L 1 = true
        · obtain ⟨w, ew, kw⟩ := wdA cw
          rw [cw, if_neg (show ¬ bI true = 0 by decide), gd_b (by decide) (by decide), show ((1 : Nat) : Int).toNat = 1 from rfl]
          exact (skipV z zl ha' ew kw).bd
        · have hO : ∀ k, isO L k = false := fun k => by
            unfold isO
            rw [Bool.eq_false_iff.mpr cw]
            rfl
          have e6 : ordL L (nm, (o, hd, t) :: r, res, rp, md) = ((nm, (o, hd, t) :: r, res, rp, md), 0) := by
            unfold ordL
            simp only [hO, Bool.false_eq_true, false_and, if_false]
            rw [if_neg (fun q : actv ((o, hd, t) :: r) = true ∧ 1 < L.length => ha' q.1)]
          rw [e6, Bool.eq_false_iff.mpr cw, if_pos (show bI false = 0 from rfl)]
          exact SO.ok z
      · rw [Bool.eq_false_iff.mpr c, if_pos (show bI false = 0 from rfl), if_neg (show ¬ false = true by decide), if_neg ha']
        exact SO.ok z
end Sm5
