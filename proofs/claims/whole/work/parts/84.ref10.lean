/-! the reference's first mill: single characters, the run -/
section Ref10
variable {P Q : Nat → Nat → Prop} {B h h' h'' h0 : MH} {T p : Nat} {t : List Int} {w c : Int} {pv : List (List Int)} {cu i o : List Int} {op : Nat} {r fs : List Fm1} {ds : List Nat} {wd tx : Nat → List Int}
theorem m_open {n : Nat} (z : RV B h (i, o, (w, pv, cu, op) :: r, ds, wd, tx) p) : RV B (mPi h 120 r.length (n : Int)) (i, o, (w, pv, cu, n) :: r, ds, wd, tx) p := by
  obtain ⟨z1, z2, z3, z4, ⟨z5, z5'⟩, ⟨a1, a2, a3, q1, q2, q3, q4, q5, q6⟩, z7⟩ := z
  have f1 : FP (fun b i => b = 120 ∧ i = r.length) h (mPi h 120 r.length (n : Int)) := FP.pi FP.rf ⟨rfl, rfl⟩
  refine ⟨z1.tr (f1.fl.sub fun b i => by unfold pR; omega), (f1.2.2 107 1 (by omega)).trans z2, (f1.2.2 107 4 (by omega)).trans z3, z4.fp f1 (fun b j => by omega), ⟨(f1.2.2 107 5 (by omega)).trans z5, Seg.cg (fun k _ _ => f1.2.2 110 k (by omega)) z5'⟩, ⟨(f1.2.2 107 7 (by omega)).trans a1, (f1.2.2 107 8 (by omega)).trans a2, Seg.cg (fun k _ _ => f1.2.2 112 k (by omega)) a3, (f1.2.2 117 _ (by omega)).trans q1, (f1.2.2 118 _ (by omega)).trans q2, gi_s, q4, StM.cg (fun j _ _ => f1.2.2 119 j (by omega)) q5, FrM.cg (fun j hj => ⟨f1.2.2 117 j (by omega), f1.2.2 118 j (by omega), f1.2.2 120 j (by omega)⟩) (fun j _ => f1.2.2 119 j (by omega)) q6⟩, ?_⟩
  have y := z7.fp f1 (fun b i => by unfold pD; omega)
  exact y
theorem m_next (z : RV B h (i, o, (w, pv, cu, op) :: r, ds, wd, tx) p) (hF : (flat ((w, pv, cu, op) :: r)).length ≤ 200) (hr : r.length < 6) : RO B p (F_M_nextArgument (r.length : Int) h) (if 4 ≤ pv.length then ((i, o, (w, pv, cu, op) :: r, ds, wd, tx), 1) else ((i, o, (w, pv ++ [cu], [], op) :: r, ds, wd, tx), 0)) := by
  obtain ⟨z1, z2, z3, z4, ⟨z5, z5'⟩, ⟨a1, a2, a3, q1, q2, q3, q4, q5, q6⟩, z7⟩ := z
  have f1 : FP (fun b i => b = 119 ∧ i = 6 * r.length + (pv.length + 1)) h (mPi h 119 (6 * r.length + (pv.length + 1)) ((flat ((w, pv, cu, op) :: r)).length : Int)) := FP.pi FP.rf ⟨rfl, rfl⟩
  unfold F_M_nextArgument F_M_nextArgument_36
  rw [gd_rg (by omega) (by omega), gd_b (by omega) (by omega), Int.toNat_natCast, q2, gd_rg (by omega) (by omega), gd_b (by omega) (by omega)]
  simp only [sto_e]
  rw [a2, show (6 * (r.length : Int) + ((pv.length + 1 : Nat) : Int)).toNat = 6 * r.length + (pv.length + 1) by omega]
  have g2 : mGi (mPi h 119 (6 * r.length + (pv.length + 1)) ((flat ((w, pv, cu, op) :: r)).length : Int)) 118 r.length = ((pv.length + 1 : Nat) : Int) := (f1.2.2 118 _ (by omega)).trans q2
  have g1 : mGi (mPi h 119 (6 * r.length + (pv.length + 1)) ((flat ((w, pv, cu, op) :: r)).length : Int)) 107 1 = 0 := (f1.2.2 107 1 (by omega)).trans z2
  have q5' : StM (mPi h 119 (6 * r.length + (pv.length + 1)) ((flat ((w, pv, cu, op) :: r)).length : Int)) (6 * r.length) (flat r).length (pv ++ [cu]) := StM.cg (fun j h1 h2 => f1.2.2 119 j (by rw [List.length_append, List.length_singleton] at h2; omega)) q5
  have zv : RV B (mPi h 119 (6 * r.length + (pv.length + 1)) ((flat ((w, pv, cu, op) :: r)).length : Int)) (i, o, (w, pv, cu, op) :: r, ds, wd, tx) p := ⟨z1.tr (f1.fl.sub fun b i => by unfold pR; omega), g1, (f1.2.2 107 4 (by omega)).trans z3, z4.fp f1 (fun b j => by omega), ⟨(f1.2.2 107 5 (by omega)).trans z5, Seg.cg (fun k _ _ => f1.2.2 110 k (by omega)) z5'⟩, ⟨(f1.2.2 107 7 (by omega)).trans a1, (f1.2.2 107 8 (by omega)).trans a2, Seg.cg (fun k _ _ => f1.2.2 112 k (by omega)) a3, (f1.2.2 117 _ (by omega)).trans q1, g2, (f1.2.2 120 _ (by omega)).trans q3, q4, q5', FrM.cg (fun j hj => ⟨f1.2.2 117 j (by omega), f1.2.2 118 j (by omega), f1.2.2 120 j (by omega)⟩) (fun j _ => f1.2.2 119 j (by omega)) q6⟩, z7.fp f1 (fun b i => by unfold pD; omega)⟩
  have e119 : mGi (mPi h 119 (6 * r.length + (pv.length + 1)) ((flat ((w, pv, cu, op) :: r)).length : Int)) 119 (6 * r.length + (pv.length + 1)) = ((flat ((w, pv, cu, op) :: r)).length : Int) := gi_s
  generalize mPi h 119 (6 * r.length + (pv.length + 1)) ((flat ((w, pv, cu, op) :: r)).length : Int) = h1 at g1 g2 zv e119 ⊢
  rw [g2]
  by_cases c1 : 4 ≤ pv.length
  · rw [if_pos (by omega), if_pos c1, gd_01a, need_0 g1 (by decide), bnd_l, if_pos rfl]
    exact ⟨_, rfl, .inr ⟨(by decide : (1 : Nat) ≠ 0), zv.rx (why := 1)⟩⟩
  · rw [if_neg (by omega), if_neg c1, gd_01b, need_1 g1, bnd_l, if_neg (by decide), gd_b (by omega) (by omega), g2, gd_rg (by omega) (by omega)]
    obtain ⟨z1, z2, z3, z4, ⟨z5, z5'⟩, ⟨a1, a2, a3, q1, q2, q3, q4, q5, q6⟩, z7⟩ := zv
    have f1 : FP (fun b i => b = 118 ∧ i = r.length) h1 (mPi h1 118 r.length (((pv.length + 1 : Nat) : Int) + 1)) := FP.pi FP.rf ⟨rfl, rfl⟩
    have hF2 : flat ((w, pv ++ [cu], [], op) :: r) = flat ((w, pv, cu, op) :: r) := by rw [flat_c, flat_c]; simp
    refine ⟨_, rfl, .inl ⟨rfl, z1.tr (f1.fl.sub fun b i => by unfold pR; omega), (f1.2.2 107 1 (by omega)).trans z2, (f1.2.2 107 4 (by omega)).trans z3, z4.fp f1 (fun b j => by omega), ⟨(f1.2.2 107 5 (by omega)).trans z5, Seg.cg (fun k _ _ => f1.2.2 110 k (by omega)) z5'⟩, ⟨(f1.2.2 107 7 (by omega)).trans a1, ?_, ?_, (f1.2.2 117 _ (by omega)).trans q1, ?_, (f1.2.2 120 _ (by omega)).trans q3, ?_, ?_, FrM.cg (fun j hj => ⟨f1.2.2 117 j (by omega), f1.2.2 118 j (by omega), f1.2.2 120 j (by omega)⟩) (fun j _ => f1.2.2 119 j (by omega)) q6⟩, ?_⟩⟩
    · show mGi _ 107 8 = ((flat ((w, pv ++ [cu], [], op) :: r)).length : Int)
      rw [hF2]
      exact (f1.2.2 107 8 (by omega)).trans a2
    · show Seg _ 112 0 (flat ((w, pv ++ [cu], [], op) :: r))
      rw [hF2]
      exact Seg.cg (fun k _ _ => f1.2.2 112 k (by omega)) a3
    · rw [gi_s, List.length_append, List.length_singleton]
      omega
    · rw [List.length_append, List.length_singleton]; omega
    · rw [StM.app]
      refine ⟨StM.cg (fun j _ _ => f1.2.2 119 j (by omega)) q5, ?_, trivial⟩
      rw [List.length_append, List.length_singleton, f1.2.2 119 _ (by omega), e119, flat_c, List.length_append]
    · have y := z7.fp f1 (fun b i => by unfold pD; omega)
      exact y
theorem m_single (z : RV B h (t, o, fs, ds, wd, tx) p) (wf : WF1 (t, o, fs, ds, wd, tx)) (hc : lgl c) : RO B p (F_M_single c h) (sing1 c t o ds wd tx fs) := by
  obtain ⟨w1, w2, w3, w4, w5, w6, w7, w8, w9, w10⟩ := wf.un
  unfold lgl at hc
  have e7 : mGi h 107 7 = (fs.length : Int) := z.2.2.2.2.2.1.1
  have hput : ∀ x : S1 × Nat, x = put1 [c] (t, o, fs, ds, wd, tx) → RO B p (F_M_put c h) x := fun x hx => by
    obtain ⟨h1, e1, f1, y1⟩ := m_put1 (x := c) z w2 w3 (by omega) (by omega)
    rw [hx]
    exact ⟨h1, e1, y1⟩
  unfold F_M_single
  rw [e7, gd_rg (by omega) (by omega)]
  cases fs with
  | nil =>
    rw [if_pos (by simp)]
    unfold F_M_single_24 F_M_single_25 F_M_single_68 F_M_single_92 F_M_single_110 F_M_single_115
    rw [if_pos rfl, if_pos rfl, if_pos rfl]
    obtain ⟨h1, e1, y1⟩ := hput _ rfl
    rw [e1, bnd_l, if_pos (by simp)]
    exact ⟨h1, rfl, y1⟩
  | cons y r =>
    obtain ⟨w, pv, cu, op⟩ := y
    obtain ⟨b1, b2, b3, b4, b5⟩ := FOk.hd w6
    rw [List.length_cons] at w4 ⊢
    have zA : ArgM h ((w, pv, cu, op) :: r) := z.2.2.2.2.2.1
    have eO : mGi h 120 r.length = (op : Int) := zA.2.2.2.2.2.1
    have hcu : cu.length ≤ 200 := by
      have := w3
      rw [flat_c, List.length_append, List.flatten_append, List.length_append] at this
      simp at this
      omega
    rw [show ((r.length + 1 : Nat) : Int) - 1 = (r.length : Int) by omega, if_neg (by omega), gd_b (by omega) (by omega), Int.toNat_natCast, eO]
    -- put, then the brackets
    have pt : (c = 41 → 0 < op) → RO B p (F_M_single_110 c (r.length : Int) h) (put1 [c] (t, o, (w, pv, cu, if c = 40 then op + 1 else if c = 41 then op - 1 else op) :: r, ds, wd, tx)) := by
      intro h41
      obtain ⟨h1, e1, f1, y1⟩ := m_put1 (x := c) z w2 w3 (by omega) (by omega)
      unfold F_M_single_110
      rw [e1, bnd_l]
      have g7 : mGi h1 107 7 = ((r.length + 1 : Nat) : Int) := by rw [f1.2.2 107 7 (by unfold pP; omega), e7, List.length_cons]
      have gO : mGi h1 120 r.length = (op : Int) := (f1.2.2 120 _ (by unfold pP; omega)).trans eO
      have ep : ∀ n : Nat, put1 [c] (t, o, (w, pv, cu, n) :: r, ds, wd, tx) = ((t, o, (w, pv, cu ++ [c], n) :: r, ds, wd, tx), if 200 < (flat ((w, pv, cu ++ [c], n) :: r)).length then 1 else 0) := fun n => rfl
      have ef : ∀ n : Nat, (flat ((w, pv, cu ++ [c], n) :: r)).length = (flat ((w, pv, cu ++ [c], op) :: r)).length := fun n => by rw [flat_c, flat_c]
      have upd : ∀ (n : Nat) (x : Int), n ≤ 1000 → x = (n : Int) - (op : Int) → RO B p (F_M_single_157 (r.length : Int) (op : Int) x h1) (put1 [c] (t, o, (w, pv, cu, n) :: r, ds, wd, tx)) := by
        intro n x hn hx
        unfold F_M_single_157
        rw [hx, show (op : Int) + ((n : Int) - (op : Int)) = (n : Int) by omega, gd_rg (by omega) (by omega), gd_b (by omega) (by omega), Int.toNat_natCast, sto_e, ep, ef]
        rw [ep] at y1
        refine ⟨_, rfl, ?_⟩
        rcases y1 with ⟨y1, y2⟩ | ⟨y1, y2⟩
        · exact .inl ⟨y1, m_open y2⟩
        · exact .inr ⟨y1, (y2.fp (P := fun b _ => b = 120) (FP.pi FP.rf rfl) (fun b i => by unfold pR; omega)).pop rfl rfl⟩
      unfold F_M_single_115 F_M_single_139
      rw [if_neg (by omega), g7, if_neg (by omega), gd_b (by omega) (by omega), Int.toNat_natCast, gO]
      by_cases c40 : c = 40
      · rw [if_pos c40, if_pos c40, if_pos c40]
        exact upd (op + 1) 1 (by omega) (by omega)
      · rw [if_neg c40, if_neg c40, if_neg c40]
        by_cases c41 : c = 41
        · have := h41 c41
          rw [if_pos c41, if_pos c41]
          exact upd (op - 1) (-1) (by omega) (by omega)
        · rw [if_neg c41, if_neg c41]
          exact ⟨h1, rfl, y1⟩
    rw [sing1]
    by_cases o0 : op = 0
    · rw [if_pos (by omega)]
      have g68 : (c ≠ 10 ∧ c ≠ 32 ∨ cu ≠ []) → RO B p (F_M_single_68 c (r.length : Int) 1 h) (if c = 41 ∧ op = 0 then call1 t o w (pv ++ [cu]) r ds wd tx else if c = 44 ∧ op = 0 then if 4 ≤ pv.length then ((t, o, (w, pv, cu, op) :: r, ds, wd, tx), 1) else ((t, o, (w, pv ++ [cu], [], op) :: r, ds, wd, tx), 0) else if (c = 10 ∨ c = 32) ∧ cu = [] then ((t, o, (w, pv, cu, op) :: r, ds, wd, tx), 0) else put1 [c] (t, o, (w, pv, cu, if c = 40 then op + 1 else if c = 41 then op - 1 else op) :: r, ds, wd, tx)) := by
        intro hb
        unfold F_M_single_68
        rw [if_neg (by decide)]
        by_cases c41 : c = 41
        · rw [if_pos c41, if_pos (show c = 41 ∧ op = 0 from ⟨c41, o0⟩), gd_b (by omega) (by omega), Int.toNat_natCast]
          have eW : mGi h 117 r.length = w := zA.2.2.2.1
          obtain ⟨h1, e1, x7, y1⟩ := m_call z wf
          rw [eW, e1, bnd_l]
          unfold F_M_single_115
          rw [if_neg (by omega), x7, if_pos (by omega)]
          exact ⟨h1, rfl, y1⟩
        · rw [if_neg c41, if_neg (show ¬ (c = 41 ∧ op = 0) from fun q => c41 q.1)]
          unfold F_M_single_92
          rw [if_neg (by decide)]
          by_cases c44 : c = 44
          · rw [if_pos c44, if_pos (show c = 44 ∧ op = 0 from ⟨c44, o0⟩)]
            obtain ⟨h1, e1, y1⟩ := m_next z w3 (by omega)
            rw [e1, bnd_l]
            unfold F_M_single_115
            rw [if_neg (by omega), if_neg (show ¬ c = 40 by omega), if_neg (show ¬ c = 41 by omega), ite_self]
            exact ⟨h1, rfl, y1⟩
          · rw [if_neg c44, if_neg (show ¬ (c = 44 ∧ op = 0) from fun q => c44 q.1), if_neg (show ¬ ((c = 10 ∨ c = 32) ∧ cu = []) from fun q => by
              rcases hb with hb | hb
              · rcases q.1 with q | q
                · exact hb.1 q
                · exact hb.2 q
              · exact hb q.2)]
            exact pt (fun q => absurd q c41)
      have g42 : (c = 10 ∨ c = 32) → RO B p (F_M_single_42 c (r.length : Int) 1 h) (if c = 41 ∧ op = 0 then call1 t o w (pv ++ [cu]) r ds wd tx else if c = 44 ∧ op = 0 then if 4 ≤ pv.length then ((t, o, (w, pv, cu, op) :: r, ds, wd, tx), 1) else ((t, o, (w, pv ++ [cu], [], op) :: r, ds, wd, tx), 0) else if (c = 10 ∨ c = 32) ∧ cu = [] then ((t, o, (w, pv, cu, op) :: r, ds, wd, tx), 0) else put1 [c] (t, o, (w, pv, cu, if c = 40 then op + 1 else if c = 41 then op - 1 else op) :: r, ds, wd, tx)) := by
        intro hb
        have eN : mGi h 118 r.length = ((pv.length + 1 : Nat) : Int) := zA.2.2.2.2.1
        have e8 := zA.2.1
        have eS := zA.2.2.2.2.2.2.2.1.get pv.length (by rw [List.length_append, List.length_singleton]; omega)
        unfold F_M_single_42
        rw [gd_rg (by omega) (by omega), gd_b (by omega) (by omega), Int.toNat_natCast, eN, gd_rg (by omega) (by omega), gd_rg (by omega) (by omega), gd_b (by omega) (by omega), show (6 * (r.length : Int) + ((pv.length + 1 : Nat) : Int) - 1).toNat = 6 * r.length + pv.length by omega, eS, e8]
        have ek : (flat ((w, pv, cu, op) :: r)).length = (flat r).length + ((pv ++ [cu]).take pv.length).flatten.length + cu.length := by
          rw [flat_c, List.length_append, List.take_append_of_le_length (Nat.le_refl _), List.take_length, List.flatten_append, List.length_append]
          simp
          omega
        by_cases e : cu = []
        · rw [if_pos (by rw [ek, e]; simp), if_neg (show ¬ (c = 41 ∧ op = 0) by omega), if_neg (show ¬ (c = 44 ∧ op = 0) by omega), if_pos (show (c = 10 ∨ c = 32) ∧ cu = [] from ⟨hb, e⟩)]
          exact ⟨h, rfl, .inl ⟨rfl, z⟩⟩
        · have : cu.length ≠ 0 := fun q => e (List.eq_nil_of_length_eq_zero q)
          rw [if_neg (by rw [ek]; omega)]
          exact g68 (.inr e)
      unfold F_M_single_25
      rw [if_neg (by decide)]
      by_cases c10 : c = 10
      · rw [if_pos c10]; exact g42 (.inl c10)
      · rw [if_neg c10]
        by_cases c32 : c = 32
        · rw [if_pos c32]; exact g42 (.inr c32)
        · rw [if_neg c32]
          exact g68 (.inl ⟨c10, c32⟩)
    · rw [if_neg (by omega), if_neg (show ¬ (c = 41 ∧ op = 0) from fun q => o0 q.2), if_neg (show ¬ (c = 44 ∧ op = 0) from fun q => o0 q.2), if_neg (show ¬ ((c = 10 ∨ c = 32) ∧ cu = []) from fun q => by rw [q.2] at b4; simp at b4; exact o0 b4)]
      unfold F_M_single_24 F_M_single_25 F_M_single_68 F_M_single_92
      rw [if_pos rfl, if_pos rfl, if_pos rfl]
      exact pt (fun _ => by omega)
theorem m_piece {s : S1} (z : RV B h s p) (wf : WF1 s) (hs : s.1 ≠ []) : RO B p (F_M_piece h) (piece1 s) := by
  obtain ⟨i, o, fs, ds, wd, tx⟩ := s
  cases i with
  | nil => exact absurd rfl hs
  | cons c t =>
    have zi : InpM h (c :: t) := z.2.2.2.1
    obtain ⟨e3, l3, s3⟩ := zi
    rw [List.length_cons] at e3 l3
    have wft : WF1 (t, o, fs, ds, wd, tx) := wf.drop (k := 1)
    have hc : lgl c := wf.un.2.2.2.2.2.2.2.1 c List.mem_cons_self
    unfold F_M_piece
    rw [e3, gd_rg (by omega) (by omega), gd_b (by omega) (by omega), show (((t.length + 1 : Nat) : Int) - 1).toNat = t.length by omega, s3.1]
    unfold F_M_piece_35
    by_cases c1 : c = 96
    · rw [if_pos c1, if_pos c1]
      subst c1
      exact RO.ret (m_quo z wf)
    · rw [if_neg c1, isLt_e, bnd_l]
      by_cases c2 : cL c = true
      · rw [if_neg (by rw [bI_0, c2]; decide), if_neg c1, isLt_e, bnd_l, if_neg (by rw [bI_0, c2]; decide)]
        have ep : piece1 (c :: t, o, fs, ds, wd, tx) = word1 (c :: t) o fs ds wd tx := by
          rw [piece1, if_neg c1, if_pos c2]
        rw [ep]
        exact RO.ret (m_word z wf c2)
      · have eb : bI (cL c) = 0 := by rw [bI_0]; exact Bool.eq_false_iff.mpr c2
        rw [if_pos eb, e3, gd_rg (by omega) (by omega)]
        simp only [sto_e]
        rw [if_neg c1, isLt_e, bnd_l, if_pos eb, show ((t.length + 1 : Nat) : Int) - 1 = (t.length : Int) by omega]
        have ep : piece1 (c :: t, o, fs, ds, wd, tx) = sing1 c t o ds wd tx fs := by
          rw [piece1, if_neg c1, if_neg c2]
        rw [ep]
        exact RO.ret (m_single (z.top (j := t) (by omega) s3.2) wft hc)
/-! the run -/
/-- the answer, the heap behind it -/
def FO (B : MH) (x : RS Int) (q : S1 × Nat × Nat) : Prop := ∃ h', x = some (.inl (if q.2.1 = 0 then (q.1.2.1.length : Int) else 0), h') ∧ mGi h' 107 0 = (if q.2.1 = 0 then mGi B 107 0 else 1) ∧ FL (fun b i => pR b i ∨ (b = 107 ∧ i = 0)) B h' ∧ mGi h' 107 1 = (q.2.1 : Int) ∧ mGi h' 107 4 = (q.2.2 : Int) ∧ mGi h' 107 5 = (q.1.2.1.length : Int) ∧ Seg h' 110 0 q.1.2.1 ∧ mGi h' 107 6 = (q.1.2.2.2.1.length : Int)
theorem RX.end {s : S1} {why : Nat} {v : Int} (z : RX B h s why p) (hw : why ≠ 0) (hv : v = 0 ∨ v = 1) : FO B (F_M_first_132 v h) (s, why, p) := by
  obtain ⟨h1, e1, f1⟩ := need_x (h := h) (v := 4) (x := v) z.2.1 (by omega)
  obtain ⟨z1, z2, z3, z4, z5, z6⟩ := z.fp f1 (fun _ _ q => q.elim)
  unfold F_M_first_132 F_M_refuse
  rw [gd_t (show p01 v from hv), e1, bnd_l, if_pos rfl, sto_e, bnd_l]
  refine ⟨mPi h1 107 0 1, ?_, ?_, ?_, ?_, ?_, ?_, ?_, ?_⟩
  · simp only
    rw [if_neg hw]
  · simp only
    rw [gi_s, if_neg hw]
  · exact FL.pi (z1.sub fun b i q => .inl q) (.inr ⟨rfl, rfl⟩)
  · rw [gi_pi, if_neg (by omega), z2]
  · rw [gi_pi, if_neg (by omega), z3]
  · rw [gi_pi, if_neg (by omega), z4]
  · exact z5.pio (.inl (by decide))
  · rw [gi_pi, if_neg (by omega), z6]
theorem RX.fin {s : S1} {why : Nat} (z : RX B h s why p) (hw : why ≠ 0) : FO B (F_M_first_119 h) (s, why, p) := by
  unfold F_M_first_119
  by_cases c : mGi h 107 7 = 0
  · rw [if_pos c]; exact z.end hw (.inr rfl)
  · rw [if_neg c]; exact z.end hw (.inl rfl)
theorem RV.fin {s : S1} (z : RV B h s p) : FO B (F_M_first_119 h) (s, if s.2.2.1 = [] then 0 else 4, p) := by
  have zz := z
  obtain ⟨z1, z2, z3, z4, ⟨z5, z5'⟩, z6, z7⟩ := z
  have e7 := z6.1
  unfold F_M_first_119 F_M_first_132 F_M_refuse
  by_cases c : s.2.2.1 = []
  · rw [c] at e7
    rw [if_pos (by rw [e7]; rfl), if_pos c, gd_01b, need_1 z2, bnd_l, if_neg (by decide)]
    refine ⟨h, ?_, ?_, z1.sub (fun b i q => .inl q), z2, z3, z5, z5', z7.1⟩
    · simp only
      rw [if_pos trivial, z5]
    · simp only
      rw [if_pos trivial, z1.2.2.1 107 0 (by unfold pR; omega)]
  · have hl : s.2.2.1.length ≠ 0 := fun q => c (List.eq_nil_of_length_eq_zero q)
    rw [if_neg (by rw [e7]; omega), if_neg c, gd_01a, need_0 z2 (by decide), bnd_l, if_pos rfl, sto_e, bnd_l]
    have zx := zz.rx (why := 4)
    obtain ⟨x1, x2, x3, x4, x5, x6⟩ := zx
    refine ⟨mPi (mPi h 107 1 4) 107 0 1, ?_, ?_, ?_, ?_, ?_, ?_, ?_, ?_⟩
    · rfl
    · rw [gi_s]; rfl
    · exact FL.pi (x1.sub fun b i q => .inl q) (.inr ⟨rfl, rfl⟩)
    · rw [gi_pi, if_neg (by omega)]; exact x2
    · rw [gi_pi, if_neg (by omega)]; exact x3
    · rw [gi_pi, if_neg (by omega)]; exact x4
    · exact Seg.pio x5 (.inl (by decide))
    · rw [gi_pi, if_neg (by omega)]; exact x6
theorem f72_l : ∀ (q f k : Nat) (s : S1) (h : MH), k + q = 600 → q + 1 < f → RV B h s k → WF1 s → FO B (itr (fun self (q : MH) => F_M_first_72_b (fun h => self (h)) q) f h) (run1 q s k) := by
  intro q
  induction q with
  | zero =>
    intro f k s h hk hf z wf
    obtain ⟨f, rfl⟩ : ∃ g, f = g + 1 := ⟨f - 1, by omega⟩
    have e3 := z.2.2.2.1.1
    have e4 := z.2.2.1
    rw [itr_s]
    try dsimp only
    rw [F_M_first_72_b, e3, e4, run1]
    by_cases c : s.1 = []
    · rw [if_pos (by rw [c]; simp), if_pos c]
      exact z.fin
    · have hl : s.1.length ≠ 0 := fun q => c (List.eq_nil_of_length_eq_zero q)
      rw [if_neg (by omega), if_neg c, if_pos (by omega)]
      unfold F_M_first_95
      rw [gd_01a, need_0 z.2.1 (by decide), bnd_l, if_pos rfl]
      exact (z.rx (why := 2)).fin (by decide)
  | succ q ih =>
    intro f k s h hk hf z wf
    obtain ⟨f, rfl⟩ : ∃ g, f = g + 1 := ⟨f - 1, by omega⟩
    have e3 := z.2.2.2.1.1
    have e4 := z.2.2.1
    rw [itr_s]
    try dsimp only
    rw [F_M_first_72_b, e3, e4, run1]
    by_cases c : s.1 = []
    · rw [if_pos (by rw [c]; simp), if_pos c]
      exact z.fin
    · have hl : s.1.length ≠ 0 := fun q => c (List.eq_nil_of_length_eq_zero q)
      rw [if_neg (by omega), if_neg c, if_neg (by omega)]
      unfold F_M_first_95
      rw [gd_01b, need_1 z.2.1, bnd_l, if_neg (by decide), e4, gd_rg (by omega) (by omega)]
      simp only [sto_e]
      have zk : RV B (mPi h 107 4 ((k : Int) + 1)) s (k + 1) := by
        obtain ⟨z1, z2, z3, z4, ⟨z5, z5'⟩, z6, z7⟩ := z
        have f1 : FP (fun b i => b = 107 ∧ i = 4) h (mPi h 107 4 ((k : Int) + 1)) := FP.pi FP.rf ⟨rfl, rfl⟩
        exact ⟨z1.tr (f1.fl.sub fun b i => by unfold pR; omega), (f1.2.2 107 1 (by omega)).trans z2, gi_s, z4.fp f1 (fun b j => by omega), ⟨(f1.2.2 107 5 (by omega)).trans z5, Seg.cg (fun k _ _ => f1.2.2 110 k (by omega)) z5'⟩, z6.fp f1 (fun b i => by unfold pA; omega), z7.fp f1 (fun b i => by unfold pD; omega)⟩
      have wp := wf_piece wf
      obtain ⟨h1, e1, y1⟩ := m_piece zk wf c
      rw [e1, bnd_l]
      rcases y1 with ⟨y1, y2⟩ | ⟨y1, y2⟩
      · rw [if_pos y1]
        exact ih f (k + 1) _ h1 (by omega) (by omega) y2 (wp.1 y1)
      · rw [if_neg y1]
        -- the next round of the loop says that it has failed
        obtain ⟨f, rfl⟩ : ∃ g, f = g + 1 := ⟨f - 1, by omega⟩
        rw [itr_s]
        try dsimp only
        rw [F_M_first_72_b]
        by_cases d1 : mGi h1 107 3 ≤ 0
        · rw [if_pos d1]; exact y2.fin y1
        · rw [if_neg d1]
          obtain ⟨h2, e2, f2⟩ := need_x (h := h1) (v := 2) (x := 0) y2.2.1 (by omega)
          obtain ⟨h3, e3, f3⟩ := need_x (h := h1) (v := 2) (x := 1) y2.2.1 (by omega)
          unfold F_M_first_95
          rw [gd_01a, gd_01b, e2, bnd_l, e3, bnd_l, if_pos rfl, if_pos rfl]
          by_cases d2 : 600 ≤ mGi h1 107 4
          · rw [if_pos d2]; exact (y2.fp f2 (fun _ _ q => q.elim)).fin y1
          · rw [if_neg d2]; exact (y2.fp f3 (fun _ _ q => q.elim)).fin y1
end Ref10
