/-! the reference's first mill: words, single characters, the run -/
section Ref9
variable {P Q : Nat → Nat → Prop} {B h h' h'' h0 : MH} {T p : Nat} {t : List Int} {w c : Int} {pv : List (List Int)} {cu i o : List Int} {op : Nat} {r fs : List Fm1} {ds : List Nat} {wd tx : Nat → List Int}
def accW (l : List Int) : Int64 := if l.length ≤ 8 then encW l else 0
theorem w4_l (z : InpM h i) (hl : ∀ x ∈ i, lgl x) : ∀ (q f k : Nat), k + q = i.length → q < f → (i.take k).all cP = true → itr (fun self (q : Int × Int64 × MH) => F_M_word_4_b (fun v1 v2 h => self (v1, v2, h)) q.1 q.2.1 q.2.2) f ((k : Int), accW (i.take k), h) = F_M_word_69 ((wln i : Nat) : Int) (accW (i.take (wln i))) h := by
  obtain ⟨z1, z2, z3⟩ := z
  intro q
  have tw : ∀ k, k ≤ i.length → (i.take k).all cP = true → (k = i.length ∨ ¬ cP (i.getD k 0) = true) → wln i = k := by
    intro k hk ha hx
    unfold wln
    conv => lhs; rw [← List.take_append_drop k i]
    rw [List.takeWhile_append_of_pos (List.all_eq_true.mp ha), List.length_append, List.length_take, Nat.min_eq_left hk]
    have : (i.drop k).takeWhile cP = [] := by
      rcases hx with hx | hx
      · rw [List.drop_of_length_le (by omega)]; rfl
      · by_cases d : k < i.length
        · have ed : i.drop k = i.getD k 0 :: i.drop (k + 1) := by
            rw [List.drop_eq_getElem_cons d, List.getD_eq_getElem?_getD, List.getElem?_eq_getElem d]
            rfl
          rw [ed, List.takeWhile_cons, if_neg hx]
        · rw [List.drop_of_length_le (by omega)]; rfl
    rw [this]
    simp
  induction q with
  | zero =>
    intro f k hk hf ha
    obtain ⟨f, rfl⟩ : ∃ g, f = g + 1 := ⟨f - 1, by omega⟩
    have e := tw k (by omega) ha (.inl (by omega))
    rw [e, itr_s]
    dsimp only
    rw [F_M_word_4_b, z1, if_pos (by omega)]
  | succ q ih =>
    intro f k hk hf ha
    obtain ⟨f, rfl⟩ : ∃ g, f = g + 1 := ⟨f - 1, by omega⟩
    have hx := z3.get (k := k) (by omega)
    have hlx : lgl (i.getD k 0) := by
      rw [List.getD_eq_getElem?_getD, List.getElem?_eq_getElem (by omega)]
      exact hl _ (List.getElem_mem _)
    have et : i.take (k + 1) = i.take k ++ [i.getD k 0] := by
      rw [List.take_add_one, List.getD_eq_getElem?_getD, List.getElem?_eq_getElem (by omega)]
      rfl
    have hlen : (i.take k).length = k := by rw [List.length_take]; omega
    have hlen2 : (i.take (k + 1)).length = k + 1 := by rw [List.length_take]; omega
    rw [itr_s]
    dsimp only
    rw [F_M_word_4_b, z1, if_neg (by omega), gd_rg (by omega) (by omega), gd_rg (by omega) (by omega), gd_b (by omega) (by omega), isPt_e, bnd_l, show ((i.length : Int) - 1 - (k : Int)).toNat = i.length - 1 - k by omega, hx]
    by_cases c1 : cP (i.getD k 0) = true
    · rw [if_neg (by rw [bI_0, c1]; decide)]
      have g := ih f (k + 1) (by omega) (by omega) (by rw [et, List.all_append, ha, List.all_cons, c1]; rfl)
      unfold F_M_word_62
      by_cases c8 : 8 ≤ k
      · have ea : accW (i.take (k + 1)) = 0 := by unfold accW; rw [hlen2, if_neg (by omega)]
        rw [ea] at g
        rw [if_pos (by omega), gd_rg (by omega) (by omega), show (k : Int) + 1 = ((k + 1 : Nat) : Int) by omega]
        exact g
      · have ea : accW (i.take (k + 1)) = accW (i.take k) ||| (c64 (i.getD k 0) <<< ((Int32.ofInt (8 * (k : Int))).toInt64 &&& 63)) := by
          have s := enc_s (i.take k) (i.getD k 0) (by omega)
          rw [hlen] at s
          unfold accW
          rw [hlen2, hlen, if_pos (by omega), if_pos (by omega), et, s]
        rw [ea] at g
        rw [if_neg (by omega), z1, gd_rg (by omega) (by omega), gd_rg (by omega) (by omega), gd_b (by omega) (by omega), gd_rg (by omega) (by omega), show ((i.length : Int) - 1 - (k : Int)).toNat = i.length - 1 - k by omega, hx, gd_rg (by omega) (by omega), show (k : Int) + 1 = ((k + 1 : Nat) : Int) by omega]
        exact g
    · rw [if_pos (by rw [bI_0]; exact Bool.eq_false_iff.mpr c1)]
      have e := tw k (by omega) ha (.inr c1)
      rw [e]
def bltI (w : List Int) : Int :=
  if w = strL 1 then 0 else if w = strL 2 then 1 else if w = strL 3 then 2 else if w = strL 4 then 3 else if w = strL 5 then 4
  else if w = strL 6 then 5 else if w = strL 7 then 6 else if w = strL 8 then 7 else if w = strL 0 then 8 else -1
theorem strOk : wordOk (strL 0) = true ∧ wordOk (strL 1) = true ∧ wordOk (strL 2) = true ∧ wordOk (strL 3) = true ∧ wordOk (strL 4) = true ∧ wordOk (strL 5) = true ∧ wordOk (strL 6) = true ∧ wordOk (strL 7) = true ∧ wordOk (strL 8) = true := by decide +kernel
theorem blt_c {a b : List Int} {v : Int64} (ob : wordOk b = true) (e : encW b = v) : lgI (w64 a) v = 0 ↔ a = b := by
  rw [lg_eq, ← e]
  by_cases c0 : w64 a = 0
  · refine ⟨fun q => absurd (q.symm.trans c0) (ok_ne ob), fun q => ?_⟩
    rw [q] at c0
    unfold w64 at c0
    rw [if_pos ob] at c0
    exact absurd c0 (ok_ne ob)
  · exact ⟨fun q => ((w64_eq ob c0).mp q.symm).symm, fun q => ((w64_eq ob c0).mpr q.symm).symm⟩
theorem m_blt {a : List Int} : F_M_builtIn (w64 a) h = some (.inl (bltI a), h) := by
  obtain ⟨o0, o1, o2, o3, o4, o5, o6, o7, o8⟩ := strOk
  obtain ⟨e0, e1, e2, e3, e4, e5, e6, e7, e8⟩ := enc_str
  unfold F_M_builtIn bltI
  simp only [blt_c o1 e1, blt_c o2 e2, blt_c o3 e3, blt_c o4 e4, blt_c o5 e5, blt_c o6 e6, blt_c o7 e7, blt_c o8 e8, blt_c o0 e0]
  (repeat' split) <;> rfl
theorem blt_n {a : List Int} : blt a = none → bltI a = 8 ∧ a = strL 0 ∨ bltI a = -1 ∧ a ≠ strL 0 := by
  intro e
  unfold blt at e
  unfold bltI
  by_cases d1 : a = strL 1
  · rw [if_pos d1] at e; cases e
  rw [if_neg d1] at e ⊢
  by_cases d2 : a = strL 2
  · rw [if_pos d2] at e; cases e
  rw [if_neg d2] at e ⊢
  by_cases d3 : a = strL 3
  · rw [if_pos d3] at e; cases e
  rw [if_neg d3] at e ⊢
  by_cases d4 : a = strL 4
  · rw [if_pos d4] at e; cases e
  rw [if_neg d4] at e ⊢
  by_cases d5 : a = strL 5
  · rw [if_pos d5] at e; cases e
  rw [if_neg d5] at e ⊢
  by_cases d6 : a = strL 6
  · rw [if_pos d6] at e; cases e
  rw [if_neg d6] at e ⊢
  by_cases d7 : a = strL 7
  · rw [if_pos d7] at e; cases e
  rw [if_neg d7] at e ⊢
  by_cases d8 : a = strL 8
  · rw [if_pos d8] at e; cases e
  rw [if_neg d8] at e ⊢
  by_cases d0 : a = strL 0
  · rw [if_pos d0]; exact .inl ⟨rfl, d0⟩
  · rw [if_neg d0]; exact .inr ⟨rfl, d0⟩
theorem strN : strL 0 ≠ strL 1 ∧ strL 0 ≠ strL 2 ∧ strL 0 ≠ strL 3 ∧ strL 0 ≠ strL 4 ∧ strL 0 ≠ strL 5 ∧ strL 0 ≠ strL 6 ∧ strL 0 ≠ strL 7 ∧ strL 0 ≠ strL 8 := by decide +kernel
theorem blt_s {a : List Int} {x : Int} (e : blt a = some x) : bltI a = -2 - x ∧ a ≠ strL 0 := by
  obtain ⟨n1, n2, n3, n4, n5, n6, n7, n8⟩ := strN
  unfold blt at e
  unfold bltI
  by_cases d1 : a = strL 1
  · rw [if_pos d1] at e ⊢; cases e; exact ⟨rfl, fun q => n1 (q.symm.trans d1)⟩
  rw [if_neg d1] at e ⊢
  by_cases d2 : a = strL 2
  · rw [if_pos d2] at e ⊢; cases e; exact ⟨rfl, fun q => n2 (q.symm.trans d2)⟩
  rw [if_neg d2] at e ⊢
  by_cases d3 : a = strL 3
  · rw [if_pos d3] at e ⊢; cases e; exact ⟨rfl, fun q => n3 (q.symm.trans d3)⟩
  rw [if_neg d3] at e ⊢
  by_cases d4 : a = strL 4
  · rw [if_pos d4] at e ⊢; cases e; exact ⟨rfl, fun q => n4 (q.symm.trans d4)⟩
  rw [if_neg d4] at e ⊢
  by_cases d5 : a = strL 5
  · rw [if_pos d5] at e ⊢; cases e; exact ⟨rfl, fun q => n5 (q.symm.trans d5)⟩
  rw [if_neg d5] at e ⊢
  by_cases d6 : a = strL 6
  · rw [if_pos d6] at e ⊢; cases e; exact ⟨rfl, fun q => n6 (q.symm.trans d6)⟩
  rw [if_neg d6] at e ⊢
  by_cases d7 : a = strL 7
  · rw [if_pos d7] at e ⊢; cases e; exact ⟨rfl, fun q => n7 (q.symm.trans d7)⟩
  rw [if_neg d7] at e ⊢
  by_cases d8 : a = strL 8
  · rw [if_pos d8] at e ⊢; cases e; exact ⟨rfl, fun q => n8 (q.symm.trans d8)⟩
  rw [if_neg d8] at e
  cases e
theorem dropLn_P : ∀ (i : List Int) (n : Nat), (i.take n).all cP = true → dropLn (i.drop n) = dropLn i
  | _, 0, _ => rfl
  | [], n + 1, _ => by rw [List.drop_nil]
  | x :: t, n + 1, ha => by
    rw [List.take_succ_cons, List.all_cons, Bool.and_eq_true] at ha
    have hx := ha.1
    unfold cP at hx
    rw [decide_eq_true_eq] at hx
    rw [List.drop_succ_cons, dropLn_P t n ha.2]
    show _ = if x = 10 then t else dropLn t
    rw [if_neg (by omega)]
theorem wp_l {v4 v5 v6 : Int} {n : Nat} (ho : o.length ≤ 400) (z : InpM h0 i) (hl : ∀ x ∈ i, lgl x) (hn : n ≤ i.length) : ∀ (q f j : Nat) (h : MH), j + q = n → q < f → Puts B h0 h (i, o, fs, ds, wd, tx) p (i.take j) →
    ∃ h', itr (fun self (q : Int × Int × Int × Int × Int × Int × MH) => F_M_word_183_b (fun v1 v4 v5 v6 v7 v8 h => self (v1, v4, v5, v6, v7, v8, h)) q.1 q.2.1 q.2.2.1 q.2.2.2.1 q.2.2.2.2.1 q.2.2.2.2.2.1 q.2.2.2.2.2.2) f ((n : Int), v4, v5, v6, 0, (j : Int), h) = F_M_word_218 (n : Int) v4 v5 v6 0 h' ∧ Puts B h0 h' (i, o, fs, ds, wd, tx) p (i.take n) := by
  intro q
  induction q with
  | zero =>
    intro f j h hj hf y
    obtain ⟨f, rfl⟩ : ∃ g, f = g + 1 := ⟨f - 1, by omega⟩
    refine ⟨h, ?_, by rw [show n = j by omega]; exact y⟩
    rw [itr_s]
    dsimp only
    rw [F_M_word_183_b, if_pos (by omega)]
  | succ q ih =>
    intro f j h hj hf y
    obtain ⟨f, rfl⟩ : ∃ g, f = g + 1 := ⟨f - 1, by omega⟩
    have hi := z.2.1
    have hx : lgl (i.getD j 0) := by
      rw [List.getD_eq_getElem?_getD, List.getElem?_eq_getElem (by omega)]
      exact hl _ (List.getElem_mem _)
    unfold lgl at hx
    have e3 : mGi h 107 3 = (i.length : Int) := (y.1.2.2 107 3 (by unfold pP; omega)).trans z.1
    have hc : mGi h 109 (i.length - 1 - j) = i.getD j 0 := (y.1.2.2 109 _ (by unfold pP; omega)).trans (z.2.2.get (by omega))
    obtain ⟨h1, e1, y1⟩ := y.step (x := i.getD j 0) ho (by omega) (by omega)
    have et : i.take j ++ [i.getD j 0] = i.take (j + 1) := by
      rw [List.take_add_one, List.getD_eq_getElem?_getD, List.getElem?_eq_getElem (by omega)]
      rfl
    rw [et] at y1
    obtain ⟨h2, e2, y2⟩ := ih f (j + 1) h1 (by omega) (by omega) y1
    refine ⟨h2, ?_, y2⟩
    rw [itr_s]
    dsimp only
    rw [F_M_word_183_b, if_neg (by omega), if_pos rfl, e3, gd_rg (by omega) (by omega), gd_rg (by omega) (by omega), gd_b (by omega) (by omega), show ((i.length : Int) - 1 - (j : Int)).toNat = i.length - 1 - j by omega, hc, e1, bnd_l, gd_rg (by omega) (by omega), show (j : Int) + 1 = ((j + 1 : Nat) : Int) by omega]
    exact e2
theorem m_word (z : RV B h (c :: t, o, fs, ds, wd, tx) p) (wf : WF1 (c :: t, o, fs, ds, wd, tx)) (hc : cL c = true) : RO B p (F_M_word h) (word1 (c :: t) o fs ds wd tx) := by
  obtain ⟨w1, w2, w3, w4, w5, w6, w7, w8, w9, w10⟩ := wf.un
  have zi : InpM h (c :: t) := z.2.2.2.1
  have zd : DefM h ds wd tx fs := z.2.2.2.2.2.2
  have hw1 : 1 ≤ wln (c :: t) := by
    unfold wln
    rw [List.takeWhile_cons, if_pos (cL_P hc), List.length_cons]
    omega
  have hn := wln_le (c :: t)
  generalize hi : (c :: t : List Int) = i at *
  have hlen : (i.take (wln i)).length = wln i := by rw [List.length_take]; omega
  have hall : (i.take (wln i)).all cP = true := by
    have : i.take (wln i) = i.takeWhile cP := by
      unfold wln
      exact (List.prefix_iff_eq_take.mp (List.takeWhile_prefix cP)).symm
    rw [this]
    exact List.all_takeWhile
  have h64 : w64 (i.take (wln i)) = accW (i.take (wln i)) := by
    unfold w64 accW wordOk
    rw [hlen, hall]
    have hd : (i.take (wln i)).getD 0 0 = c := by
      rw [← hi]
      obtain ⟨n, hn⟩ : ∃ n, wln (c :: t) = n + 1 := ⟨wln (c :: t) - 1, by rw [hi]; omega⟩
      rw [hn]
      rfl
    rw [hd, hc]
    by_cases c8 : wln i ≤ 8
    · rw [if_pos (by simp; omega), if_pos c8]
    · rw [if_neg (by simp; omega), if_neg c8]
  have hW : F_M_word h = F_M_word_69 ((wln i : Nat) : Int) (accW (i.take (wln i))) h := by
    have q := w4_l zi w8 i.length FU 0 (by omega) (by unfold FU; omega) rfl
    exact q
  -- the rest of the input
  have e3 := zi.1
  have l3 := zi.2.1
  have top : ∀ k, k ≤ i.length → RV B (mPi h 107 3 ((i.length : Int) - (k : Int))) (i.drop k, o, fs, ds, wd, tx) p := fun k hk => by
    have q := z.top (j := i.drop k) (by rw [List.length_drop]; omega) (zi.2.2.drop k)
    rw [List.length_drop, show ((i.length - k : Nat) : Int) = (i.length : Int) - (k : Int) by omega] at q
    exact q
  have g81 : F_M_word_69 ((wln i : Nat) : Int) (accW (i.take (wln i))) h = F_M_word_109 ((wln i : Nat) : Int) (latI (lat wd (i.take (wln i)) ds)) (if (lat wd (i.take (wln i)) ds).isSome = true then -1 else bltI (i.take (wln i))) h := by
    have gl := m_latest (a := i.take (wln i)) zd w5 w7
    have gb := m_blt (h := h) (a := i.take (wln i))
    unfold F_M_word_69 F_M_word_81 F_M_word_102
    by_cases c8 : wln i ≤ 8
    · rw [if_pos (by omega), ← h64, gl, bnd_l]
      cases e : lat wd (i.take (wln i)) ds with
      | some k => rw [if_pos (by show (0 : Int) ≤ (k : Int); omega)]; rfl
      | none => rw [if_neg (by show ¬ (0 : Int) ≤ -1; decide), if_pos (by omega), gb, bnd_l]; rfl
    · have ea : accW (i.take (wln i)) = 0 := by unfold accW; rw [hlen, if_neg c8]
      rw [h64, ea] at gl gb
      rw [if_neg (by omega), gl, bnd_l]
      cases e : lat wd (i.take (wln i)) ds with
      | some k => rw [if_pos (by show (0 : Int) ≤ (k : Int); omega)]; rfl
      | none => rw [if_neg (by show ¬ (0 : Int) ≤ -1; decide), if_neg (by omega), gb, bnd_l]; rfl
  have g109 : ∀ (v4 s0 : Int), F_M_word_109 ((wln i : Nat) : Int) v4 s0 h = F_M_word_149 ((wln i : Nat) : Int) v4 s0 (if brk i = true ∧ s0 ≠ 8 then 1 else 0) h := by
    intro v4 s0
    unfold F_M_word_109 F_M_word_148
    rw [e3]
    by_cases cl : i.length ≤ wln i
    · have hb : ¬ brk i = true := by
        unfold brk
        rw [List.getD_eq_getElem?_getD, List.getElem?_eq_none cl]
        decide
      rw [if_pos (by omega), if_neg (fun q => hb q.1)]
    · have hx := zi.2.2.get (k := wln i) (by omega)
      have hb : (brk i = true) ↔ i.getD (wln i) 0 = 40 := by unfold brk; rw [decide_eq_true_eq]
      rw [if_neg (by omega), gd_rg (by omega) (by omega), gd_rg (by omega) (by omega), gd_b (by omega) (by omega), show ((i.length : Int) - 1 - ((wln i : Nat) : Int)).toNat = i.length - 1 - wln i by omega, hx]
      by_cases c40 : i.getD (wln i) 0 = 40
      · rw [if_pos c40]
        by_cases c8 : s0 = 8
        · rw [if_pos c8, if_neg (fun q => q.2 c8)]
        · rw [if_neg c8, if_pos ⟨hb.mpr c40, c8⟩]
      · rw [if_neg c40, if_neg (fun q => c40 (hb.mp q.1))]
  -- a macro: nothing is put
  have g178 : ∀ (v4 v5 v6 : Int), F_M_word_178 ((wln i : Nat) : Int) v4 v5 v6 1 h = F_M_word_218 ((wln i : Nat) : Int) v4 v5 v6 1 h := by
    intro v4 v5 v6
    unfold F_M_word_178 F_M_word_183
    rw [show FU = 99999999 + 1 from rfl, itr_s]
    dsimp only
    rw [F_M_word_183_b, if_neg (show ¬ (1 : Int) = 0 by decide), ite_self]
  have mBr : ∀ (v4 v5 x : Int), (x = if v4 < 0 then -2 - v5 else v4) → -100 ≤ v5 → v5 ≤ 100 → wln i < i.length → (0 ≤ x → x.toNat ∈ ds) → RO B p (F_M_word_218 ((wln i : Nat) : Int) v4 v5 1 1 h) (col1 (i.drop (wln i + 1)) o fs ds wd tx x) := by
    intro v4 v5 x hx b1 b2 hlt hm
    have q := m_col (w := x) (top (wln i + 1) (by omega)) w4 hm
    unfold F_M_word_218 F_M_word_240 F_M_word_259
    rw [if_neg (by decide), if_neg (by decide), gd_rg (by omega) (by omega), e3, gd_rg (by omega) (by omega)]
    simp only [sto_e]
    rw [show (i.length : Int) - (((wln i : Nat) : Int) + 1) = (i.length : Int) - ((wln i + 1 : Nat) : Int) by omega]
    by_cases c4 : v4 < 0
    · rw [if_pos c4] at hx ⊢
      rw [gd_rg (by omega) (by omega), ← hx, if_neg (by decide), if_neg (by decide)]
      exact q.ret
    · rw [if_neg c4] at hx ⊢
      rw [← hx, if_neg (by decide), if_neg (by decide)]
      exact q.ret
  have mCl : ∀ (v4 v5 x : Int) (q : S1 × Nat), (x = if v4 < 0 then -2 - v5 else v4) → -100 ≤ v5 → v5 ≤ 100 → RO B p (F_M_call x (-1) (mPi h 107 3 ((i.length : Int) - ((wln i : Nat) : Int)))) q → RO B p (F_M_word_218 ((wln i : Nat) : Int) v4 v5 0 1 h) q := by
    intro v4 v5 x q hx b1 b2 hq
    unfold F_M_word_218 F_M_word_239 F_M_word_240 F_M_word_259 F_M_word_280
    rw [if_neg (by decide), if_pos rfl, e3, gd_rg (by omega) (by omega)]
    simp only [sto_e]
    by_cases c4 : v4 < 0
    · rw [if_pos c4] at hx ⊢
      rw [gd_rg (by omega) (by omega), ← hx, if_neg (by decide), if_pos trivial, if_neg (by decide)]
      exact hq.ret
    · rw [if_neg c4] at hx ⊢
      rw [← hx, if_neg (by decide), if_pos trivial, if_neg (by decide)]
      exact hq.ret
  rw [hW, g81, g109]
  unfold word1 F_M_word_149 F_M_word_173 F_M_word_177
  cases e : lat wd (i.take (wln i)) ds with
  | some k =>
    have hk := lat_mem e
    simp only [Option.isSome_some, if_true]
    rw [if_pos (by show (0 : Int) ≤ (k : Int); omega), g178]
    have hx : ((k : Int)) = if latI (some k) < 0 then -2 - (-1) else latI (some k) := by rw [if_neg (by show ¬ (k : Int) < 0; omega)]; rfl
    by_cases b : brk i = true
    · have hlt : wln i < i.length := by
        by_cases d : wln i < i.length
        · exact d
        · unfold brk at b
          rw [List.getD_eq_getElem?_getD, List.getElem?_eq_none (by omega)] at b
          exact absurd b (by decide)
      rw [if_pos ⟨b, by decide⟩, if_pos b]
      exact mBr _ _ _ hx (by decide) (by decide) hlt (fun _ => by rw [Int.toNat_natCast]; exact hk)
    · rw [if_neg (fun q => b q.1), if_neg b]
      exact mCl _ _ _ _ hx (by decide) (by decide) (m_callN (top (wln i) hn) w7 hk)
  | none =>
    simp only [Option.isSome_none, Bool.false_eq_true, if_false]
    rw [if_neg (show ¬ (0 : Int) ≤ latI none by decide)]
    cases eb : blt (i.take (wln i)) with
    | none =>
      rcases blt_n eb with ⟨b1, b2⟩ | ⟨b1, b2⟩
      · rw [b1, if_pos rfl, if_pos b2, if_neg (fun q => q.2 rfl), g178]
        have q := m_dnl (top (wln i) hn)
        rw [dropLn_P i (wln i) hall] at q
        exact mCl _ _ (-10) _ rfl (by decide) (by decide) q
      · rw [b1, if_neg (by decide), if_neg b2, if_pos (by decide)]
        have e0 : (if brk i = true then (none : Option Int) else none) = none := by rw [ite_self]
        rw [e0]
        obtain ⟨h2, e2, y2⟩ := wp_l (h0 := h) (v4 := latI none) (v5 := -1) (v6 := if brk i = true ∧ (-1 : Int) ≠ 8 then 1 else 0) (n := wln i) w2 zi w8 hn (wln i) FU 0 h (by omega) (by unfold FU; omega) (Puts.nil z w2 w3)
        have e2' : F_M_word_178 ((wln i : Nat) : Int) (latI none) (-1) (if brk i = true ∧ (-1 : Int) ≠ 8 then 1 else 0) 0 h = F_M_word_218 ((wln i : Nat) : Int) (latI none) (-1) (if brk i = true ∧ (-1 : Int) ≠ 8 then 1 else 0) 0 h2 := e2
        rw [e2']
        have e32 : mGi h2 107 3 = (i.length : Int) := (y2.1.2.2 107 3 (by unfold pP; omega)).trans e3
        unfold F_M_word_218 F_M_word_239 F_M_word_240 F_M_word_259 F_M_word_280
        rw [if_pos rfl, e32, gd_rg (by omega) (by omega)]
        simp only [sto_e]
        rw [if_pos (show latI none < 0 by decide), gd_rg (by decide) (by decide), if_pos trivial, if_pos trivial]
        have q := y2.top (j := i.drop (wln i)) (by rw [List.length_drop]; omega) (zi.2.2.drop _)
        rw [List.length_drop, show ((i.length - wln i : Nat) : Int) = (i.length : Int) - ((wln i : Nat) : Int) by omega] at q
        exact q
    | some x =>
      obtain ⟨b1, b2⟩ := blt_s eb
      have hx := blt_r eb
      rw [b1, if_neg (by omega), if_neg b2, if_neg (by omega)]
      by_cases b : brk i = true
      · have hlt : wln i < i.length := by
          by_cases d : wln i < i.length
          · exact d
          · unfold brk at b
            rw [List.getD_eq_getElem?_getD, List.getElem?_eq_none (by omega)] at b
            exact absurd b (by decide)
        rw [if_pos (show brk i = true ∧ -2 - x ≠ 8 from ⟨b, by omega⟩), if_neg (by decide), g178, if_pos b]
        exact mBr _ _ x (by rw [if_pos (show latI none < 0 by decide)]; omega) (by omega) (by omega) hlt (by omega)
      · rw [if_neg (show ¬ (brk i = true ∧ -2 - x ≠ 8) from fun q => b q.1), if_pos rfl, if_neg b]
        obtain ⟨h2, e2, y2⟩ := wp_l (h0 := h) (v4 := latI none) (v5 := -2 - x) (v6 := 0) (n := wln i) w2 zi w8 hn (wln i) FU 0 h (by omega) (by unfold FU; omega) (Puts.nil z w2 w3)
        have e2' : F_M_word_178 ((wln i : Nat) : Int) (latI none) (-2 - x) 0 0 h = F_M_word_218 ((wln i : Nat) : Int) (latI none) (-2 - x) 0 0 h2 := e2
        rw [e2']
        have e32 : mGi h2 107 3 = (i.length : Int) := (y2.1.2.2 107 3 (by unfold pP; omega)).trans e3
        unfold F_M_word_218 F_M_word_239 F_M_word_240 F_M_word_259 F_M_word_280
        rw [if_pos rfl, e32, gd_rg (by omega) (by omega)]
        simp only [sto_e]
        rw [if_pos (show latI none < 0 by decide), gd_rg (by omega) (by omega), if_pos trivial, if_pos trivial]
        have q := y2.top (j := i.drop (wln i)) (by rw [List.length_drop]; omega) (zi.2.2.drop _)
        rw [List.length_drop, show ((i.length - wln i : Nat) : Int) = (i.length : Int) - ((wln i : Nat) : Int) by omega] at q
        exact q
end Ref9
