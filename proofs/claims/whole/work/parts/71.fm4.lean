/-! the class's first mill: collect, single characters, words -/
section Fm4
variable {B h h0 h' : MH} {m : Nat → Nat} {ds : List Nat} {wd tx : Nat → List Int} {fs r : List Fm1} {w : Int} {pv : List (List Int)} {cu i o t : List Int} {op p : Nat} {c : Int}
theorem cf_col (z1 : Fr CS B h) (z2 : Rm B) (z3 : mGi h 3 5 = (p : Int)) (z4 : Let h 4 400 o) (z5 : Inp h i) (z6 : ArgC h fs) (z7 : DefC h m ds wd tx fs) (ho : o.length ≤ 400) (hF : (flat fs).length ≤ 200) (hfs : fs.length ≤ 6) (hl : 0 ≤ w → w.toNat ∈ ds) (hw : -9 ≤ w) (hw1 : w ≠ -1) : CO B p (F_Fm_collect (mcd m w) h) (col1 i o fs ds wd tx w) := by
  have z : CV B h (i, o, fs, ds, wd, tx) p := ⟨z1, z2, z3, z4, z5, z6, m, z7⟩
  unfold F_Fm_collect col1
  by_cases c : 6 ≤ fs.length
  · rw [if_pos c, ar_beg0 z6 c hfs, bnd_l, if_pos rfl]
    exact CO.bad (why := 1) z ho (by decide) (z.bf (why := 1) _)
  · obtain ⟨h1, e1, f1, y1, y2, y3⟩ := ar_beg (w := mcd m w) z6 hF (by omega)
    rw [if_neg c, e1, bnd_l, if_neg (by decide)]
    unfold F_Fm_collect_16
    by_cases c0 : 0 ≤ w
    · have em : mcd m w = (m w.toNat : Int) := by unfold mcd; rw [if_pos c0]
      have q1 := (z7.2.2.2.2.2.1 _ (.inl (hl c0))).1
      have ea : mGi h1 9 (m w.toNat) = awN m (m w.toNat) fs := (f1.2.2 9 (by decide) _).trans (z7.2.2.2.2.1 _ q1)
      have ec := awN_nn (m := m) fs (m w.toNat)
      have ed := awN_le (m := m) fs (m w.toNat)
      have y2' := y2
      rw [em] at y2
      rw [em, if_neg (by omega), gd_b (by omega) (by omega), Int.toNat_natCast, ea, gd_rg (by omega) (by omega)]
      simp only [sto_e]
      have f3 : Fr [9] h1 (mPi h1 9 (m w.toNat) (awN m (m w.toNat) fs + 1)) := Fr.pi Fr.rf (by simp)
      refine .inl ⟨rfl, _, rfl, (z1.tr (f1.sub (by decide))).tr (f3.sub (by decide)), z2, (f3.2.2 3 (by decide) 5).trans ((f1.2.2 3 (by decide) 5).trans z3), (z4.fr f1 (by decide) (by decide)).fr f3 (by decide) (by decide), (z5.fr f1 (by decide) (by decide)).fr f3 (by decide) (by decide), (y1 w).fr f3 (by decide), m, ?_⟩
      refine z7.push hl ((f1.sub (by decide)).tr (f3.sub (by decide))) ((f3.2.2 81 (by decide) _).trans y2') (fun j hj => (f3.2.2 81 (by decide) _).trans (y3 j hj)) (fun s hs => ?_)
      rw [gi_pi]
      by_cases d : s = m w.toNat
      · rw [if_pos ⟨rfl, d⟩, if_pos ⟨c0, d.symm⟩, d, z7.2.2.2.2.1 _ q1]
      · rw [if_neg (by omega), if_neg (by omega), f1.2.2 9 (by decide), Int.add_zero]
    · have em : mcd m w = 98 - w := by unfold mcd; rw [if_neg c0]
      have y2' := y2
      rw [em, if_pos (by omega)]
      refine .inl ⟨rfl, _, rfl, z1.tr (f1.sub (by decide)), z2, (f1.2.2 3 (by decide) 5).trans z3, z4.fr f1 (by decide) (by decide), z5.fr f1 (by decide) (by decide), y1 w, m, ?_⟩
      refine z7.push hl (f1.sub (by decide)) y2' y3 (fun s hs => ?_)
      rw [if_neg (by omega), f1.2.2 9 (by decide), Int.add_zero]
theorem cf_char (z : CV B h (c :: t, o, fs, ds, wd, tx) p) (wf : WF1 (c :: t, o, fs, ds, wd, tx)) : CO B p (F_Fm_takeCharacter c h) (sing1 c t o ds wd tx fs) := by
  have wf' := wf
  obtain ⟨hi, ho, hF, hfs, hd, hok, hlv, hc1, hc2, hc3⟩ := wf'
  change o.length ≤ 400 at ho
  change (flat fs).length ≤ 200 at hF
  change fs.length ≤ 6 at hfs
  obtain ⟨z1, z2, z3, z4, z5, z6, m, z7⟩ := id z
  change Let h 4 400 o at z4
  change Inp h (c :: t) at z5
  change ArgC h fs at z6
  change DefC h m ds wd tx fs at z7
  unfold F_Fm_takeCharacter
  cases fs with
  | nil =>
    have e : mGi h 77 5 = -1 := z6.1
    have q := cf_putF (n := 1) z ho hF (by rw [List.length_cons]; omega)
    rw [e, if_pos (by decide)]
    unfold F_Fm_takeCharacter_28 F_Fm_takeCharacter_29
    rw [if_neg (by decide)]
    exact CO.ret q
  | cons x r =>
    obtain ⟨w, pv, cu, op⟩ := x
    obtain ⟨hw1, hw2, hp4, hop, hok'⟩ := FOk.hd hok
    rw [List.length_cons] at hfs
    have eL : mGi h 77 5 = (r.length : Int) := by have := z6.1; rw [List.length_cons] at this; omega
    have eO : mGi h 82 r.length = (op : Int) := z6.2.2.1
    -- it is put
    have put : ∀ n : Nat, ∀ x : Int, x = (n : Int) - (op : Int) → n ≤ 1000 → CO B p (F_Fm_takeCharacter_167 (r.length : Int) (op : Int) x h) (put1 [c] (t, o, (w, pv, cu, n) :: r, ds, wd, tx)) := by
      intro n x hx hn
      have fO : Fr [82] h (mPi h 82 r.length (n : Int)) := Fr.pi Fr.rf (by simp)
      have zc : CV B (mPi h 82 r.length (n : Int)) (c :: t, o, (w, pv, cu, n) :: r, ds, wd, tx) p := ⟨z1.tr (fO.sub (by decide)), z2, (fO.2.2 3 (by decide) 5).trans z3, z4.fr fO (by decide) (by decide), z5.fr fO (by decide) (by decide), z6.opn, m, by
        have y := z7.fr fO (by unfold noD; decide)
        exact y⟩
      have q := cf_putF (n := 1) zc ho hF (by rw [List.length_cons]; omega)
      unfold F_Fm_takeCharacter_167
      rw [hx, show (op : Int) + ((n : Int) - (op : Int)) = (n : Int) by omega, gd_rg (by omega) (by omega), gd_b (by omega) (by omega), Int.toNat_natCast, sto_e]
      exact CO.ret q
    have hcu : cu.length ≤ 200 := by rw [flat_c, List.length_append, List.flatten_append, List.length_append] at hF; simp at hF; omega
    have pt : (c = 41 → 0 < op) → CO B p (F_Fm_takeCharacter_136 c (r.length : Int) h) (put1 [c] (t, o, (w, pv, cu, if c = 40 then op + 1 else if c = 41 then op - 1 else op) :: r, ds, wd, tx)) := by
      intro h41
      unfold F_Fm_takeCharacter_136
      rw [gd_b (by omega) (by omega), Int.toNat_natCast, eO]
      by_cases c1 : c = 40
      · rw [if_pos c1, if_pos c1]
        exact put (op + 1) 1 (by omega) (by omega)
      · rw [if_neg c1, if_neg c1]
        by_cases c2 : c = 41
        · have := h41 c2
          rw [if_pos c2, if_pos c2]
          exact put (op - 1) (-1) (by omega) (by omega)
        · rw [if_neg c2, if_neg c2]
          exact put op 0 (by omega) (by omega)
    have q103 : (c = 41 → 0 < op) → CO B p (F_Fm_takeCharacter_103 c (r.length : Int) h) (if (c = 10 ∨ c = 32) ∧ cu = [] then ((t, o, (w, pv, cu, op) :: r, ds, wd, tx), 0) else put1 [c] (t, o, (w, pv, cu, if c = 40 then op + 1 else if c = 41 then op - 1 else op) :: r, ds, wd, tx)) := by
      intro h41
      have q115 : (c = 10 ∨ c = 32) → CO B p (F_Fm_takeCharacter_115 c (r.length : Int) h) (if (c = 10 ∨ c = 32) ∧ cu = [] then ((t, o, (w, pv, cu, op) :: r, ds, wd, tx), 0) else put1 [c] (t, o, (w, pv, cu, if c = 40 then op + 1 else if c = 41 then op - 1 else op) :: r, ds, wd, tx)) := by
        intro hb
        unfold F_Fm_takeCharacter_115
        rw [ar_atStart z6 hF (by omega), bnd_l]
        by_cases e : cu = []
        · obtain ⟨h1, x1, y1⟩ := z.drop (k := 1) (by omega)
          rw [if_pos e, if_neg (by decide), if_pos ⟨hb, e⟩, show (1 : Int) = ((1 : Nat) : Int) from rfl, x1, bnd_l]
          exact .inl ⟨rfl, h1, rfl, y1⟩
        · rw [if_neg e, if_pos rfl, if_neg (fun q => e q.2)]
          exact pt h41
      unfold F_Fm_takeCharacter_103
      by_cases c1 : c = 10
      · rw [if_pos c1]; exact q115 (.inl c1)
      · rw [if_neg c1]
        by_cases c2 : c = 32
        · rw [if_pos c2]; exact q115 (.inr c2)
        · rw [if_neg c2, if_neg (fun q => by rcases q.1 with q | q; exact c1 q; exact c2 q)]
          exact pt h41
    rw [sing1]
    rw [eL, if_neg (by omega), gd_b (by omega) (by omega), Int.toNat_natCast, eO]
    by_cases o0 : op = 0
    · rw [if_pos (by omega)]
      unfold F_Fm_takeCharacter_28 F_Fm_takeCharacter_29
      rw [if_pos (by omega)]
      by_cases c41 : c = 41
      · obtain ⟨h1, x1, y1⟩ := z.drop (k := 1) (by omega)
        rw [if_pos c41, if_pos rfl, if_pos (show c = 41 ∧ op = 0 from ⟨c41, o0⟩), show (1 : Int) = ((1 : Nat) : Int) from rfl, x1, bnd_l]
        refine CO.ret (cf_call y1 ⟨?_, ho, hF, by show ((w, pv, cu, op) :: r).length ≤ 6; rw [List.length_cons]; omega, hd, hok, hlv, fun x hx => hc1 x ?_, hc2, hc3⟩)
        · have : (c :: t).length ≤ 500 := hi
          show t.length ≤ 500
          rw [List.length_cons] at this
          omega
        · exact List.mem_cons_of_mem _ hx
      · rw [if_neg c41, if_neg (show ¬ (c = 41 ∧ op = 0) from fun q => c41 q.1)]
        unfold F_Fm_takeCharacter_67
        by_cases c44 : c = 44
        · obtain ⟨h1, x1, y1⟩ := z.drop (k := 1) (by omega)
          obtain ⟨a1, a2, a3, a4, a5, a6, m', a7⟩ := id y1
          change ArgC h1 ((w, pv, cu, op) :: r) at a6
          change DefC h1 m' ds wd tx ((w, pv, cu, op) :: r) at a7
          change CV B h1 (t, o, (w, pv, cu, op) :: r, ds, wd, tx) p at y1
          rw [if_pos c44, if_pos rfl, if_pos (show c = 44 ∧ op = 0 from ⟨c44, o0⟩), show (1 : Int) = ((1 : Nat) : Int) from rfl, x1, bnd_l]
          by_cases d : 4 ≤ pv.length
          · rw [ar_begA0 a6 (by omega) d, bnd_l, if_pos rfl, if_pos d]
            exact CO.bad (why := 1) y1 ho (by decide) (y1.bf (why := 1) _)
          · obtain ⟨h2, x2, f2, y2⟩ := ar_begA a6 hF (by omega) (by omega)
            rw [x2, bnd_l, if_neg (by decide), if_neg d]
            exact .inl ⟨rfl, h2, rfl, a1.tr (f2.sub (by decide)), a2, (f2.2.2 3 (by decide) 5).trans a3, a4.fr f2 (by decide) (by decide), a5.fr f2 (by decide) (by decide), y2, m', by have y := a7.fr f2 (by unfold noD; decide); exact y⟩
        · rw [if_neg c44, if_neg (show ¬ (c = 44 ∧ op = 0) from fun q => c44 q.1)]
          exact q103 (fun q => absurd q c41)
    · rw [if_neg (by omega), if_neg (show ¬ (c = 41 ∧ op = 0) from fun q => o0 q.2), if_neg (show ¬ (c = 44 ∧ op = 0) from fun q => o0 q.2)]
      unfold F_Fm_takeCharacter_29 F_Fm_takeCharacter_67
      rw [if_pos (by omega)]
      have q := q103 (fun _ => by omega)
      by_cases c41 : c = 41
      · rw [if_pos c41, if_neg (by decide), if_neg (by omega)]
        exact q
      · rw [if_neg c41]
        by_cases c44 : c = 44
        · rw [if_pos c44, if_neg (by decide)]
          exact q
        · rw [if_neg c44]
          exact q
/-! words -/
theorem strT : mSLen.getD 0 0 = (strL 0).length ∧ mSLen.getD 1 0 = (strL 1).length ∧ mSLen.getD 2 0 = (strL 2).length ∧ mSLen.getD 3 0 = (strL 3).length ∧ mSLen.getD 4 0 = (strL 4).length ∧ mSLen.getD 5 0 = (strL 5).length ∧ mSLen.getD 6 0 = (strL 6).length ∧ mSLen.getD 7 0 = (strL 7).length ∧ mSLen.getD 8 0 = (strL 8).length := by decide +kernel
theorem isF_e {k n : Nat} (z5 : Inp h i) (hn : n ≤ i.length) (hk : mSLen.getD k 0 = (strL k).length) : F_Fm_isFront (n : Int) k h = some (.inl (if i.take n = strL k then 1 else 0), h) := by
  have hl : (i.take n).length = n := by rw [List.length_take]; omega
  have hi := z5.2.1
  unfold F_Fm_isFront
  rw [z5.1, sp_e (l := i.take n) hk (by decide) (by rw [hl]) (by rw [hl]; omega) (z5.2.2.take n), bnd_l]
def bltV : Option Int → Int
  | none => -1
  | some w => 98 - w
theorem blt_e {n : Nat} (z5 : Inp h i) (hn : n ≤ i.length) : F_Fm_builtInWithBracket (n : Int) h = some (.inl (bltV (blt (i.take n))), h) := by
  obtain ⟨-, s1, s2, s3, s4, s5, s6, s7, s8⟩ := strT
  unfold F_Fm_builtInWithBracket blt
  rw [isF_e z5 hn s1, bnd_l]
  by_cases c1 : i.take n = strL 1
  · rw [if_pos c1, if_neg (by decide), if_pos c1]; rfl
  rw [if_neg c1, if_pos rfl, if_neg c1, isF_e z5 hn s2, bnd_l]
  by_cases c2 : i.take n = strL 2
  · rw [if_pos c2, if_neg (by decide), if_pos c2]; rfl
  rw [if_neg c2, if_pos rfl, if_neg c2, isF_e z5 hn s3, bnd_l]
  by_cases c3 : i.take n = strL 3
  · rw [if_pos c3, if_neg (by decide), if_pos c3]; rfl
  rw [if_neg c3, if_pos rfl, if_neg c3, isF_e z5 hn s4, bnd_l]
  by_cases c4 : i.take n = strL 4
  · rw [if_pos c4, if_neg (by decide), if_pos c4]; rfl
  rw [if_neg c4, if_pos rfl, if_neg c4, isF_e z5 hn s5, bnd_l]
  by_cases c5 : i.take n = strL 5
  · rw [if_pos c5, if_neg (by decide), if_pos c5]; rfl
  rw [if_neg c5, if_pos rfl, if_neg c5, isF_e z5 hn s6, bnd_l]
  by_cases c6 : i.take n = strL 6
  · rw [if_pos c6, if_neg (by decide), if_pos c6]; rfl
  rw [if_neg c6, if_pos rfl, if_neg c6, isF_e z5 hn s7, bnd_l]
  by_cases c7 : i.take n = strL 7
  · rw [if_pos c7, if_neg (by decide), if_pos c7]; rfl
  rw [if_neg c7, if_pos rfl, if_neg c7, isF_e z5 hn s8, bnd_l]
  by_cases c8 : i.take n = strL 8
  · rw [if_pos c8, if_neg (by decide), if_pos c8]; rfl
  rw [if_neg c8, if_pos rfl, if_neg c8]; rfl
theorem blt_r {w : List Int} {x : Int} (e : blt w = some x) : -9 ≤ x ∧ x ≤ -2 := by
  unfold blt at e
  (repeat' split at e) <;> first | (cases e; decide) | cases e
theorem wln_le (i : List Int) : wln i ≤ i.length := List.Sublist.length_le (List.takeWhile_sublist _)
theorem cf_word (z : CV B h (i, o, fs, ds, wd, tx) p) (wf : WF1 (i, o, fs, ds, wd, tx)) : CO B p (F_Fm_takeWord h) (word1 i o fs ds wd tx) := by
  obtain ⟨hi, ho, hF, hfs, hd, hok, hlv, hc1, hc2, hc3⟩ := wf
  change i.length ≤ 500 at hi
  change o.length ≤ 400 at ho
  change (flat fs).length ≤ 200 at hF
  change fs.length ≤ 6 at hfs
  change ds.length ≤ 10 at hd
  obtain ⟨z1, z2, z3, z4, z5, z6, m, z7⟩ := id z
  change Let h 4 400 o at z4
  change Inp h i at z5
  change ArgC h fs at z6
  change DefC h m ds wd tx fs at z7
  have hn := wln_le i
  have hl : (i.take (wln i)).length = wln i := by rw [List.length_take]; omega
  have hwd : ∀ k ∈ ds, (wd k).length ≤ 8 := fun k hk => wordOk_len (hlv k (.inl hk)).1
  have eW : F_T_wordLength 76 500 (mGi h 75 1) 500 h = some (.inl ((wln i : Nat) : Int), h) := by
    have q := wl_e (h := h) (c := 76) (cn := 500) (p := 500 - i.length) (l := i) (by decide) (by omega) z5.2.2
    rw [show 500 - i.length + i.length = 500 by omega] at q
    rw [z5.1]
    exact q
  have eLt := de_latest (c := 76) (cn := 500) (p := 500 - i.length) (t := i.take (wln i)) z7 (by decide) (by rw [hl]; omega) (z5.2.2.take _) hd hwd
  rw [hl, ← z5.1] at eLt
  unfold F_Fm_takeWord
  rw [eW, bnd_l, in_at z5 (by omega), bnd_l]
  have hbr : ((if wln i < i.length then i.getD (wln i) 0 else -1) = 40) ↔ brk i = true := by
    unfold brk
    rw [decide_eq_true_eq]
    by_cases c : wln i < i.length
    · rw [if_pos c]
    · rw [if_neg c, List.getD_eq_getElem?_getD, List.getElem?_eq_none (by omega)]
      exact ⟨fun q => absurd q (by decide), fun q => absurd q (by decide)⟩
  have e39 : ∀ b : Bool, F_Fm_takeWord_39 ((wln i : Nat) : Int) (bI b) h = bnd (some (.inl (match lat wd (i.take (wln i)) ds with | some k => (m k : Int) | none => if i.take (wln i) = strL 0 then 108 else bltV (if b = true then blt (i.take (wln i)) else none)), h)) fun x4 h2 => if x4 = (-1 : Int) then bnd (F_Fm_putFront ((wln i : Nat) : Int) h2) fun x10 h8 => some (.inl (), h8) else if x4 = (108 : Int) then bnd (F_In_dropLine h2) fun x16 h14 => some (.inl (), h14) else if bI b = 0 then bnd (F_In_drop ((wln i : Nat) : Int) h2) fun x22 h20 => bnd (F_Le_empty 84 500 h20) fun x27 h25 => bnd (F_Fm_bringText x4 (0 : Int) h25) fun x32 h30 => bnd (F_Fm_comeAhead h30) fun x37 h35 => some (.inl (), h35) else gd (inR (((wln i : Nat) : Int) + (1 : Int))) (bnd (F_In_drop (((wln i : Nat) : Int) + (1 : Int)) h2) fun x43 h41 => bnd (F_Fm_collect x4 h41) fun x48 h46 => some (.inl (), h46)) := by
    intro b
    unfold F_Fm_takeWord_39
    rw [gd_t bI_01]
    congr 1
    unfold F_Fm_macroAt
    rw [eLt, bnd_l]
    cases e : lat wd (i.take (wln i)) ds with
    | some k => rw [if_neg (by show ¬ (m k : Int) < 0; omega)]; rfl
    | none =>
      rw [if_pos (by show (-1 : Int) < 0; decide), isF_e z5 hn strT.1, bnd_l]
      by_cases c : i.take (wln i) = strL 0
      · rw [if_pos c, if_neg (by decide)]; simp only [if_pos c]
      · rw [if_neg c, if_pos rfl]; simp only [if_neg c]
        cases b with
        | false => rw [if_pos (show bI false = 0 from rfl)]; rfl
        | true => rw [if_neg (by decide), blt_e z5 hn, bnd_l]; rfl
  have main : CO B p (F_Fm_takeWord_39 ((wln i : Nat) : Int) (bI (brk i)) h) (word1 i o fs ds wd tx) := by
    rw [e39, bnd_l]
    unfold word1
    have collect : ∀ (x : Int), brk i = true → (0 ≤ x → x.toNat ∈ ds) → -9 ≤ x → x ≠ -1 → CO B p (gd (inR (((wln i : Nat) : Int) + (1 : Int))) (bnd (F_In_drop (((wln i : Nat) : Int) + (1 : Int)) h) fun x43 h41 => bnd (F_Fm_collect (mcd m x) h41) fun x48 h46 => some (.inl (), h46))) (col1 (i.drop (wln i + 1)) o fs ds wd tx x) := by
      intro x hb h1 h2 h3
      obtain ⟨h1', x1, f1, y1⟩ := in_drop (k := wln i + 1) z5 (by omega)
      rw [gd_rg (by omega) (by omega), show ((wln i : Nat) : Int) + 1 = ((wln i + 1 : Nat) : Int) by omega, x1, bnd_l]
      exact CO.ret (cf_col (z1.tr (f1.sub (by decide))) z2 ((f1.2.2 3 (by decide) 5).trans z3) (z4.fr f1 (by decide) (by decide)) y1 (z6.fr f1 (by decide)) (z7.fr f1 (by unfold noD; decide)) ho hF hfs h1 h2 h3)
    cases e : lat wd (i.take (wln i)) ds with
    | some k =>
      have hk := lat_mem e
      obtain ⟨q1, q2, q3⟩ := z7.2.2.2.2.2.1 k (.inl hk)
      simp only
      rw [if_neg (by omega), if_neg (by omega)]
      by_cases b : brk i = true
      · rw [if_neg (by rw [bI_0, b]; decide), if_pos b]
        have em : mcd m (k : Int) = (m k : Int) := by unfold mcd; rw [if_pos (by omega), Int.toNat_natCast]
        rw [← em]
        exact collect k b (fun _ => by rw [Int.toNat_natCast]; exact hk) (by omega) (by omega)
      · rw [if_pos (by rw [bI_0]; exact Bool.eq_false_iff.mpr b), if_neg b]
        obtain ⟨h1, x1, f1, y1⟩ := in_drop (k := wln i) z5 (by omega)
        obtain ⟨h2, x2, f2, y2⟩ := let_empty (a := 84) (n := 500) (h := h1)
        have a7 := (z7.fr f1 (by unfold noD; decide)).fr f2 (by unfold noD; decide)
        obtain ⟨g1, g2, g3⟩ := a7.2.2.2.2.2.1 k (.inl hk)
        have lk := hlv k (.inl hk)
        change wordOk (wd k) = true ∧ (tx k).length ≤ 40 ∧ _ at lk
        obtain ⟨h3, x3, f3, y3⟩ := cf_brT (s := m k) (a := []) g1 (.inl rfl) g2 (wordOk_len lk.1) g3 lk.2.1 y2
        rw [x1, bnd_l, x2, bnd_l]
        rw [show (([] : List (List Int)).length : Int) = 0 from rfl] at x3
        rw [x3, bnd_l]
        refine CO.ret (cf_come ⟨((z1.tr (f1.sub (by decide))).tr (f2.sub (by decide))).tr (f3.sub (by decide)), z2, (f3.2.2 3 (by decide) 5).trans ((f2.2.2 3 (by decide) 5).trans ((f1.2.2 3 (by decide) 5).trans z3)), ((z4.fr f1 (by decide) (by decide)).fr f2 (by decide) (by decide)).fr f3 (by decide) (by decide), (y1.fr f2 (by decide) (by decide)).fr f3 (by decide) (by decide), ((z6.fr f1 (by decide)).fr f2 (by decide)).fr f3 (by decide), m, a7.fr f3 (by unfold noD; decide)⟩ y3 ho)
    | none =>
      simp only
      by_cases c : i.take (wln i) = strL 0
      · rw [if_pos c, if_pos c, if_neg (by decide), if_pos rfl]
        obtain ⟨h1, x1, f1, y1⟩ := in_dropLine z5
        rw [x1, bnd_l]
        exact .inl ⟨rfl, h1, rfl, z1.tr (f1.sub (by decide)), z2, (f1.2.2 3 (by decide) 5).trans z3, z4.fr f1 (by decide) (by decide), y1, z6.fr f1 (by decide), m, z7.fr f1 (by unfold noD; decide)⟩
      · rw [if_neg c, if_neg c]
        cases e2 : (if brk i = true then blt (i.take (wln i)) else none) with
        | none =>
          rw [if_pos (by rfl)]
          exact CO.ret (cf_putF z ho hF hn)
        | some x =>
          have b : brk i = true := by
            by_cases b : brk i = true
            · exact b
            · rw [if_neg b] at e2; cases e2
          rw [if_pos b] at e2
          have hx := blt_r e2
          have em : mcd m x = 98 - x := by unfold mcd; rw [if_neg (by omega)]
          rw [if_neg (by show ¬ 98 - x = -1; omega), if_neg (by show ¬ 98 - x = 108; omega), if_neg (by rw [bI_0, b]; decide)]
          show CO B p (gd _ (bnd _ fun x43 h41 => bnd (F_Fm_collect (98 - x) h41) _)) _
          rw [← em]
          exact collect x b (by omega) (by omega) (by omega)
  by_cases b : brk i = true
  · rw [if_pos (hbr.mpr b)]
    rw [b] at main
    exact main
  · rw [if_neg (fun q => b (hbr.mp q))]
    rw [Bool.eq_false_iff.mpr b] at main
    exact main
end Fm4
