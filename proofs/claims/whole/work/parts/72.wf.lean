/-! the first mill keeps its bounds -/
section Wf
variable {ds : List Nat} {wd tx : Nat → List Int} {fs r : List Fm1} {w : Int} {pv : List (List Int)} {cu i o t : List Int} {op : Nat} {c : Int}
def wfD (ds : List Nat) (fs : List Fm1) (wd tx : Nat → List Int) : Prop := ∀ k, lv ds fs k → wordOk (wd k) = true ∧ (tx k).length ≤ 40 ∧ k < 16 ∧ ∀ c ∈ tx k, lgl c
theorem WF1.mk (a1 : i.length ≤ 500) (a2 : o.length ≤ 400) (a3 : (flat fs).length ≤ 200) (a4 : fs.length ≤ 6) (a5 : ds.length ≤ 10) (a6 : FOk fs) (a7 : wfD ds fs wd tx) (a8 : ∀ c ∈ i, lgl c) (a9 : ∀ c ∈ o, lgl c) (a10 : ∀ c ∈ flat fs, lgl c) : WF1 (i, o, fs, ds, wd, tx) := ⟨a1, a2, a3, a4, a5, a6, a7, a8, a9, a10⟩
theorem WF1.un (z : WF1 (i, o, fs, ds, wd, tx)) : i.length ≤ 500 ∧ o.length ≤ 400 ∧ (flat fs).length ≤ 200 ∧ fs.length ≤ 6 ∧ ds.length ≤ 10 ∧ FOk fs ∧ wfD ds fs wd tx ∧ (∀ c ∈ i, lgl c) ∧ (∀ c ∈ o, lgl c) ∧ ∀ c ∈ flat fs, lgl c := z
/-- a good end keeps all bounds, a bad one those of what can be seen -/
def gd1 (q : S1 × Nat) : Prop := (q.2 = 0 → WF1 q.1) ∧ q.1.2.1.length ≤ 400 ∧ ∀ c ∈ q.1.2.1, lgl c
theorem gd1.bad {s : S1} {why : Nat} (hw : why ≠ 0) (h1 : s.2.1.length ≤ 400) (h2 : ∀ c ∈ s.2.1, lgl c) : gd1 (s, why) := ⟨fun q => absurd q hw, h1, h2⟩
theorem gd1.ok {s : S1} (z : WF1 s) : gd1 (s, 0) := ⟨fun _ => z, z.2.1, z.2.2.2.2.2.2.2.2.1⟩
theorem wf_fin {c : List Int} (z : WF1 (i, o, fs, ds, wd, tx)) (hc : ∀ x ∈ c, lgl x) : gd1 (fin1 i o fs ds wd tx c) := by
  obtain ⟨a1, a2, a3, a4, a5, a6, a7, a8, a9, a10⟩ := z.un
  unfold fin1
  by_cases d : 500 < c.length + i.length
  · rw [if_pos d]; exact gd1.bad (by decide) a2 a9
  · rw [if_neg d]
    refine gd1.ok (WF1.mk (by rw [List.length_append]; omega) a2 a3 a4 a5 a6 a7 (fun x hx => ?_) a9 a10)
    rcases List.mem_append.mp hx with q | q
    · exact hc x q
    · exact a8 x q
theorem wf_put {l : List Int} (z : WF1 (i, o, fs, ds, wd, tx)) (hl : ∀ x ∈ l, lgl x) : gd1 (put1 l (i, o, fs, ds, wd, tx)) := by
  obtain ⟨a1, a2, a3, a4, a5, a6, a7, a8, a9, a10⟩ := z.un
  cases fs with
  | nil =>
    have ho : ∀ x ∈ (o ++ l).take 400, lgl x := fun x hx => by
      rcases List.mem_append.mp (List.mem_of_mem_take hx) with q | q
      · exact a9 x q
      · exact hl x q
    have hol : ((o ++ l).take 400).length ≤ 400 := by rw [List.length_take]; omega
    exact ⟨fun _ => WF1.mk a1 hol a3 a4 a5 a6 a7 a8 ho a10, hol, ho⟩
  | cons x r =>
    obtain ⟨w, pv, cu, op⟩ := x
    refine ⟨fun q => ?_, a2, a9⟩
    have q' : (if 200 < (flat ((w, pv, cu ++ l, op) :: r)).length then 1 else 0) = 0 := q
    have hF : flat ((w, pv, cu ++ l, op) :: r) = flat ((w, pv, cu, op) :: r) ++ l := by rw [flat_c, flat_c]; simp
    obtain ⟨b1, b2, b3, b4, b5⟩ := FOk.hd a6
    refine WF1.mk a1 a2 ?_ a4 a5 ⟨b1, b2, b3, by rw [List.length_append]; omega, b5⟩ a7 a8 a9 (fun x hx => ?_)
    · by_cases d : 200 < (flat ((w, pv, cu ++ l, op) :: r)).length
      · rw [if_pos d] at q'; cases q'
      · omega
    · rw [hF] at hx
      rcases List.mem_append.mp hx with q | q
      · exact a10 x q
      · exact hl x q
theorem lgl_m {l m : List Int} (z : ∀ c ∈ l, lgl c) (s : ∀ c ∈ m, c ∈ l) : ∀ c ∈ m, lgl c := fun c hc => z c (s c hc)
theorem wf_col (z : WF1 (i, o, fs, ds, wd, tx)) (hl : 0 ≤ w → w.toNat ∈ ds) (hw : -9 ≤ w) (hw1 : w ≠ -1) : gd1 (col1 i o fs ds wd tx w) := by
  obtain ⟨a1, a2, a3, a4, a5, a6, a7, a8, a9, a10⟩ := z.un
  unfold col1
  by_cases d : 6 ≤ fs.length
  · rw [if_pos d]; exact gd1.bad (by decide) a2 a9
  · rw [if_neg d]
    have hF : flat ((w, [], [], 0) :: fs) = flat fs := by rw [flat_c]; simp
    refine gd1.ok (WF1.mk a1 a2 (by rw [hF]; exact a3) (by rw [List.length_cons]; omega) a5 ⟨hw, hw1, by simp, by simp, a6⟩ (fun k hk => a7 k ((lv_push2 hl).mp hk)) a8 a9 (by rw [hF]; exact a10))
theorem lgl_num (v : Int) : ∀ c ∈ numL v, lgl c := by
  have hd : ∀ (k : Nat) (n : Int), ∀ c ∈ dgK k n, lgl c := by
    intro k
    induction k with
    | zero =>
      intro n c hc
      rw [dgK] at hc
      have : c = 48 + n % 10 := by simpa using hc
      exact .inr (by omega)
    | succ k ih =>
      intro n c hc
      rw [dgK] at hc
      rcases List.mem_cons.mp hc with q | q
      · have := dg_r n (10 ^ (k + 1))
        exact .inr (by omega)
      · exact ih n c q
  intro c hc
  unfold numL at hc
  by_cases d : v < 0
  · rw [if_pos d] at hc
    rcases List.mem_cons.mp hc with q | q
    · exact .inr (by omega)
    · exact hd _ _ c q
  · rw [if_neg d] at hc
    exact hd _ _ c hc
theorem lgl_brT {W : List Int} {n : Nat} {a : List (List Int)} (hW : ∀ c ∈ W, lgl c) (ha : ∀ l ∈ a, ∀ c ∈ l, lgl c) : ∀ (q : Nat) (t : List Int), t.length ≤ q → (∀ c ∈ t, lgl c) → ∀ c ∈ brT W n a t, lgl c := by
  intro q
  induction q with
  | zero =>
    intro t ht z c hc
    have : t = [] := List.eq_nil_of_length_eq_zero (by omega)
    subst this
    rw [brT] at hc
    cases hc
  | succ q ih =>
    intro t ht z c hc
    match t, ht, z, hc with
    | [], _, _, hc => rw [brT] at hc; cases hc
    | [x], _, z, hc => rw [brT] at hc; exact z c hc
    | x :: y :: t, ht, z, hc =>
      rw [List.length_cons, List.length_cons] at ht
      rw [brT] at hc
      by_cases d : isSb x y = true
      · rw [if_pos d] at hc
        rcases List.mem_append.mp hc with k | k
        · unfold sbT at k
          by_cases d1 : y = 35
          · rw [if_pos d1] at k; exact lgl_num _ c k
          · rw [if_neg d1] at k
            by_cases d2 : y = 48
            · rw [if_pos d2] at k; exact hW c k
            · rw [if_neg d2, List.getD_eq_getElem?_getD] at k
              cases e : a[(y - 49).toNat]? with
              | none => rw [e] at k; cases k
              | some l => rw [e] at k; exact ha l (List.mem_of_getElem? e) c k
        · exact ih t (by omega) (fun c hc => z c (by simp [hc])) c k
      · rw [if_neg d] at hc
        rcases List.mem_cons.mp hc with k | k
        · exact z c (by simp [k])
        · exact ih (y :: t) (by rw [List.length_cons]; omega) (fun c hc => z c (List.mem_cons_of_mem _ hc)) c k
theorem lgl_word {W : List Int} (z : wordOk W = true) : ∀ c ∈ W, lgl c := fun c hc => by
  unfold wordOk at z
  simp only [Bool.and_eq_true] at z
  have q := List.all_eq_true.mp z.2 c hc
  unfold cP at q
  rw [decide_eq_true_eq] at q
  exact .inr (by omega)
theorem lgl_arg {a : List (List Int)} (z : ∀ c ∈ a.flatten, lgl c) : ∀ l ∈ a, ∀ c ∈ l, lgl c := fun l hl c hc => z c (List.mem_flatten.mpr ⟨l, hl, hc⟩)
theorem lgl_get {a : List (List Int)} (z : ∀ l ∈ a, ∀ c ∈ l, lgl c) (k : Nat) : ∀ c ∈ a.getD k [], lgl c := fun c hc => by
  rw [List.getD_eq_getElem?_getD] at hc
  cases e : a[k]? with
  | none => rw [e] at hc; cases hc
  | some l => rw [e] at hc; exact z l (List.mem_of_getElem? e) c hc
theorem lgl_shf {a : List (List Int)} (z : ∀ l ∈ a, ∀ c ∈ l, lgl c) : ∀ c ∈ shf a, lgl c := by
  have hq : ∀ l : List Int, (∀ c ∈ l, lgl c) → ∀ c ∈ quo l, lgl c := fun l hl c hc => by
    unfold quo at hc
    rcases List.mem_cons.mp hc with q | q
    · exact .inr (by omega)
    · rcases List.mem_append.mp q with q | q
      · exact hl c q
      · have : c = 39 := by simpa using q
        exact .inr (by omega)
  have hT : ∀ a : List (List Int), (∀ l ∈ a, ∀ c ∈ l, lgl c) → ∀ c ∈ shfT a, lgl c := by
    intro a
    induction a with
    | nil => intro _ c hc; cases hc
    | cons l a ih =>
      intro z c hc
      rw [shfT] at hc
      rcases List.mem_cons.mp hc with q | q
      · exact .inr (by omega)
      · rcases List.mem_append.mp q with q | q
        · exact hq l (z l List.mem_cons_self) c q
        · exact ih (fun l hl => z l (List.mem_cons_of_mem _ hl)) c q
  cases a with
  | nil => intro c hc; cases hc
  | cons l a =>
    intro c hc
    rw [shf] at hc
    rcases List.mem_append.mp hc with q | q
    · exact hq l (z l List.mem_cons_self) c q
    · exact hT a (fun l hl => z l (List.mem_cons_of_mem _ hl)) c q
theorem wf_pop (z : WF1 (i, o, (w, pv, cu, op) :: r, ds, wd, tx)) : WF1 (i, o, r, ds, wd, tx) := by
  obtain ⟨a1, a2, a3, a4, a5, a6, a7, a8, a9, a10⟩ := z.un
  rw [flat_c] at a3 a10
  rw [List.length_append] at a3
  rw [List.length_cons] at a4
  exact WF1.mk a1 a2 (by omega) (by omega) a5 (FOk.hd a6).2.2.2.2 (fun k hk => a7 k (lv_tl hk)) a8 a9 (fun c hc => a10 c (List.mem_append.mpr (.inl hc)))
theorem wf_call (z : WF1 (i, o, (w, pv, cu, op) :: r, ds, wd, tx)) : gd1 (call1 i o w (pv ++ [cu]) r ds wd tx) := by
  have zp := wf_pop z
  obtain ⟨a1, a2, a3, a4, a5, a6, a7, a8, a9, a10⟩ := z.un
  obtain ⟨b1, b2, b3, b4, b5, b6, b7, b8, b9, b10⟩ := zp.un
  rw [List.length_cons] at a4
  have ha : ∀ l ∈ pv ++ [cu], ∀ c ∈ l, lgl c := lgl_arg (fun c hc => a10 c (by rw [flat_c]; exact List.mem_append.mpr (.inr hc)))
  have hdef : ∀ kn : Option Nat, (∀ k, kn = some k → k ∈ ds) → gd1 (def1 kn ((pv ++ [cu]).getD 0 []) ((pv ++ [cu]).getD 1 []) i o r ds wd tx) := by
    intro kn hk
    unfold def1
    by_cases c1 : wordOk ((pv ++ [cu]).getD 0 []) = true
    · rw [if_pos c1]
      by_cases c2 : 40 < ((pv ++ [cu]).getD 1 []).length
      · rw [if_pos c2]; exact gd1.bad (by decide) a2 a9
      · rw [if_neg c2]
        cases kn with
        | some k =>
          refine wf_fin (WF1.mk b1 b2 b3 b4 b5 b6 (fun j hj => ?_) b8 b9 b10) (by simp)
          have q := b7 j hj
          unfold updL
          by_cases d : j = k
          · rw [if_pos d]; exact ⟨q.1, by omega, q.2.2.1, lgl_get ha 1⟩
          · rw [if_neg d]; exact q
        | none =>
          simp only
          by_cases c3 : 10 ≤ ds.length
          · rw [if_pos c3]; exact gd1.bad (by decide) a2 a9
          · rw [if_neg c3]
            have hn := nid_ok (ds := ds) (r := r) (by omega) (by omega)
            refine wf_fin (WF1.mk b1 b2 b3 b4 (by rw [List.length_append, List.length_singleton]; omega) b6 (fun j hj => ?_) b8 b9 b10) (by simp)
            unfold updL
            by_cases d : j = nid ds r 16 0
            · rw [if_pos d, if_pos d, d]; exact ⟨c1, by omega, hn.2, lgl_get ha 1⟩
            · rw [if_neg d, if_neg d]
              refine b7 j ?_
              rcases hj with q | q
              · rcases List.mem_append.mp q with q | q
                · exact .inl q
                · exact absurd (by simpa using q) d
              · exact .inr q
    · rw [if_neg c1]; exact wf_fin zp (by simp)
  unfold call1
  by_cases c0 : 0 ≤ w
  · rw [if_pos c0]
    have lw : lv ds ((w, pv, cu, op) :: r) w.toNat := .inr (by rw [idsF, if_pos c0]; exact List.mem_cons_self)
    have q := a7 _ lw
    exact wf_fin zp (lgl_brT (lgl_word q.1) ha _ _ (Nat.le_refl _) q.2.2.2)
  rw [if_neg c0]
  by_cases c1 : w = -2
  · rw [if_pos c1]; exact hdef _ (fun k e => lat_mem e)
  rw [if_neg c1]
  by_cases c2 : w = -3
  · rw [if_pos c2]; exact hdef none (fun k e => by cases e)
  rw [if_neg c2]
  by_cases c3 : w = -4
  · rw [if_pos c3]
    refine wf_fin (WF1.mk b1 b2 b3 b4 (Nat.le_trans (List.length_filter_le _ _) b5) b6 (fun j hj => b7 j ?_) b8 b9 b10) (by simp)
    rcases hj with q | q
    · exact .inl (List.mem_filter.mp q).1
    · exact .inr q
  rw [if_neg c3]
  by_cases c4 : w = -5
  · rw [if_pos c4]; exact wf_fin zp (lgl_get ha _)
  rw [if_neg c4]
  by_cases c5 : w = -6
  · rw [if_pos c5]; exact wf_fin zp (lgl_get ha _)
  rw [if_neg c5]
  by_cases c6 : w = -7
  · rw [if_pos c6]
    have key : ∀ (P : Prop) (hP : Decidable P) (L : List Int), (∀ c ∈ L, lgl c) → gd1 (@ite _ P hP (fin1 i o r ds wd tx L) ((i, o, r, ds, wd, tx), 5)) := by
      intro P hP L hL
      by_cases d : P
      · rw [if_pos d]; exact wf_fin zp hL
      · rw [if_neg d]; exact gd1.bad (by decide) a2 a9
    exact key _ _ _ (lgl_num _)
  rw [if_neg c6]
  by_cases c7 : w = -8
  · rw [if_pos c7]; exact wf_fin zp (lgl_num _)
  rw [if_neg c7]
  exact wf_fin zp (lgl_shf (fun l hl => ha l (List.mem_of_mem_drop hl)))
theorem WF1.inp {j : List Int} (z : WF1 (i, o, fs, ds, wd, tx)) (h1 : j.length ≤ i.length) (h2 : ∀ c ∈ j, c ∈ i) : WF1 (j, o, fs, ds, wd, tx) := by
  obtain ⟨a1, a2, a3, a4, a5, a6, a7, a8, a9, a10⟩ := z.un
  exact WF1.mk (by omega) a2 a3 a4 a5 a6 a7 (fun c hc => a8 c (h2 c hc)) a9 a10
theorem WF1.drop {k : Nat} (z : WF1 (i, o, fs, ds, wd, tx)) : WF1 (i.drop k, o, fs, ds, wd, tx) := z.inp (by rw [List.length_drop]; omega) (fun c hc => List.mem_of_mem_drop hc)
theorem wf_piece {s : S1} (z : WF1 s) : gd1 (piece1 s) := by
  obtain ⟨i, o, fs, ds, wd, tx⟩ := s
  cases i with
  | nil => exact gd1.ok z
  | cons c t =>
    have zt : WF1 (t, o, fs, ds, wd, tx) := z.drop (k := 1)
    obtain ⟨a1, a2, a3, a4, a5, a6, a7, a8, a9, a10⟩ := z.un
    unfold piece1
    simp only
    by_cases c1 : c = 96
    · rw [if_pos c1]
      cases qgo 1 t with
      | none => exact gd1.bad (by decide) a2 a9
      | some n => exact wf_put (zt.drop) (fun x hx => a8 x (List.mem_cons_of_mem _ (List.mem_of_mem_take hx)))
    rw [if_neg c1]
    by_cases c2 : cL c = true
    · rw [if_pos c2]
      unfold word1
      cases e : lat wd ((c :: t).take (wln (c :: t))) ds with
      | some k =>
        simp only
        have q := a7 k (.inl (lat_mem e))
        split
        · exact wf_col z.drop (fun _ => by rw [Int.toNat_natCast]; exact lat_mem e) (by omega) (by omega)
        · exact wf_fin z.drop (lgl_brT (lgl_word q.1) (by simp) _ _ (Nat.le_refl _) q.2.2.2)
      | none =>
        simp only
        split
        · obtain ⟨k, hk, ek⟩ := dropLn_suf (c :: t)
          rw [ek]
          exact gd1.ok z.drop
        · cases e2 : (if brk (c :: t) = true then blt ((c :: t).take (wln (c :: t))) else none) with
          | none => exact wf_put z.drop (fun x hx => a8 x (List.mem_of_mem_take hx))
          | some x =>
            have hx : -9 ≤ x ∧ x ≤ -2 := by
              by_cases b : brk (c :: t) = true
              · rw [if_pos b] at e2; exact blt_r e2
              · rw [if_neg b] at e2; cases e2
            exact wf_col z.drop (by omega) (by omega) (by omega)
    rw [if_neg c2]
    have hc : ∀ x ∈ [c], lgl x := fun x hx => a8 x (by rw [List.mem_singleton] at hx; rw [hx]; exact List.mem_cons_self)
    cases fs with
    | nil => exact wf_put zt hc
    | cons x r =>
      obtain ⟨w, pv, cu, op⟩ := x
      rw [sing1]
      obtain ⟨b1, b2, b3, b4, b5⟩ := FOk.hd a6
      by_cases d1 : c = 41 ∧ op = 0
      · rw [if_pos d1]; exact wf_call zt
      rw [if_neg d1]
      by_cases d2 : c = 44 ∧ op = 0
      · rw [if_pos d2]
        by_cases d3 : 4 ≤ pv.length
        · rw [if_pos d3]; exact gd1.bad (by decide) a2 a9
        · rw [if_neg d3]
          have hF : flat ((w, pv ++ [cu], [], op) :: r) = flat ((w, pv, cu, op) :: r) := by rw [flat_c, flat_c]; simp
          obtain ⟨e1, e2, e3, e4, e5, e6, e7, e8, e9, e10⟩ := zt.un
          exact gd1.ok (WF1.mk e1 e2 (by rw [hF]; exact e3) e4 e5 ⟨b1, b2, by rw [List.length_append, List.length_singleton]; omega, by omega, b5⟩ e7 e8 e9 (by rw [hF]; exact e10))
      rw [if_neg d2]
      by_cases d3 : (c = 10 ∨ c = 32) ∧ cu = []
      · rw [if_pos d3]; exact gd1.ok zt
      rw [if_neg d3]
      obtain ⟨e1, e2, e3, e4, e5, e6, e7, e8, e9, e10⟩ := zt.un
      -- brackets open: never more than there are characters
      refine ⟨fun q => ?_, e2, e9⟩
      have q' : (if 200 < (flat ((w, pv, cu ++ [c], if c = 40 then op + 1 else if c = 41 then op - 1 else op) :: r)).length then 1 else 0) = 0 := q
      have hF : ∀ n, flat ((w, pv, cu ++ [c], n) :: r) = flat ((w, pv, cu, op) :: r) ++ [c] := fun n => by rw [flat_c, flat_c]; simp
      refine WF1.mk e1 e2 ?_ e4 e5 ⟨b1, b2, b3, ?_, b5⟩ e7 e8 e9 (fun x hx => ?_)
      · by_cases d : 200 < (flat ((w, pv, cu ++ [c], if c = 40 then op + 1 else if c = 41 then op - 1 else op) :: r)).length
        · rw [if_pos d] at q'; cases q'
        · omega
      · rw [List.length_append, List.length_singleton]
        split
        · omega
        · split <;> omega
      · rw [hF] at hx
        rcases List.mem_append.mp hx with q | q
        · exact e10 x q
        · exact hc x q
end Wf
