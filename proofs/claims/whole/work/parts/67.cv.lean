/-! the class's first mill as a whole -/
section Cv
variable {B h h' : MH} {m : Nat → Nat} {ds : List Nat} {wd tx : Nat → List Int} {fs r : List Fm1} {w : Int} {pv : List (List Int)} {cu : List Int} {op : Nat}
def updm (m : Nat → Nat) (i s : Nat) : Nat → Nat := fun j => if j = i then s else m j
theorem MaC.um {i s : Nat} : ∀ {fs : List Fm1}, i ∉ idsF fs → MaC h m fs → MaC h (updm m i s) fs
  | [], _, _ => trivial
  | (w, pv, cu, op) :: r, hi, z => by
    unfold idsF at hi
    by_cases c : 0 ≤ w
    · rw [if_pos c] at hi
      simp only [List.mem_cons, not_or] at hi
      refine ⟨?_, MaC.um hi.2 z.2⟩
      rw [z.1]
      unfold mcd updm
      rw [if_pos c, if_pos c, if_neg (fun q => hi.1 q.symm)]
    · rw [if_neg c] at hi
      refine ⟨?_, MaC.um hi z.2⟩
      rw [z.1]
      unfold mcd
      rw [if_neg c, if_neg c]
theorem awN_um {i s t : Nat} : ∀ {fs : List Fm1}, i ∉ idsF fs → awN (updm m i s) t fs = awN m t fs
  | [], _ => rfl
  | (w, pv, cu, op) :: r, hi => by
    unfold idsF at hi
    unfold awN
    by_cases c : 0 ≤ w
    · rw [if_pos c] at hi
      simp only [List.mem_cons, not_or] at hi
      rw [awN_um hi.2]
      have e : updm m i s w.toNat = m w.toNat := by unfold updm; rw [if_neg (fun q => hi.1 q.symm)]
      rw [e]
    · rw [if_neg c] at hi
      rw [awN_um hi, if_neg (fun q => c q.1), if_neg (fun q => c q.1)]
theorem OrC.um {i s : Nat} : ∀ {l : List Nat} {p : Nat}, i ∉ l → OrC h m p l → OrC h (updm m i s) p l
  | [], _, _, _ => trivial
  | x :: l, p, hi, z => by
    simp only [List.mem_cons, not_or] at hi
    refine ⟨?_, OrC.um hi.2 z.2⟩
    rw [z.1]
    unfold updm
    rw [if_neg (fun q => hi.1 q.symm)]
/-- a new definition -/
theorem DefC.add {i k s : Nat} {t tt : List Int} (z : DefC h m ds wd tx fs) (hd : ds.length < 10) (hi : ¬ lv ds fs i) (h1 : ds.length ≤ k) (h2 : k < 16) (h3 : mGi h 10 k = (s : Int)) (h4 : mGi h 9 s = 0)
    (f : Fr [6, 10, 11 + 4 * s, 12 + 4 * s, 13 + 4 * s, 14 + 4 * s] h h') (e4 : mGi h' 6 4 = (ds.length : Int) + 1) (eo : ∀ i, mGi h' 10 i = if i = ds.length then (s : Int) else if i = k then mGi h 10 ds.length else mGi h 10 i) (y1 : Let h' (11 + 4 * s) 8 t) (y2 : Let h' (13 + 4 * s) 40 tt) :
    DefC h' (updm m i s) (ds ++ [i]) (updL wd i t) (updL tx i tt) fs := by
  have zz := z
  obtain ⟨z1, z2, z3, z4, z5, z6, z7⟩ := z
  have hi1 : i ∉ ds := fun q => hi (.inl q)
  have hi2 : i ∉ idsF fs := fun q => hi (.inr q)
  have hs : s < 16 := by have := (z2.1 k h2).2; omega
  have hs0 : awN m s fs = 0 := by rw [← z5 s hs]; exact h4
  have mi : updm m i s i = s := by unfold updm; rw [if_pos rfl]
  have mo : ∀ j, j ≠ i → updm m i s j = m j := fun j hj => by unfold updm; rw [if_neg hj]
  have ms : ∀ j, lv ds fs j → m j ≠ s := fun j hj q => by
    rcases hj with hj | hj
    · obtain ⟨a, ha⟩ := List.mem_iff_getElem?.mp hj
      have la := (List.getElem?_eq_some_iff.mp ha).1
      have ea := z3.get ha
      rw [Nat.zero_add, q] at ea
      have := zz.inj (i := a) (j := k) (by omega) h2 (ea.trans h3.symm)
      omega
    · have := awN_in (m := m) fs hj
      rw [q] at this
      omega
  have lvx : ∀ j, lv (ds ++ [i]) fs j → j = i ∨ (j ≠ i ∧ lv ds fs j) := fun j hj => by
    by_cases c : j = i
    · exact .inl c
    · refine .inr ⟨c, ?_⟩
      rcases hj with hj | hj
      · rw [List.mem_append] at hj
        rcases hj with hj | hj
        · exact .inl hj
        · exact absurd (by simpa using hj) c
      · exact .inr hj
  have a3 : ∀ i, i < 16 → mGi h' 10 i = mGi h 10 (if i = ds.length then k else if i = k then ds.length else i) := fun i hi => by
    rw [eo]
    by_cases c1 : i = ds.length
    · rw [if_pos c1, if_pos c1, h3]
    · rw [if_neg c1, if_neg c1]
      by_cases c2 : i = k
      · rw [if_pos c2, if_pos c2]
      · rw [if_neg c2, if_neg c2]
  refine ⟨?_, ⟨fun j hj => ?_, fun j j' hj hj' q => ?_⟩, ?_, MaC.um hi2 (MaC.cg (fun j _ => f.2.2 81 (by simp; omega) j) z4), fun t' ht => ?_, fun j hj => ?_, fun j j' hj hj' q => ?_⟩
  · rw [e4, List.length_append, List.length_singleton]; omega
  · rw [a3 j hj]
    exact z2.1 _ (by split <;> (try split) <;> omega)
  · rw [a3 j hj, a3 j' hj'] at q
    have r := zz.inj (by split <;> (try split) <;> omega) (by split <;> (try split) <;> omega) q
    revert r
    (repeat' split) <;> omega
  · rw [OrC.app]
    refine ⟨OrC.um hi1 (OrC.cg (fun j h1 h2 => ?_) z3), ?_, trivial⟩
    · rw [eo, if_neg (by omega), if_neg (by omega)]
    · rw [eo, if_pos (by omega), mi]
  · rw [awN_um hi2, f.2.2 9 (by simp; omega), z5 t' ht]
  · rcases lvx j hj with rfl | ⟨hn, hl⟩
    · rw [mi]
      unfold updL
      rw [if_pos rfl, if_pos rfl]
      exact ⟨hs, y1, y2⟩
    · rw [mo j hn]
      unfold updL
      rw [if_neg hn, if_neg hn]
      obtain ⟨q1, q2, q3⟩ := z6 j hl
      have := ms j hl
      exact ⟨q1, q2.fr f (by simp; omega) (by simp; omega), q3.fr f (by simp; omega) (by simp; omega)⟩
  · rcases lvx j hj with c | ⟨hn, hl⟩
    · rcases lvx j' hj' with c' | ⟨hn', hl'⟩
      · rw [c, c']
      · rw [c, mi, mo j' hn'] at q
        exact absurd q.symm (ms j' hl')
    · rcases lvx j' hj' with c' | ⟨hn', hl'⟩
      · rw [c', mi, mo j hn] at q
        exact absurd q (ms j hl)
      · rw [mo j hn, mo j' hn'] at q
        exact z7 j j' hl hl' q
/-- another text for a definition -/
theorem DefC.txt {k : Nat} {tt : List Int} (z : DefC h m ds wd tx fs) (hk : k ∈ ds) (f : Fr [13 + 4 * m k, 14 + 4 * m k] h h') (y : Let h' (13 + 4 * m k) 40 tt) : DefC h' m ds wd (updL tx k tt) fs := by
  obtain ⟨z1, z2, z3, z4, z5, z6, z7⟩ := z
  refine ⟨(f.2.2 6 (by simp; omega) 4).trans z1, permO.cg (fun i _ => f.2.2 10 (by simp; omega) i) z2, OrC.cg (fun j _ _ => f.2.2 10 (by simp; omega) j) z3, MaC.cg (fun j _ => f.2.2 81 (by simp; have := (z6 k (.inl hk)).1; omega) j) z4, fun s hs => (f.2.2 9 (by simp; omega) s).trans (z5 s hs), fun j hj => ?_, z7⟩
  obtain ⟨q1, q2, q3⟩ := z6 j hj
  unfold updL
  by_cases c : j = k
  · rw [if_pos c, c]
    rw [c] at q1 q2
    exact ⟨q1, q2.fr f (by simp <;> omega) (by simp <;> omega), y⟩
  · rw [if_neg c]
    have : m j ≠ m k := fun q => c (z7 j k hj (.inl hk) q)
    exact ⟨q1, q2.fr f (by simp; omega) (by simp; omega), q3.fr f (by simp; omega) (by simp; omega)⟩
theorem lv_push {k : Nat} (hw : ¬ 0 ≤ w) : lv ds ((w, pv, cu, op) :: fs) k ↔ lv ds fs k := by
  unfold lv
  rw [idsF, if_neg hw]
theorem lv_push2 {k : Nat} (hl : 0 ≤ w → w.toNat ∈ ds) : lv ds ((w, pv, cu, op) :: fs) k ↔ lv ds fs k := by
  by_cases c : 0 ≤ w
  · unfold lv
    rw [idsF, if_pos c, List.mem_cons]
    refine ⟨fun q => ?_, fun q => ?_⟩
    · rcases q with q | q | q
      · exact .inl q
      · exact .inl (q ▸ hl c)
      · exact .inr q
    · rcases q with q | q
      · exact .inl q
      · exact .inr (.inr q)
  · exact lv_push c
/-- one more macro is collected -/
theorem DefC.push (z : DefC h m ds wd tx fs) (hl : 0 ≤ w → w.toNat ∈ ds) (f : Fr [9, 77, 80, 81, 82, 83] h h') (e1 : mGi h' 81 fs.length = mcd m w) (e2 : ∀ j, j ≠ fs.length → mGi h' 81 j = mGi h 81 j) (e3 : ∀ s, s < 16 → mGi h' 9 s = mGi h 9 s + if 0 ≤ w ∧ m w.toNat = s then 1 else 0) : DefC h' m ds wd tx ((w, pv, cu, op) :: fs) := by
  obtain ⟨z1, z2, z3, z4, z5, z6, z7⟩ := z
  refine ⟨(f.2.2 6 (by decide) 4).trans z1, permO.cg (fun i _ => f.2.2 10 (by decide) i) z2, OrC.cg (fun j _ _ => f.2.2 10 (by decide) j) z3, ⟨e1, MaC.cg (fun j hj => e2 j (by omega)) z4⟩, fun s hs => ?_, fun j hj => ?_, fun j j' hj hj' => z7 j j' ((lv_push2 hl).mp hj) ((lv_push2 hl).mp hj')⟩
  · rw [e3 s hs, z5 s hs]
    show _ = _ + awN m s fs
    omega
  · obtain ⟨q1, q2, q3⟩ := z6 j ((lv_push2 hl).mp hj)
    exact ⟨q1, q2.fr f (by simp; omega) (by simp; omega), q3.fr f (by simp; omega) (by simp; omega)⟩
theorem lv_tl {k : Nat} (q : lv ds r k) : lv ds ((w, pv, cu, op) :: r) k := by
  rcases q with q | q
  · exact .inl q
  · refine .inr ?_
    unfold idsF
    split
    · exact List.mem_cons_of_mem _ q
    · exact q
/-- the latest macro is done with -/
theorem DefC.pop {S : List Nat} (z : DefC h m ds wd tx ((w, pv, cu, op) :: r)) (f : Fr S h h') (hS : ∀ b ∈ S, b ∉ [6, 10, 81] ∧ (b < 11 ∨ 75 ≤ b)) (e3 : ∀ s, s < 16 → mGi h' 9 s = mGi h 9 s - if 0 ≤ w ∧ m w.toNat = s then 1 else 0) : DefC h' m ds wd tx r := by
  obtain ⟨z1, z2, z3, z4, z5, z6, z7⟩ := z
  have g : ∀ b ∈ [6, 10, 81], b ∉ S := fun b hb q => (hS b q).1 hb
  have g2 : ∀ b, 11 ≤ b → b < 75 → b ∉ S := fun b h1 h2 q => by have := (hS b q).2; omega
  refine ⟨(f.2.2 6 (g 6 (by decide)) 4).trans z1, permO.cg (fun i _ => f.2.2 10 (g 10 (by decide)) i) z2, OrC.cg (fun j _ _ => f.2.2 10 (g 10 (by decide)) j) z3, MaC.cg (fun j _ => f.2.2 81 (g 81 (by decide)) j) z4.2, fun s hs => ?_, fun j hj => ?_, fun j j' hj hj' => z7 j j' (lv_tl hj) (lv_tl hj')⟩
  · rw [e3 s hs, z5 s hs]
    show _ + awN m s r - _ = _
    omega
  · obtain ⟨q1, q2, q3⟩ := z6 j (lv_tl hj)
    exact ⟨q1, q2.fr f (g2 _ (by omega) (by omega)) (g2 _ (by omega) (by omega)), q3.fr f (g2 _ (by omega) (by omega)) (g2 _ (by omega) (by omega))⟩
def CS : List Nat := List.range' 3 83
theorem mCS {b : Nat} : b ∈ CS ↔ 3 ≤ b ∧ b < 86 := by
  unfold CS
  rw [List.mem_range'_1]
def Rm (B : MH) : Prop := 150 ≤ B.1.length ∧ B.1.length + 10 < mCM ∧ mSlt B + 100 ≤ mSM
def CV (B h : MH) (s : S1) (p : Nat) : Prop := Fr CS B h ∧ Rm B ∧ mGi h 3 5 = (p : Int) ∧ Let h 4 400 s.2.1 ∧ Inp h s.1 ∧ ArgC h s.2.2.1 ∧ ∃ m, DefC h m s.2.2.2.1 s.2.2.2.2.1 s.2.2.2.2.2 s.2.2.1
def CX (B h : MH) (s : S1) (r p : Nat) : Prop := ∃ h0, h = mNew h0 13 6 ∧ Fr CS B h0 ∧ mGi h0 3 6 = (r : Int) ∧ mGi h0 3 5 = (p : Int) ∧ mGi h0 4 1 = (s.2.1.length : Int) ∧ s.2.1.length ≤ 400 ∧ Seg h0 5 0 s.2.1 ∧ mGi h0 6 4 = (s.2.2.2.1.length : Int) ∧ permO h0
def CO (B : MH) (p : Nat) (x : RS Unit) (q : S1 × Nat) : Prop := (q.2 = 0 ∧ ∃ h', x = some (.inl (), h') ∧ CV B h' q.1 p) ∨ (q.2 ≠ 0 ∧ ∃ h', x = some (.inr 13, h') ∧ CX B h' q.1 q.2 p)
def FOk : List Fm1 → Prop
  | [] => True
  | (w, pv, cu, op) :: r => -9 ≤ w ∧ w ≠ -1 ∧ pv.length ≤ 4 ∧ op ≤ cu.length ∧ FOk r
def WF1 (s : S1) : Prop := s.1.length ≤ 500 ∧ s.2.1.length ≤ 400 ∧ (flat s.2.2.1).length ≤ 200 ∧ s.2.2.1.length ≤ 6 ∧ s.2.2.2.1.length ≤ 10 ∧ FOk s.2.2.1 ∧ (∀ k, lv s.2.2.2.1 s.2.2.1 k → wordOk (s.2.2.2.2.1 k) = true ∧ (s.2.2.2.2.2 k).length ≤ 40 ∧ k < 16 ∧ ∀ c ∈ s.2.2.2.2.2 k, lgl c) ∧ (∀ c ∈ s.1, lgl c) ∧ (∀ c ∈ s.2.1, lgl c) ∧ ∀ c ∈ flat s.2.2.1, lgl c
theorem rm_e {h : MH} (f : Fr CS B h) (z : Rm B) : rmE h := by
  unfold rmE mSlt
  rw [f.1]
  have := z.2.1
  have z2 := z.2.2
  unfold mSlt at z2
  exact ⟨by omega, by omega⟩
theorem cf_fail {why : Nat} (f : Fr CS B h) (z : Rm B) : F_Fm_fail (why : Int) h = some (.inr 13, mNew (mPi h 3 6 (why : Int)) 13 6) := by
  unfold F_Fm_fail thr
  rw [sto_e, gd_t]
  exact rm_e (Fr.pi f (by decide)) z
/-- a failure as such -/
theorem CX.of {s : S1} {o : List Int} {why p : Nat} (f : Fr CS B h) (e5 : mGi h 3 5 = (p : Int)) (z : Let h 4 400 o) (ho : s.2.1 = o.take 400) (d : mGi h 6 4 = (s.2.2.2.1.length : Int)) (pm : permO h) : CX B (mNew (mPi h 3 6 (why : Int)) 13 6) s why p := by
  refine ⟨_, rfl, Fr.pi f (by decide), ?_, ?_, ?_, ?_, ?_, ?_, ?_⟩
  · rw [gi_pi, if_pos ⟨rfl, rfl⟩]
  · rw [gi_pi, if_neg (by decide), e5]
  · rw [gi_pi, if_neg (by decide), z.1, ho, List.length_take, Nat.min_comm]
  · rw [ho, List.length_take]; omega
  · rw [ho]; exact Seg.pio z.2.1 (.inl (by decide))
  · rw [gi_pi, if_neg (by decide), d]
  · exact permO.cg (fun i _ => by rw [gi_pi, if_neg (by omega)]) pm
theorem CV.cx {s : S1} {why p : Nat} (z : CV B h s p) (ho : s.2.1.length ≤ 400) : CX B (mNew (mPi h 3 6 (why : Int)) 13 6) s why p := by
  obtain ⟨z1, z2, z3, z4, z5, z6, m, z7⟩ := z
  exact CX.of z1 z3 z4 (List.take_of_length_le ho).symm z7.1 z7.2.1
theorem CV.fail {s : S1} {why p : Nat} (z : CV B h s p) : F_Fm_fail (why : Int) h = some (.inr 13, mNew (mPi h 3 6 (why : Int)) 13 6) := cf_fail z.1 z.2.1
end Cv
