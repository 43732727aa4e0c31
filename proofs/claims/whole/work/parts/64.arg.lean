/-! the class's Arguments -/
section Arg
def StC (h : MH) : Nat → Nat → List (List Int) → Prop
  | _, _, [] => True
  | p, n, a :: l => mGi h 80 p = (n : Int) ∧ StC h (p + 1) (n + a.length) l
def FrC (h : MH) : List Fm1 → Prop
  | [] => True
  | (_, pv, cu, op) :: r => mGi h 82 r.length = (op : Int) ∧ mGi h 83 r.length = ((pv.length + 1 : Nat) : Int) ∧ pv.length ≤ 4 ∧ StC h (5 * r.length) (flat r).length (pv ++ [cu]) ∧ FrC h r
def ArgC (h : MH) (fs : List Fm1) : Prop := mGi h 77 5 = (fs.length : Int) - 1 ∧ Let h 78 200 (flat fs) ∧ FrC h fs
variable {h h' : MH} {w : Int} {pv : List (List Int)} {cu : List Int} {op : Nat} {r fs : List Fm1}
theorem flat_c : flat ((w, pv, cu, op) :: r) = flat r ++ (pv ++ [cu]).flatten := by
  show flat r ++ (pv.flatten ++ cu) = _
  rw [List.flatten_append]
  simp
theorem StC.cg : ∀ {l : List (List Int)} {p n : Nat}, (∀ j, p ≤ j → j < p + l.length → mGi h' 80 j = mGi h 80 j) → StC h p n l → StC h' p n l
  | [], _, _, _, _ => trivial
  | a :: l, p, n, e, z => ⟨(e p (Nat.le_refl _) (by rw [List.length_cons]; omega)).trans z.1, StC.cg (fun j h1 h2 => e j (by omega) (by rw [List.length_cons]; omega)) z.2⟩
theorem StC.get : ∀ {l : List (List Int)} {p n : Nat} (_ : StC h p n l) (k : Nat), k < l.length → mGi h 80 (p + k) = ((n + (l.take k).flatten.length : Nat) : Int)
  | [], _, _, _, k, hk => absurd hk (Nat.not_lt_zero _)
  | a :: l, p, n, z, 0, _ => z.1
  | a :: l, p, n, z, k + 1, hk => by
    have q := StC.get z.2 k (by rw [List.length_cons] at hk; omega)
    rw [show p + (k + 1) = p + 1 + k by omega, q, List.take_succ_cons, List.flatten_cons, List.length_append]
    congr 1
    omega
theorem StC.app : ∀ {l m : List (List Int)} {p n : Nat}, StC h p n (l ++ m) ↔ StC h p n l ∧ StC h (p + l.length) (n + l.flatten.length) m
  | [], m, p, n => ⟨fun z => ⟨trivial, z⟩, fun z => z.2⟩
  | a :: l, m, p, n => by
    have z := StC.app (l := l) (m := m) (p := p + 1) (n := n + a.length)
    rw [List.length_cons, List.flatten_cons, List.length_append, show p + (l.length + 1) = p + 1 + l.length by omega, ← Nat.add_assoc n]
    exact ⟨fun q => ⟨⟨q.1, (z.mp q.2).1⟩, (z.mp q.2).2⟩, fun q => ⟨q.1.1, z.mpr ⟨q.1.2, q.2⟩⟩⟩
theorem FrC.cg : ∀ {fs : List Fm1}, (∀ j, j < fs.length → mGi h' 82 j = mGi h 82 j) → (∀ j, j < fs.length → mGi h' 83 j = mGi h 83 j) → (∀ j, j < 5 * fs.length → mGi h' 80 j = mGi h 80 j) → FrC h fs → FrC h' fs
  | [], _, _, _, _ => trivial
  | (w, pv, cu, op) :: r, e1, e2, e3, z => by
    rw [List.length_cons] at e1 e2 e3
    refine ⟨(e1 _ (by omega)).trans z.1, (e2 _ (by omega)).trans z.2.1, z.2.2.1, StC.cg (fun j h1 h2 => e3 j ?_) z.2.2.2.1, FrC.cg (fun j hj => e1 j (by omega)) (fun j hj => e2 j (by omega)) (fun j hj => e3 j (by omega)) z.2.2.2.2⟩
    have := z.2.2.1
    rw [List.length_append, List.length_singleton] at h2
    omega
theorem FrC.fr {S : List Nat} (f : Fr S h h') (h0 : 80 ∉ S) (h2 : 82 ∉ S) (h3 : 83 ∉ S) (z : FrC h fs) : FrC h' fs := FrC.cg (fun j _ => f.2.2 82 h2 j) (fun j _ => f.2.2 83 h3 j) (fun j _ => f.2.2 80 h0 j) z
theorem ArgC.fr {S : List Nat} (z : ArgC h fs) (f : Fr S h h') (hS : ∀ b ∈ [77, 78, 79, 80, 82, 83], b ∉ S) : ArgC h' fs :=
  ⟨(f.2.2 77 (hS 77 (by decide)) 5).trans z.1, z.2.1.fr f (hS 78 (by decide)) (hS 79 (by decide)), z.2.2.fr f (hS 80 (by decide)) (hS 82 (by decide)) (hS 83 (by decide))⟩
theorem fl_split (l : List (List Int)) : ∀ k, l.flatten = (l.take k).flatten ++ (l.getD k [] ++ (l.drop (k + 1)).flatten) := by
  induction l with
  | nil => intro k; simp
  | cons a l ih =>
    intro k
    cases k with
    | zero => simp
    | succ k =>
      rw [List.flatten_cons, ih k]
      simp
theorem fl_len (l : List (List Int)) (k : Nat) : (l.take (k + 1)).flatten.length = (l.take k).flatten.length + (l.getD k []).length := by
  rw [List.take_add_one, List.flatten_append, List.length_append, List.getD_eq_getElem?_getD]
  cases l[k]? with
  | none => simp
  | some a => simp
theorem fl_all (l : List (List Int)) {k : Nat} (hk : l.length ≤ k) : (l.take k).flatten = l.flatten := by rw [List.take_of_length_le hk]
theorem ar_start {k : Nat} (z : ArgC h ((w, pv, cu, op) :: r)) (hf : (flat ((w, pv, cu, op) :: r)).length ≤ 200) (hr : r.length < 6) (hk : k < 1000) :
    F_Ar_start (k : Int) h = some (.inl (((flat r).length + ((pv ++ [cu]).take k).flatten.length : Nat) : Int), h) := by
  obtain ⟨z1, z2, z3, z4, z5, z6, z7⟩ := z
  rw [List.length_cons] at z1
  unfold F_Ar_start
  rw [z1, gd_b (by omega) (by omega), show (((r.length + 1 : Nat) : Int) - 1).toNat = r.length by omega, z4]
  by_cases c : pv.length + 1 ≤ k
  · rw [if_pos (by omega), z2.len hf, flat_c, List.length_append, fl_all _ (by rw [List.length_append, List.length_singleton]; exact c)]
  · rw [if_neg (by omega), gd_rg (by omega) (by omega), gd_rg (by omega) (by omega), gd_b (by omega) (by omega)]
    have q := z6.get k (by rw [List.length_append, List.length_singleton]; omega)
    rw [show ((((r.length + 1 : Nat) : Int) - 1) * 5 + (k : Int)).toNat = 5 * r.length + k by omega, q]
theorem flk_le (l : List (List Int)) (k : Nat) : (l.take k).flatten.length ≤ l.flatten.length := by
  rw [fl_split l k, List.length_append]
  omega
theorem ar_length {k : Nat} (z : ArgC h ((w, pv, cu, op) :: r)) (hf : (flat ((w, pv, cu, op) :: r)).length ≤ 200) (hr : r.length < 6) (hk : k < 999) :
    F_Ar_length (k : Int) h = some (.inl (((pv ++ [cu]).getD k []).length : Int), h) := by
  unfold F_Ar_length
  have e := ar_start (k := k + 1) z hf hr (by omega)
  rw [show ((k + 1 : Nat) : Int) = (k : Int) + 1 by omega] at e
  have q := flk_le (pv ++ [cu]) k
  have q2 := flk_le (pv ++ [cu]) (k + 1)
  rw [flat_c, List.length_append] at hf
  rw [gd_rg (by omega) (by omega), e, bnd_l, ar_start (k := k) z (by rw [flat_c, List.length_append]; exact hf) hr (by omega), bnd_l]
  rw [gd_rg (by omega) (by omega), fl_len]
  congr 3
  omega
theorem ar_seg (k : Nat) (z : ArgC h ((w, pv, cu, op) :: r)) (hf : (flat ((w, pv, cu, op) :: r)).length ≤ 200) : Seg h 79 ((flat r).length + ((pv ++ [cu]).take k).flatten.length) ((pv ++ [cu]).getD k []) ∧ (flat r).length + ((pv ++ [cu]).take k).flatten.length + ((pv ++ [cu]).getD k []).length ≤ 200 := by
  have s := z.2.1.seg hf
  rw [flat_c] at s hf
  rw [fl_split (pv ++ [cu]) k] at s hf
  have s2 := (Seg.app.mp (Seg.app.mp s).2).2
  refine ⟨?_, ?_⟩
  · have q := (Seg.app.mp s2).1
    rw [Nat.zero_add] at q
    exact q
  · simp only [List.length_append] at hf
    omega
theorem ar_atStart (z : ArgC h ((w, pv, cu, op) :: r)) (hf : (flat ((w, pv, cu, op) :: r)).length ≤ 200) (hr : r.length < 6) : F_Ar_isAtArgumentStart h = some (.inl (if cu = [] then 1 else 0), h) := by
  have e := ar_length (k := pv.length) z hf hr (by have := z.2.2.2.2.1; omega)
  obtain ⟨z1, z2, z3, z4, z5, z6, z7⟩ := z
  rw [List.length_cons] at z1
  unfold F_Ar_isAtArgumentStart
  rw [z1, gd_b (by omega) (by omega), show (((r.length + 1 : Nat) : Int) - 1).toNat = r.length by omega, z4, gd_rg (by omega) (by omega)]
  rw [show ((pv.length + 1 : Nat) : Int) - 1 = (pv.length : Int) by omega, e, bnd_l]
  have g : (pv ++ [cu]).getD pv.length [] = cu := by simp [List.getD_eq_getElem?_getD]
  rw [g]
  cases cu with
  | nil => rfl
  | cons x t => rw [if_neg (by rw [List.length_cons]; omega), if_neg (by simp)]
theorem ar_end (z : ArgC h ((w, pv, cu, op) :: r)) (hf : (flat ((w, pv, cu, op) :: r)).length ≤ 200) (hr : r.length < 6) : ∃ h', F_Ar_end h = some (.inl (), h') ∧ Fr [77, 78] h h' ∧ ArgC h' r := by
  have e := ar_start (k := 0) z hf hr (by omega)
  have s := z.2.1.seg hf
  have o := z.2.1.2.2
  obtain ⟨z1, z2, z3, z4, z5, z6, z7⟩ := z
  rw [List.length_cons] at z1
  rw [if_neg (by omega)] at o
  have hf' : (flat r).length ≤ 200 := by rw [flat_c, List.length_append] at hf; omega
  have g1 : ∀ x, mGi (mPi h 78 1 x) 77 5 = ((r.length + 1 : Nat) : Int) - 1 := fun x => by rw [gi_pi, if_neg (by omega), z1]
  refine ⟨mPi (mPi h 78 1 ((flat r).length : Int)) 77 5 (((r.length + 1 : Nat) : Int) - 1 - 1), ?_, Fr.pi (Fr.pi Fr.rf (by simp)) (by simp), ?_, ⟨?_, ?_, ?_⟩, ?_⟩
  · unfold F_Ar_end
    rw [show (0 : Int) = ((0 : Nat) : Int) from rfl, e, bnd_l]
    simp only [sto_e]
    rw [g1, gd_rg (by omega) (by omega)]
    rfl
  · rw [gi_pi, if_pos ⟨rfl, rfl⟩]
    omega
  · rw [gi_pi, if_neg (by omega), gi_pi, if_pos ⟨rfl, rfl⟩, Nat.min_eq_left hf']
  · rw [List.take_of_length_le hf']
    rw [flat_c] at s
    exact Seg.pio (Seg.pio (Seg.app.mp s).1 (.inl (by decide))) (.inl (by decide))
  · rw [gi_pi, if_neg (by omega), gi_pi, if_neg (by omega), o, if_neg (by omega)]
  · exact z7.fr (S := [77, 78]) (Fr.pi (Fr.pi Fr.rf (by simp)) (by simp)) (by decide) (by decide) (by decide)
theorem ar_begA0 (z : ArgC h ((w, pv, cu, op) :: r)) (hr : r.length < 6) (hp : 4 ≤ pv.length) : F_Ar_beginArgument h = some (.inl 0, h) := by
  obtain ⟨z1, z2, z3, z4, z5, z6, z7⟩ := z
  rw [List.length_cons] at z1
  unfold F_Ar_beginArgument
  rw [z1, gd_b (by omega) (by omega), show (((r.length + 1 : Nat) : Int) - 1).toNat = r.length by omega, z4, if_neg (by omega)]
theorem ar_begA (z : ArgC h ((w, pv, cu, op) :: r)) (hf : (flat ((w, pv, cu, op) :: r)).length ≤ 200) (hr : r.length < 6) (hp : pv.length < 4) : ∃ h', F_Ar_beginArgument h = some (.inl 1, h') ∧ Fr [80, 83] h h' ∧ ArgC h' ((w, pv ++ [cu], [], op) :: r) := by
  obtain ⟨z1, z2, z3, z4, z5, z6, z7⟩ := z
  rw [List.length_cons] at z1
  have z1' : mGi h 77 5 = (r.length : Int) := by omega
  have hl := z2.len hf
  have g1 : ∀ i x, mGi (mPi h 80 i x) 77 5 = (r.length : Int) := fun i x => by rw [gi_pi, if_neg (by omega), z1']
  have g2 : ∀ i x, mGi (mPi h 80 i x) 83 r.length = ((pv.length + 1 : Nat) : Int) := fun i x => by rw [gi_pi, if_neg (by omega), z4]
  have hF : flat ((w, pv ++ [cu], [], op) :: r) = flat ((w, pv, cu, op) :: r) := by rw [flat_c, flat_c]; simp
  refine ⟨mPi (mPi h 80 (5 * r.length + (pv.length + 1)) ((flat ((w, pv, cu, op) :: r)).length : Int)) 83 r.length (((pv.length + 1 : Nat) : Int) + 1), ?_, Fr.pi (Fr.pi Fr.rf (by simp)) (by simp), ?_, ?_, ?_, ?_, ?_, ?_, ?_⟩
  · unfold F_Ar_beginArgument
    rw [z1', gd_b (by omega) (by omega), Int.toNat_natCast, z4, if_pos (by omega), gd_rg (by omega) (by omega), gd_rg (by omega) (by omega), gd_b (by omega) (by omega)]
    simp only [sto_e]
    rw [g1, gd_b (by omega) (by omega), Int.toNat_natCast, g2, gd_rg (by omega) (by omega), hl, show ((r.length : Int) * 5 + ((pv.length + 1 : Nat) : Int)).toNat = 5 * r.length + (pv.length + 1) by omega]
  · rw [gi_pi, if_neg (by omega), gi_pi, if_neg (by omega), List.length_cons]; exact z1
  · rw [hF]
    exact z2.fr (S := [80, 83]) (Fr.pi (Fr.pi Fr.rf (by simp)) (by simp)) (by decide) (by decide)
  · rw [gi_pi, if_neg (by omega), gi_pi, if_neg (by omega)]; exact z3
  · rw [gi_pi, if_pos ⟨rfl, rfl⟩, List.length_append, List.length_singleton]
    omega
  · rw [List.length_append, List.length_singleton]; omega
  · rw [StC.app]
    refine ⟨StC.cg (fun j h1 h2 => ?_) z6, ?_, trivial⟩
    · rw [List.length_append, List.length_singleton] at h2
      rw [gi_pi, if_neg (by omega), gi_pi, if_neg (by omega)]
    · rw [List.length_append, List.length_singleton, gi_pi, if_neg (by omega), gi_pi, if_pos ⟨rfl, rfl⟩, flat_c, List.length_append]
  · refine FrC.cg (fun j hj => ?_) (fun j hj => ?_) (fun j hj => ?_) z7
    · rw [gi_pi, if_neg (by omega), gi_pi, if_neg (by omega)]
    · rw [gi_pi, if_neg (by omega), gi_pi, if_neg (by omega)]
    · rw [gi_pi, if_neg (by omega), gi_pi, if_neg (by omega)]
theorem ar_beg0 (z : ArgC h fs) (hr : 6 ≤ fs.length) (hx : fs.length ≤ 6) : F_Ar_begin w h = some (.inl 0, h) := by
  unfold F_Ar_begin
  rw [z.1, gd_rg (by omega) (by omega), if_neg (by omega)]
theorem ar_beg (z : ArgC h fs) (hf : (flat fs).length ≤ 200) (hr : fs.length < 6) : ∃ h', F_Ar_begin w h = some (.inl 1, h') ∧ Fr [77, 80, 81, 82, 83] h h' ∧ (∀ v, ArgC h' ((v, [], [], 0) :: fs)) ∧ mGi h' 81 fs.length = w ∧ ∀ j, j ≠ fs.length → mGi h' 81 j = mGi h 81 j := by
  obtain ⟨z1, z2, z3⟩ := z
  have hl := z2.len hf
  have n : (fs.length : Int) - 1 + 1 = (fs.length : Int) := by omega
  have hF : ∀ v, flat ((v, [], [], 0) :: fs) = flat fs := fun v => by rw [flat_c]; simp
  refine ⟨mPi (mPi (mPi (mPi (mPi (mPi h 77 5 (fs.length : Int)) 81 fs.length w) 82 fs.length 0) 83 fs.length 0) 80 (5 * fs.length) ((flat fs).length : Int)) 83 fs.length (0 + 1), ?_, Fr.pi (Fr.pi (Fr.pi (Fr.pi (Fr.pi (Fr.pi Fr.rf (by simp)) (by simp)) (by simp)) (by simp)) (by simp)) (by simp), fun v => ⟨?_, ?_, ?_, ?_, ?_, ?_, ?_⟩, ?_, fun j hj => ?_⟩
  · unfold F_Ar_begin
    rw [z1, gd_rg (by omega) (by omega), if_pos (by omega), n]
    simp only [sto_e]
    rw [show mGi (mPi h 77 5 (fs.length : Int)) 77 5 = (fs.length : Int) by rw [gi_pi, if_pos ⟨rfl, rfl⟩], gd_b (by omega) (by omega), Int.toNat_natCast]
    rw [show ∀ x, mGi (mPi (mPi h 77 5 (fs.length : Int)) 81 fs.length x) 77 5 = (fs.length : Int) from fun x => by rw [gi_pi, if_neg (by omega), gi_pi, if_pos ⟨rfl, rfl⟩], gd_b (by omega) (by omega), Int.toNat_natCast]
    rw [show ∀ x y, mGi (mPi (mPi (mPi h 77 5 (fs.length : Int)) 81 fs.length x) 82 fs.length y) 77 5 = (fs.length : Int) from fun x y => by rw [gi_pi, if_neg (by omega), gi_pi, if_neg (by omega), gi_pi, if_pos ⟨rfl, rfl⟩], gd_b (by omega) (by omega), Int.toNat_natCast]
    unfold F_Ar_beginArgument
    have g1 : mGi (mPi (mPi (mPi (mPi h 77 5 (fs.length : Int)) 81 fs.length w) 82 fs.length 0) 83 fs.length 0) 77 5 = (fs.length : Int) := by rw [gi_pi, if_neg (by omega), gi_pi, if_neg (by omega), gi_pi, if_neg (by omega), gi_pi, if_pos ⟨rfl, rfl⟩]
    have g2 : mGi (mPi (mPi (mPi (mPi h 77 5 (fs.length : Int)) 81 fs.length w) 82 fs.length 0) 83 fs.length 0) 83 fs.length = 0 := by rw [gi_pi, if_pos ⟨rfl, rfl⟩]
    have g3 : mGi (mPi (mPi (mPi (mPi h 77 5 (fs.length : Int)) 81 fs.length w) 82 fs.length 0) 83 fs.length 0) 78 1 = ((flat fs).length : Int) := by rw [gi_pi, if_neg (by omega), gi_pi, if_neg (by omega), gi_pi, if_neg (by omega), gi_pi, if_neg (by omega), hl]
    rw [g1, gd_b (by omega) (by omega), Int.toNat_natCast, g2, if_pos (by decide), gd_rg (by omega) (by omega), gd_rg (by omega) (by omega), gd_b (by omega) (by omega), g3]
    simp only [sto_e]
    rw [gi_pi (b := 77), if_neg (by omega), g1, gd_b (by omega) (by omega), Int.toNat_natCast, gi_pi (b := 83), if_neg (by omega), g2, gd_rg (by omega) (by omega), bnd_l, show ((fs.length : Int) * 5 + 0).toNat = 5 * fs.length by omega]
  · rw [gi_pi, if_neg (by omega), gi_pi, if_neg (by omega), gi_pi, if_neg (by omega), gi_pi, if_neg (by omega), gi_pi, if_neg (by omega), gi_pi, if_pos ⟨rfl, rfl⟩, List.length_cons]
    omega
  · rw [hF]
    exact z2.fr (S := [77, 80, 81, 82, 83]) (Fr.pi (Fr.pi (Fr.pi (Fr.pi (Fr.pi (Fr.pi Fr.rf (by simp)) (by simp)) (by simp)) (by simp)) (by simp)) (by simp)) (by decide) (by decide)
  · rw [gi_pi, if_neg (by omega), gi_pi, if_neg (by omega), gi_pi, if_neg (by omega), gi_pi, if_pos ⟨rfl, rfl⟩]
    rfl
  · rw [gi_pi, if_pos ⟨rfl, rfl⟩]
    rfl
  · exact Nat.zero_le _
  · refine ⟨?_, trivial⟩
    rw [gi_pi, if_neg (by omega), gi_pi, if_pos ⟨rfl, rfl⟩]
  · refine FrC.cg (fun j hj => ?_) (fun j hj => ?_) (fun j hj => ?_) z3
    · rw [gi_pi, if_neg (by omega), gi_pi, if_neg (by omega), gi_pi, if_neg (by omega), gi_pi, if_neg (by omega), gi_pi, if_neg (by omega), gi_pi, if_neg (by omega)]
    · rw [gi_pi, if_neg (by omega), gi_pi, if_neg (by omega), gi_pi, if_neg (by omega), gi_pi, if_neg (by omega), gi_pi, if_neg (by omega), gi_pi, if_neg (by omega)]
    · rw [gi_pi, if_neg (by omega), gi_pi, if_neg (by omega), gi_pi, if_neg (by omega), gi_pi, if_neg (by omega), gi_pi, if_neg (by omega), gi_pi, if_neg (by omega)]
  · rw [gi_pi, if_neg (by omega), gi_pi, if_neg (by omega), gi_pi, if_neg (by omega), gi_pi, if_neg (by omega), gi_pi, if_pos ⟨rfl, rfl⟩]
  · rw [gi_pi, if_neg (by omega), gi_pi, if_neg (by omega), gi_pi, if_neg (by omega), gi_pi, if_neg (by omega), gi_pi, if_neg (by omega), gi_pi, if_neg (by omega)]
/-- the latest argument grows -/
theorem ArgC.grow {l : List Int} (z : ArgC h ((w, pv, cu, op) :: r)) (f : Fr [78, 79] h h') (y : Let h' 78 200 (flat ((w, pv, cu, op) :: r) ++ l)) : ArgC h' ((w, pv, cu ++ l, op) :: r) := by
  have hF : flat ((w, pv, cu ++ l, op) :: r) = flat ((w, pv, cu, op) :: r) ++ l := by rw [flat_c, flat_c]; simp
  obtain ⟨z1, z2, z3, z4, z5, z6, z7⟩ := z
  refine ⟨(f.2.2 77 (by decide) 5).trans z1, by rw [hF]; exact y, (f.2.2 82 (by decide) _).trans z3, (f.2.2 83 (by decide) _).trans z4, z5, ?_, z7.fr f (by decide) (by decide) (by decide)⟩
  rw [StC.app] at z6 ⊢
  exact ⟨StC.cg (fun j _ _ => f.2.2 80 (by decide) j) z6.1, (f.2.2 80 (by decide) _).trans z6.2.1, trivial⟩
theorem ArgC.opn {n : Nat} (z : ArgC h ((w, pv, cu, op) :: r)) : ArgC (mPi h 82 r.length (n : Int)) ((w, pv, cu, n) :: r) := by
  obtain ⟨z1, z2, z3, z4, z5, z6, z7⟩ := z
  have f : Fr [82] h (mPi h 82 r.length (n : Int)) := Fr.pi Fr.rf (by simp)
  refine ⟨(f.2.2 77 (by decide) 5).trans z1, z2.fr f (by decide) (by decide), ?_, (f.2.2 83 (by decide) _).trans z4, z5, StC.cg (fun j _ _ => f.2.2 80 (by decide) j) z6, ?_⟩
  · rw [gi_pi, if_pos ⟨rfl, rfl⟩]
  · refine FrC.cg (fun j hj => ?_) (fun j _ => f.2.2 83 (by decide) j) (fun j _ => f.2.2 80 (by decide) j) z7
    rw [gi_pi, if_neg (by omega)]
end Arg
