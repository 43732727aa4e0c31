/-! first: the class as the reference -/
section First
variable {B h h' : MH} {t : List Int}
theorem f39_l (ht : t.length ≤ 400) : ∀ (q f k : Nat) (h : MH), k + q = t.length → q < f → mGi h 107 3 = (t.length : Int) → Seg h 108 0 t → (∀ j, j < k → mGi h 109 (t.length - 1 - j) = t.getD j 0) →
    ∃ h', itr (fun self (q : Int × MH) => F_M_first_39_b (fun v1 h => self (v1, h)) q.1 q.2) f ((k : Int), h) = F_M_first_72 h' ∧ FP (fun b _ => b = 109) h h' ∧ SegR h' 109 t := by
  intro q
  induction q with
  | zero =>
    intro f k h hk hf e3 s y
    obtain ⟨f, rfl⟩ : ∃ g, f = g + 1 := ⟨f - 1, by omega⟩
    refine ⟨h, ?_, FP.rf, ?_⟩
    · rw [itr_s]
      dsimp only
      rw [F_M_first_39_b, e3, if_pos (by omega)]
    · have q := SegR.app (h := h) (c := 109) (l1 := t) (l2 := []) (fun j hj => by rw [List.length_nil, Nat.zero_add]; exact y j (by omega)) trivial
      rw [List.append_nil] at q
      exact q
  | succ q ih =>
    intro f k h hk hf e3 s y
    obtain ⟨f, rfl⟩ : ∃ g, f = g + 1 := ⟨f - 1, by omega⟩
    have hx := s.get k (by omega)
    rw [Nat.zero_add] at hx
    obtain ⟨h1, e1, f1, y1⟩ := ih f (k + 1) (mPi h 109 (t.length - 1 - k) (t.getD k 0)) (by omega) (by omega) (by rw [gi_pi, if_neg (by omega), e3]) (s.pio (.inl (by decide))) (fun j hj => by
      rw [gi_pi]
      by_cases d : j = k
      · rw [d, if_pos ⟨rfl, rfl⟩]
      · rw [if_neg (by omega)]; exact y j (by omega))
    refine ⟨h1, ?_, (FP.pi (P := fun b _ => b = 109) FP.rf rfl).tr f1, y1⟩
    rw [itr_s]
    dsimp only
    rw [F_M_first_39_b, e3, if_neg (by omega), gd_rg (by omega) (by omega), gd_rg (by omega) (by omega), gd_b (by omega) (by omega), gd_b (by omega) (by omega)]
    simp only [sto_e]
    rw [gd_rg (by omega) (by omega), Int.toNat_natCast, hx, show ((t.length : Int) - 1 - (k : Int)).toNat = t.length - 1 - k by omega, show (k : Int) + 1 = ((k + 1 : Nat) : Int) by omega]
    exact e1
def n0 : Nat → List Int := fun _ => []
def r1 (t : List Int) : S1 × Nat × Nat := run1 600 (t, [], [], [], n0, n0) 0
theorem wf_0 (ht : t.length ≤ 400) (hc : ∀ c ∈ t, lgl c) : WF1 (t, [], [], [], n0, n0) := by
  refine WF1.mk (by omega) (by simp) (by simp [flat]) (by simp) (by simp) trivial (fun k hk => ?_) hc (by simp) (by simp [flat])
  rcases hk with hk | hk <;> cases hk
theorem run1_gd : ∀ (q : Nat) (s : S1) (p : Nat), WF1 s → (run1 q s p).1.2.1.length ≤ 400 ∧ ∀ c ∈ (run1 q s p).1.2.1, lgl c
  | 0, s, p, z => by
    rw [run1]
    split <;> exact ⟨z.2.1, z.2.2.2.2.2.2.2.2.1⟩
  | q + 1, s, p, z => by
    rw [run1]
    split
    · exact ⟨z.2.1, z.2.2.2.2.2.2.2.2.1⟩
    · split
      · rename_i e
        exact run1_gd q _ _ ((wf_piece z).1 e)
      · exact (wf_piece z).2
def pM (b i : Nat) : Prop := (b = 107 ∧ (i = 0 ∨ i = 1 ∨ (3 ≤ i ∧ i ≤ 10) ∨ i = 27)) ∨ (109 ≤ b ∧ b ≤ 120)
theorem m_first (ht : t.length ≤ 400) (hc : ∀ c ∈ t, lgl c) (e2 : mGi h 107 2 = (t.length : Int)) (s : Seg h 108 0 t) : ∃ h', F_M_first h = some (.inl (if (r1 t).2.1 = 0 then ((r1 t).1.2.1.length : Int) else 0), h') ∧ mGi h' 107 0 = (if (r1 t).2.1 = 0 then 0 else 1) ∧ FL pM h h' ∧ mGi h' 107 1 = ((r1 t).2.1 : Int) ∧ mGi h' 107 4 = ((r1 t).2.2 : Int) ∧ mGi h' 107 5 = ((r1 t).1.2.1.length : Int) ∧ Seg h' 110 0 (r1 t).1.2.1 ∧ mGi h' 107 6 = ((r1 t).1.2.2.2.1.length : Int) ∧ mGi h' 107 27 = 0 := by
  have fB : FP pM h (mPi (mPi (mPi h 107 0 0) 107 1 0) 107 27 0) := FP.pi (FP.pi (FP.pi FP.rf (by unfold pM; omega)) (by unfold pM; omega)) (by unfold pM; omega)
  have gB0 : mGi (mPi (mPi (mPi h 107 0 0) 107 1 0) 107 27 0) 107 0 = 0 := by rw [gi_pi, if_neg (by omega), gi_pi, if_neg (by omega), gi_s]
  have gB1 : mGi (mPi (mPi (mPi h 107 0 0) 107 1 0) 107 27 0) 107 1 = 0 := by rw [gi_pi, if_neg (by omega), gi_s]
  have gB27 : mGi (mPi (mPi (mPi h 107 0 0) 107 1 0) 107 27 0) 107 27 = 0 := gi_s
  have gB2 : mGi (mPi (mPi (mPi h 107 0 0) 107 1 0) 107 27 0) 107 2 = (t.length : Int) := (fB.2.2 107 2 (by unfold pM; omega)).trans e2
  have sB : Seg (mPi (mPi (mPi h 107 0 0) 107 1 0) 107 27 0) 108 0 t := s.fp fB (fun j => by unfold pM; omega)
  unfold F_M_first F_M_start
  simp only [sto_e, bnd_l]
  generalize mPi (mPi (mPi h 107 0 0) 107 1 0) 107 27 0 = B at *
  have f1 : FP pR B (mPi (mPi (mPi (mPi (mPi B 107 4 0) 107 5 0) 107 6 0) 107 7 0) 107 8 0) := FP.pi (FP.pi (FP.pi (FP.pi (FP.pi FP.rf (by unfold pR; omega)) (by unfold pR; omega)) (by unfold pR; omega)) (by unfold pR; omega)) (by unfold pR; omega)
  rw [f1.2.2 107 2 (by unfold pR; omega), gB2]
  have f2 : FP pR B (mPi (mPi (mPi (mPi (mPi (mPi B 107 4 0) 107 5 0) 107 6 0) 107 7 0) 107 8 0) 107 3 (t.length : Int)) := FP.pi f1 (by unfold pR; omega)
  have k4 : mGi (mPi (mPi (mPi (mPi (mPi (mPi B 107 4 0) 107 5 0) 107 6 0) 107 7 0) 107 8 0) 107 3 (t.length : Int)) 107 4 = 0 := by rw [gi_pi, if_neg (by omega), gi_pi, if_neg (by omega), gi_pi, if_neg (by omega), gi_pi, if_neg (by omega), gi_pi, if_neg (by omega), gi_s]
  have k5 : mGi (mPi (mPi (mPi (mPi (mPi (mPi B 107 4 0) 107 5 0) 107 6 0) 107 7 0) 107 8 0) 107 3 (t.length : Int)) 107 5 = 0 := by rw [gi_pi, if_neg (by omega), gi_pi, if_neg (by omega), gi_pi, if_neg (by omega), gi_pi, if_neg (by omega), gi_s]
  have k6 : mGi (mPi (mPi (mPi (mPi (mPi (mPi B 107 4 0) 107 5 0) 107 6 0) 107 7 0) 107 8 0) 107 3 (t.length : Int)) 107 6 = 0 := by rw [gi_pi, if_neg (by omega), gi_pi, if_neg (by omega), gi_pi, if_neg (by omega), gi_s]
  have k7 : mGi (mPi (mPi (mPi (mPi (mPi (mPi B 107 4 0) 107 5 0) 107 6 0) 107 7 0) 107 8 0) 107 3 (t.length : Int)) 107 7 = 0 := by rw [gi_pi, if_neg (by omega), gi_pi, if_neg (by omega), gi_s]
  have k8 : mGi (mPi (mPi (mPi (mPi (mPi (mPi B 107 4 0) 107 5 0) 107 6 0) 107 7 0) 107 8 0) 107 3 (t.length : Int)) 107 8 = 0 := by rw [gi_pi, if_neg (by omega), gi_s]
  have k1 : mGi (mPi (mPi (mPi (mPi (mPi (mPi B 107 4 0) 107 5 0) 107 6 0) 107 7 0) 107 8 0) 107 3 (t.length : Int)) 107 1 = 0 := by rw [gi_pi, if_neg (by omega), gi_pi, if_neg (by omega), gi_pi, if_neg (by omega), gi_pi, if_neg (by omega), gi_pi, if_neg (by omega), gi_pi, if_neg (by omega), gB1]
  have k3 : mGi (mPi (mPi (mPi (mPi (mPi (mPi B 107 4 0) 107 5 0) 107 6 0) 107 7 0) 107 8 0) 107 3 (t.length : Int)) 107 3 = (t.length : Int) := gi_s
  generalize mPi (mPi (mPi (mPi (mPi (mPi B 107 4 0) 107 5 0) 107 6 0) 107 7 0) 107 8 0) 107 3 (t.length : Int) = h1 at *
  obtain ⟨h2, e3, f3, y3⟩ := f39_l ht t.length FU 0 h1 (by omega) (by unfold FU; omega) k3 (sB.fp f2 (fun j => by unfold pR; omega)) (fun j hj => absurd hj (Nat.not_lt_zero _))
  have e3' : F_M_first_39 0 h1 = F_M_first_72 h2 := e3
  rw [e3']
  have zv : RV B h2 (t, [], [], [], n0, n0) 0 := by
    refine ⟨f2.fl.tr (f3.fl.sub fun b i => by unfold pR; omega), ?_, ?_, ⟨?_, by show t.length ≤ 500; omega, y3⟩, ⟨?_, trivial⟩, ⟨?_, ?_, trivial, trivial⟩, ?_, trivial, fun k hk => ?_⟩
    · rw [f3.2.2 107 1 (by omega), k1]
    · rw [f3.2.2 107 4 (by omega), k4]; rfl
    · rw [f3.2.2 107 3 (by omega), k3]
    · rw [f3.2.2 107 5 (by omega), k5]; rfl
    · rw [f3.2.2 107 7 (by omega), k7]; rfl
    · rw [f3.2.2 107 8 (by omega), k8]; rfl
    · rw [f3.2.2 107 6 (by omega), k6]; rfl
    · rcases hk with hk | hk <;> cases hk
  obtain ⟨h', x1, x2, x3, x4, x5, x6, x7, x8⟩ := f72_l 600 FU 0 (t, [], [], [], n0, n0) h2 (by omega) (by unfold FU; omega) zv (wf_0 ht hc)
  rw [gB0] at x2
  exact ⟨h', x1, x2, fB.fl.tr (x3.sub fun b i => by unfold pR pM; omega), x4, x5, x6, x7, x8, by rw [x3.2.2.1 107 27 (by unfold pR; omega)]; exact gB27⟩
/-- a row of characters as a list -/
def rowL (h : MH) (c n : Nat) : List Int := (List.range n).map fun j => mGi h c j
theorem rowL_len {c n : Nat} : (rowL h c n).length = n := by unfold rowL; rw [List.length_map, List.length_range]
theorem rowL_get {c n j : Nat} (hj : j < n) : (rowL h c n).getD j 0 = mGi h c j := by
  unfold rowL
  rw [List.getD_eq_getElem?_getD, List.getElem?_map, List.getElem?_range hj]
  rfl
theorem rowL_seg {c n d : Nat} (e : ∀ j, j < n → mGi h' d j = mGi h c j) : Seg h' d 0 (rowL h c n) := by
  refine Seg.mk fun j hj => ?_
  rw [rowL_len] at hj
  rw [Nat.zero_add, rowL_get hj, e j hj]
theorem twoL.list {a c i b : Nat} {n : Int} {P : Int → Prop} (z : twoL h a c i b n P) : ∃ t : List Int, mGi h a 1 = (t.length : Int) ∧ mGi h 107 i = (t.length : Int) ∧ (t.length : Int) ≤ n ∧ Seg h c 0 t ∧ Seg h b 0 t ∧ ∀ x ∈ t, P x := by
  obtain ⟨z1, z2, z3, z4⟩ := z
  refine ⟨rowL h c (mGi h a 1).toNat, ?_, ?_, ?_, rowL_seg (fun j _ => rfl), rowL_seg (fun j hj => (z4 j (by omega)).1.symm), fun x hx => ?_⟩
  · rw [rowL_len]; omega
  · rw [rowL_len]; omega
  · rw [rowL_len]; omega
  · unfold rowL at hx
    obtain ⟨j, hj, rfl⟩ := List.mem_map.mp hx
    exact (z4 j (by have := List.mem_range.mp hj; omega)).2
theorem twoL.of {a c i b : Nat} {n : Nat} {P : Int → Prop} {t : List Int} (e1 : mGi h a 1 = (t.length : Int)) (e2 : mGi h 107 i = (t.length : Int)) (hl : t.length ≤ n) (s1 : Seg h c 0 t) (s2 : Seg h b 0 t) (hP : ∀ x ∈ t, P x) : twoL h a c i b (n : Int) P := by
  refine ⟨by rw [e1, e2], by omega, by omega, fun j hj => ?_⟩
  have g1 := s1.get j (by omega)
  have g2 := s2.get j (by omega)
  rw [Nat.zero_add] at g1 g2
  refine ⟨by rw [g1, g2], ?_⟩
  rw [g1, List.getD_eq_getElem?_getD, List.getElem?_eq_getElem (by omega)]
  exact hP _ (List.getElem_mem _)
theorem twoL.cg {a c i b : Nat} {n : Int} {P : Int → Prop} (z : twoL h a c i b n P) (e1 : mGi h' a 1 = mGi h a 1) (e2 : mGi h' 107 i = mGi h 107 i) (e3 : ∀ j, mGi h' c j = mGi h c j) (e4 : ∀ j, mGi h' b j = mGi h b j) : twoL h' a c i b n P := by
  obtain ⟨z1, z2, z3, z4⟩ := z
  refine ⟨by rw [e1, e2, z1], by rw [e1]; exact z2, by rw [e1]; exact z3, fun j hj => ?_⟩
  rw [e1] at hj
  rw [e3, e4]
  exact z4 j hj
theorem nRows_c (e : ∀ i, mGr h' 96 i = mGr h 96 i) : nRows h' = nRows h := by
  unfold nRows
  congr 1
  refine List.filter_congr fun j _ => ?_
  rw [e j]
theorem rok_c (E : Ext h h') (g : ∀ i, mGr h' 96 i = mGr h 96 i) (z : rowsOK h) : rowsOK h' := by
  refine ⟨fun j hj r hr => ?_, fun j j' hj hj' hn r r' hr hr' => ?_⟩
  · rw [g] at hr
    exact ⟨(z.1 j hj r hr).1.ext E, (z.1 j hj r hr).2⟩
  · rw [g] at hr hr'
    exact z.2 j j' hj hj' hn r r' hr hr'
/-- what the class's first leaves -/
theorem t_first {k : Nat} (I : Inv k h) (hk : k ≤ 600) {t : List Int} (ht : t.length ≤ 400) (hc : ∀ c ∈ t, lgl c) (e1 : mGi h 1 1 = (t.length : Int)) (s : Seg h 2 0 t) :
    ∃ h1, F_La_first h = some (.inl (if (r1 t).2.1 = 0 then 0 else 1), h1) ∧ (∀ b i, b < 150 → b ∉ CS → ¬ (b = 0 ∧ (i = 3 ∨ i = 4)) → mGi h1 b i = mGi h b i) ∧ (∀ b i, b < 149 → mGl h1 b i = mGl h b i) ∧ (∀ b i, b < 150 → mGr h1 b i = mGr h b i) ∧ h1.1.length ≤ h.1.length + 2 ∧ mSlt h1 ≤ mSlt h + 12 ∧
      mGi h1 0 3 = ((r1 t).2.1 : Int) ∧ mGi h1 0 4 = 0 ∧ mGi h1 3 5 = ((r1 t).2.2 : Int) ∧ mGi h1 4 1 = ((r1 t).1.2.1.length : Int) ∧ Seg h1 5 0 (r1 t).1.2.1 ∧ mGi h1 6 4 = ((r1 t).1.2.2.2.1.length : Int) ∧ permO h1 ∧ ((r1 t).2.1 = 0 → mGl h1 149 0 = (Int32.ofInt ((r1 t).1.2.1.length : Int)).toInt64) := by
  have hl := I.len
  have hrm := I.room hk
  have R : Rm h := ⟨hl, by omega, by omega⟩
  have hb := (run1_gd 600 _ 0 (wf_0 ht hc)).1
  change (r1 t).1.2.1.length ≤ 400 at hb
  obtain ⟨h1, x1, y1⟩ := mill_e (B := h) (wd := n0) (tx := n0) R ht hc e1 s I.2.2.2.2.2.1
  change F_Fm_mill 1 400 h = some (.inl (((r1 t).2.1 : Nat) : Int), h1) at x1
  change ((r1 t).2.1 = 0 ∧ CV h h1 (r1 t).1 (r1 t).2.2) ∨ ((r1 t).2.1 ≠ 0 ∧ CX h h1 (r1 t).1 (r1 t).2.1 (r1 t).2.2) at y1
  unfold F_La_first F_T_first
  rw [x1, bnd_l]
  simp only [sto_e]
  rw [show ∀ v w, mGi (mPi (mPi h1 0 3 v) 0 4 w) 0 3 = v from fun v w => by rw [gi_pi, if_neg (by omega), gi_s]]
  rcases y1 with ⟨y0, z1, z2, z3, z4, z5, z6, m, z7⟩ | ⟨y0, h0, rfl, z1, z2, z3, z4, z5, z6, z7, z8⟩
  · rw [if_pos (by omega), if_pos y0, bndC_l, gd_b (by decide) (by decide)]
    have z41 := z4.len hb
    have f1 : Fr [0] h1 (mPi (mPi h1 0 3 (((r1 t).2.1 : Nat) : Int)) 0 4 0) := Fr.pi (Fr.pi Fr.rf (by simp)) (by simp)
    have f2 : Fr (0 :: CS) h (mPi (mPi h1 0 3 (((r1 t).2.1 : Nat) : Int)) 0 4 0) := (z1.sub (fun b hb => List.mem_cons_of_mem _ hb)).tr (f1.sub (by simp))
    have e41 : mGi (mPi (mPi h1 0 3 (((r1 t).2.1 : Nat) : Int)) 0 4 0) 4 1 = ((r1 t).1.2.1.length : Int) := (f1.2.2 4 (by decide) 1).trans z41
    refine ⟨_, rfl, fun b i hb hn hx => ?_, fun b i hb => ?_, fun b i hb => ?_, ?_, ?_, ?_, ?_, ?_, ?_, ?_, ?_, ?_, ?_⟩
    · rw [gi_pl]
      by_cases d : b = 0
      · subst d
        rw [gi_pi, if_neg (by omega), gi_pi, if_neg (by omega)]
        exact z1.2.2 0 hn i
      · exact f2.2.2 b (by simp; exact ⟨d, hn⟩) i
    · rw [gl_pl, if_neg (by omega)]; exact f2.gl b i
    · exact f2.gr b i
    · show (mPi (mPi h1 0 3 (((r1 t).2.1 : Nat) : Int)) 0 4 0).1.length ≤ _
      rw [f2.1]; omega
    · have : mSlt (mPi (mPi h1 0 3 (((r1 t).2.1 : Nat) : Int)) 0 4 0) = mSlt h := by unfold mSlt; rw [f2.1]
      show mSlt (mPi (mPi h1 0 3 (((r1 t).2.1 : Nat) : Int)) 0 4 0) ≤ _
      omega
    · rw [gi_pl, gi_pi, if_neg (by omega), gi_s]
    · rw [gi_pl, gi_s]
    · rw [gi_pl]; exact (f1.2.2 3 (by decide) 5).trans z3
    · rw [gi_pl]; exact e41
    · exact Seg.cg (fun j _ _ => by rw [gi_pl]) ((z4.seg hb).fr f1 (by decide))
    · rw [gi_pl]; exact (f1.2.2 6 (by decide) 4).trans z7.1
    · exact permO.cg (fun i _ => by rw [gi_pl]; exact f1.2.2 10 (by decide) i) z7.2.1
    · intro _
      rw [gl_pl, if_pos ⟨rfl, rfl⟩, e41]
  · rw [if_neg (by omega), if_neg y0]
    have hl0 : h0.1.length = h.1.length := by rw [z1.1]
    have f1 : Fr [0] (mNew h0 13 6) (mPi (mPi (mNew h0 13 6) 0 3 (((r1 t).2.1 : Nat) : Int)) 0 4 0) := Fr.pi (Fr.pi Fr.rf (by simp)) (by simp)
    have hl1 : (mPi (mPi (mNew h0 13 6) 0 3 (((r1 t).2.1 : Nat) : Int)) 0 4 0).1.length = h.1.length + 1 := by rw [f1.1, lenN, hl0]
    have hs1 : mSlt (mPi (mPi (mNew h0 13 6) 0 3 (((r1 t).2.1 : Nat) : Int)) 0 4 0) = mSlt h + 6 := by
      have q1 : mSlt (mPi (mPi (mNew h0 13 6) 0 3 (((r1 t).2.1 : Nat) : Int)) 0 4 0) = mSlt (mNew h0 13 6) := by unfold mSlt; rw [f1.1]
      have q2 : mSlt h0 = mSlt h := by unfold mSlt; rw [z1.1]
      rw [q1, slt_new, q2]
    have et : (thr 13 (mPi (mPi (mNew h0 13 6) 0 3 (((r1 t).2.1 : Nat) : Int)) 0 4 0) : RS Int) = some (.inr 13, mNew (mPi (mPi (mNew h0 13 6) 0 3 (((r1 t).2.1 : Nat) : Int)) 0 4 0) 13 6) := by
      unfold thr
      exact gd_t ⟨by omega, by omega⟩
    rw [et, bndC_r, gd_t rfl]
    unfold F_La_first_11
    have gi : ∀ b i, b < 150 → ¬ (b = 0 ∧ (i = 3 ∨ i = 4)) → mGi (mNew (mPi (mPi (mNew h0 13 6) 0 3 (((r1 t).2.1 : Nat) : Int)) 0 4 0) 13 6) b i = mGi h0 b i := fun b i hb hx => by
      rw [gi_nw, hl1, if_neg (by omega), gi_pi, if_neg (by omega), gi_pi, if_neg (by omega), gi_nw, hl0, if_neg (by omega)]
    refine ⟨_, rfl, fun b i hb hn hx => ?_, fun b i hb => ?_, fun b i hb => ?_, ?_, ?_, ?_, ?_, ?_, ?_, ?_, ?_, ?_, fun q => absurd q y0⟩
    · rw [gi b i hb hx]; exact z1.2.2 b hn i
    · rw [gl_nw, hl1, if_neg (by omega), gl_pi, gl_pi, gl_nw, hl0, if_neg (by omega)]
      exact z1.gl b i
    · rw [gr_nw, hl1, if_neg (by omega)]
      show mGr (mNew h0 13 6) b i = _
      rw [gr_nw, hl0, if_neg (by omega)]
      exact z1.gr b i
    · rw [lenN, hl1]; omega
    · rw [slt_new, hs1]; omega
    · rw [gi_nw, hl1, if_neg (by omega), gi_pi, if_neg (by omega), gi_s]
    · rw [gi_nw, hl1, if_neg (by omega), gi_s]
    · rw [gi 3 5 (by omega) (by omega), z3]
    · rw [gi 4 1 (by omega) (by omega), z4]
    · exact Seg.cg (fun j _ _ => gi 5 j (by omega) (by omega)) z6
    · rw [gi 6 4 (by omega) (by omega), z7]
    · exact permO.cg (fun i _ => gi 10 i (by omega) (by omega)) z8
theorem first_e {k : Nat} (I : Inv k h) (hk : k ≤ 600) : ∃ x h1 b h2, F_La_first h = some (.inl x, h1) ∧ F_M_first h1 = some (.inl b, h2) ∧ mGi h2 107 0 = x ∧ (x = 0 → mGl h2 149 0 = (Int32.ofInt b).toInt64) ∧ Inv (k + 1) h2 ∧ mSc h2 = mSc h ∧ mSc h1 = mSc h := by
  obtain ⟨L, i1, i2, i3, i4, i5, i6, i7⟩ := id I
  obtain ⟨t, t1, t2, t3, t4, t5, t6⟩ := i1.list
  have ht : t.length ≤ 400 := by omega
  have hg := run1_gd 600 _ 0 (wf_0 ht t6)
  change (r1 t).1.2.1.length ≤ 400 ∧ ∀ c ∈ (r1 t).1.2.1, lgl c at hg
  obtain ⟨h1, x1, g1, g2, g3, g4, g5, a1, a2, a3, a4, a5, a6, a7, a8⟩ := t_first I hk ht t6 t1 t4
  have nCS : ∀ b, 86 ≤ b → b ∉ CS := fun b hb q => by have := mCS.mp q; omega
  have q1 : ∀ b i, b = 1 ∨ b = 2 ∨ (86 ≤ b ∧ b < 150) → mGi h1 b i = mGi h b i := fun b i hb => g1 b i (by omega) (fun q => by have := mCS.mp q; omega) (by omega)
  obtain ⟨h2, x2, b1, b2, b3, b4, b5, b6, b7, b8⟩ := m_first (h := h1) ht t6 ((q1 107 2 (by omega)).trans t2) (Seg.cg (fun j _ _ => q1 108 j (by omega)) t5)
  have E1 := ((S_La_first (d := 96) (by decide) L) _ _ x1).1
  have E2 := ((S_M_first (d := 96) (by decide) (L.ext E1)) _ _ x2).1
  have q2 : ∀ b i, ¬ pM b i → mGi h2 b i = mGi h1 b i := fun b i hb => b2.2.2.1 b i hb
  have ql : ∀ b i, b < 149 → b ≠ 114 → mGl h2 b i = mGl h b i := fun b i h1 h2 => (b2.2.2.2 b i h2).trans (g2 b i h1)
  have qr : ∀ b i, b < 150 → mGr h2 b i = mGr h b i := fun b i hb => by
    have : mGr h2 b i = mGr h1 b i := by show h2.2.2.2.1 b i = h1.2.2.2.1 b i; rw [b2.2.1]
    rw [this, g3 b i hb]
  refine ⟨_, h1, _, h2, x1, x2, b1, fun e => ?_, ⟨(L.ext E1).ext E2, ?_, ?_, ?_, ?_, ?_, ?_, ?_⟩, ?_, E1.2.2.1⟩
  · have e0 : (r1 t).2.1 = 0 := by
      by_cases d : (r1 t).2.1 = 0
      · exact d
      · rw [if_neg d] at e; cases e
    rw [b2.2.2.2 149 0 (by decide), a8 e0, if_pos e0]
  · exact i1.cg ((q2 1 1 (by unfold pM; omega)).trans (q1 1 1 (by omega))) ((q2 107 2 (by unfold pM; omega)).trans (q1 107 2 (by omega))) (fun j => (q2 2 j (by unfold pM; omega)).trans (q1 2 j (by omega))) (fun j => (q2 108 j (by unfold pM; omega)).trans (q1 108 j (by omega)))
  · exact twoL.of (n := 400) ((q2 4 1 (by unfold pM; omega)).trans a4) b5 hg.1 (Seg.cg (fun j _ _ => q2 5 j (by unfold pM; omega)) a5) b6 hg.2
  · exact i3.cg ((q2 101 1 (by unfold pM; omega)).trans (q1 101 1 (by omega))) ((q2 107 26 (by unfold pM; omega)).trans (q1 107 26 (by omega))) (fun j => (q2 102 j (by unfold pM; omega)).trans (q1 102 j (by omega))) (fun j => (q2 122 j (by unfold pM; omega)).trans (q1 122 j (by omega)))
  · obtain ⟨n1, n2, n3, n4, n5, n6⟩ := i4
    refine ⟨?_, ?_, ?_, ?_, ?_, ?_⟩
    · rw [q2 0 3 (by unfold pM; omega), a1, b3]
    · rw [q2 0 4 (by unfold pM; omega), a2, b8]
    · rw [q2 3 5 (by unfold pM; omega), a3, b4]
    · rw [q2 95 3 (by unfold pM; omega), q1 95 3 (by omega), q2 107 28 (by unfold pM; omega), q1 107 28 (by omega)]; exact n4
    · rw [q2 6 4 (by unfold pM; omega), a6, b7]
    · rw [nmF_c (fun i => ql 90 i (by omega) (by omega)), q2 107 32 (by unfold pM; omega), q1 107 32 (by omega)]; exact n6
  · exact permO.cg (fun i _ => q2 10 i (by unfold pM; omega)) a7
  · exact rok_c (E1.tr E2) (fun i => qr 96 i (by omega)) i6
  · unfold Room at i7 ⊢
    rw [nRows_c (fun i => qr 96 i (by omega))]
    have e1 : h2.1 = h1.1 := b2.1
    have e2 : mSlt h2 = mSlt h1 := by unfold mSlt; rw [e1]
    rw [e1, e2]
    omega
  · exact E2.2.2.1.trans E1.2.2.1
end First
