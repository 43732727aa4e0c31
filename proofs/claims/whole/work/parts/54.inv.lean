section Inv
/-- how many rows of tokens there are -/
def nRows (h : MH) : Nat := ((List.range 8).filter fun j => (mGr h 96 j).isSome).length
theorem nRows_le (h : MH) : nRows h ≤ 8 := Nat.le_trans (List.length_filter_le _ _) (by simp)
def Room (k : Nat) (h : MH) : Prop := h.1.length ≤ 150 + 4 * k + 5 * nRows h ∧ mSlt h ≤ 24656 + 24 * k + 1412 * nRows h
def rowsOK (h : MH) : Prop := (∀ j, j < 8 → ∀ r, mGr h 96 j = some r → RoO h r ∧ 150 ≤ r) ∧ ∀ j j', j < 8 → j' < 8 → j ≠ j' → ∀ r r', mGr h 96 j = some r → mGr h 96 j' = some r' → r + 5 ≤ r' ∨ r' + 5 ≤ r
/-- two rows of letters, the class's and the reference's -/
def twoL (h : MH) (a c i b : Nat) (n : Int) (P : Int → Prop) : Prop := mGi h a 1 = mGi h 107 i ∧ 0 ≤ mGi h a 1 ∧ mGi h a 1 ≤ n ∧ ∀ j : Nat, (j : Int) < mGi h a 1 → mGi h c j = mGi h b j ∧ P (mGi h c j)
/-- how many names: those from k on -/
def nmF (h : MH) : Nat → Nat → Int
  | 0, _ => 0
  | m + 1, k => (if mGl h 90 k = 0 then 0 else 1) + nmF h m (k + 1)
def nums (h : MH) : Prop := mGi h 0 3 = mGi h 107 1 ∧ mGi h 0 4 = mGi h 107 27 ∧ mGi h 3 5 = mGi h 107 4 ∧ mGi h 95 3 = mGi h 107 28 ∧ mGi h 6 4 = mGi h 107 6 ∧ nmF h 8 0 = mGi h 107 32
def permO (h : MH) : Prop := (∀ k, k < 16 → 0 ≤ mGi h 10 k ∧ mGi h 10 k < 16) ∧ ∀ k k', k < 16 → k' < 16 → mGi h 10 k = mGi h 10 k' → k = k'
/-- what holds between two calls -/
def Inv (k : Nat) (h : MH) : Prop := LayC h ∧ twoL h 1 2 2 108 400 lgl ∧ twoL h 4 5 5 110 400 lgl ∧ twoL h 101 102 26 122 600 (fun _ => True) ∧ nums h ∧ permO h ∧ rowsOK h ∧ Room k h
theorem Inv.lay {k : Nat} {h : MH} (I : Inv k h) : LayC h := I.1
theorem Inv.len {k : Nat} {h : MH} (I : Inv k h) : 150 ≤ h.1.length := (List.getElem?_eq_some_iff.mp (I.1.sh (a := 149) (x := (103, 1)) rfl)).1
theorem Inv.room {k : Nat} {h : MH} (I : Inv k h) (hk : k ≤ 600) : h.1.length + 100 ≤ mCM ∧ mSlt h + 15000 ≤ mSM := by
  have z := I.2.2.2.2.2.2.2
  have n := nRows_le h
  unfold Room at z
  unfold mCM mSM
  omega
/-- below 150 only ints of these cells differ -/
def Sm (S : List Nat) (h h' : MH) : Prop := Ext h h' ∧ (∀ b, b < 150 → b ∉ S → ∀ i, mGi h' b i = mGi h b i) ∧ (∀ b, b < 149 → ∀ i, mGl h' b i = mGl h b i) ∧ (∀ b, b < 150 → ∀ i, mGr h' b i = mGr h b i)
theorem Sm.fr {S : List Nat} {h h' : MH} (e : Ext h h') (f : Fr S h h') : Sm S h h' := ⟨e, fun b _ hb i => f.2.2 b hb i, fun b _ i => f.gl b i, fun b _ i => f.gr b i⟩
theorem Sm.tr {S S' : List Nat} {h h' h'' : MH} (a : Sm S h h') (b : Sm S' h' h'') : Sm (S ++ S') h h'' := by
  refine ⟨a.1.tr b.1, fun c hc hs i => ?_, fun c hc i => (b.2.2.1 c hc i).trans (a.2.2.1 c hc i), fun c hc i => (b.2.2.2 c hc i).trans (a.2.2.2 c hc i)⟩
  rw [List.mem_append, not_or] at hs
  exact (b.2.1 c hc hs.2 i).trans (a.2.1 c hc hs.1 i)
theorem Sm.new {h : MH} {t n : Nat} (hl : 150 ≤ h.1.length) : Sm [] h (mNew h t n) := by
  refine ⟨.new, fun b hb _ i => ?_, fun b hb i => ?_, fun b hb i => ?_⟩
  · rw [gi_nw, if_neg (by omega)]
  · rw [gl_nw, if_neg (by omega)]
  · rw [gr_nw, if_neg (by omega)]
theorem Sm.out {h : MH} {x : Int64} : Sm [] h (mPl h 149 0 x) := by
  refine ⟨.pl, fun b hb _ i => rfl, fun b hb i => ?_, fun b hb i => rfl⟩
  rw [gl_pl, if_neg (by omega)]
theorem Sm.sub {S S' : List Nat} {h h' : MH} (f : Sm S h h') (hs : ∀ b, b ∈ S → b ∈ S') : Sm S' h h' := ⟨f.1, fun b hb hn i => f.2.1 b hb (fun q => hn (hs b q)) i, f.2.2⟩
theorem Sm.rows {S : List Nat} {h h' : MH} (f : Sm S h h') : nRows h' = nRows h := by
  unfold nRows
  congr 1
  refine List.filter_congr fun j _ => ?_
  rw [f.2.2.2 96 (by decide) j]
theorem nmF_c {h h' : MH} (f : ∀ i, mGl h' 90 i = mGl h 90 i) : ∀ m k, nmF h' m k = nmF h m k
  | 0, _ => rfl
  | m + 1, k => by unfold nmF; rw [f k, nmF_c f m (k + 1)]
theorem Sm.rok {S : List Nat} {h h' : MH} (f : Sm S h h') (z : rowsOK h) : rowsOK h' := by
  have g := f.2.2.2 96 (by decide)
  refine ⟨fun j hj r hr => ?_, fun j j' hj hj' hn r r' hr hr' => ?_⟩
  · rw [g] at hr
    exact ⟨(z.1 j hj r hr).1.ext f.1, (z.1 j hj r hr).2⟩
  · rw [g] at hr hr'
    exact z.2 j j' hj hj' hn r r' hr hr'
/-- a call that changed the text alone (and what the reference has of it) -/
theorem Inv.text {k k' : Nat} {S : List Nat} {h h' : MH} (I : Inv k h) (f : Sm S h h') (hS : ∀ b ∈ [0, 3, 4, 5, 6, 10, 95, 101, 102, 110, 122], b ∉ S) (hm : ∀ i, i ≠ 0 → i ≠ 2 → mGi h' 107 i = mGi h 107 i) (ht : twoL h' 1 2 2 108 400 lgl)
    (r1 : h'.1.length + 4 * k ≤ h.1.length + 4 * k') (r2 : mSlt h' + 24 * k ≤ mSlt h + 24 * k') : Inv k' h' := by
  obtain ⟨L, -, i2, i3, i4, i5, i6, i7⟩ := I
  have g : ∀ b ∈ [0, 3, 4, 5, 6, 10, 95, 101, 102, 110, 122], b < 150 → ∀ i, mGi h' b i = mGi h b i := fun b hb hl i => f.2.1 b hl (hS b hb) i
  refine ⟨L.ext f.1, ht, ?_, ?_, ?_, ?_, f.rok i6, ?_⟩
  · obtain ⟨a1, a2, a3, a4⟩ := i2
    refine ⟨?_, ?_, ?_, fun j hj => ?_⟩
    · rw [g 4 (by decide) (by decide), hm 5 (by decide) (by decide)]; exact a1
    · rw [g 4 (by decide) (by decide)]; exact a2
    · rw [g 4 (by decide) (by decide)]; exact a3
    · rw [g 4 (by decide) (by decide)] at hj
      rw [g 5 (by decide) (by decide), g 110 (by decide) (by decide)]
      exact a4 j hj
  · obtain ⟨a1, a2, a3, a4⟩ := i3
    refine ⟨?_, ?_, ?_, fun j hj => ?_⟩
    · rw [g 101 (by decide) (by decide), hm 26 (by decide) (by decide)]; exact a1
    · rw [g 101 (by decide) (by decide)]; exact a2
    · rw [g 101 (by decide) (by decide)]; exact a3
    · rw [g 101 (by decide) (by decide)] at hj
      rw [g 102 (by decide) (by decide), g 122 (by decide) (by decide)]
      exact a4 j hj
  · obtain ⟨a1, a2, a3, a4, a5, a6⟩ := i4
    refine ⟨?_, ?_, ?_, ?_, ?_, ?_⟩
    · rw [g 0 (by decide) (by decide), hm 1 (by decide) (by decide)]; exact a1
    · rw [g 0 (by decide) (by decide), hm 27 (by decide) (by decide)]; exact a2
    · rw [g 3 (by decide) (by decide), hm 4 (by decide) (by decide)]; exact a3
    · rw [g 95 (by decide) (by decide), hm 28 (by decide) (by decide)]; exact a4
    · rw [g 6 (by decide) (by decide), hm 6 (by decide) (by decide)]; exact a5
    · rw [nmF_c (f.2.2.1 90 (by decide)), hm 32 (by decide) (by decide)]; exact a6
  · refine ⟨fun k hk => ?_, fun k k' hk hk' e => ?_⟩
    · rw [g 10 (by decide) (by decide)]; exact i5.1 k hk
    · rw [g 10 (by decide) (by decide), g 10 (by decide) (by decide)] at e
      exact i5.2 k k' hk hk' e
  · unfold Room at i7 ⊢
    rw [f.rows]
    omega
theorem slt_new {h : MH} {t n : Nat} : mSlt (mNew h t n) = mSlt h + n := by
  unfold mSlt mNew
  rw [List.map_append, List.sum_append]
  rfl
theorem lenN {h : MH} {t n : Nat} : (mNew h t n).1.length = h.1.length + 1 := by
  show (h.1 ++ [(t, n)]).length = _
  rw [List.length_append]
  rfl
theorem thr_e {ρ : Type} {k te : Nat} {h : MH} (I : Inv k h) (hk : k ≤ 600) : (thr te h : RS ρ) = some (.inr te, mNew h te 6) := by
  have z := I.room hk
  unfold thr
  exact gd_t ⟨by omega, by omega⟩
/-! clear -/
theorem clear_e {k : Nat} {h : MH} (I : Inv k h) : ∃ x h1 h2, F_T_clear h = some (.inl x, h1) ∧ F_M_clear h1 = some (.inl x, h2) ∧ Inv (k + 1) h2 := by
  obtain ⟨t1, t2, t3, t4⟩ := I.2.1
  have hT : F_T_clear h = some (.inl (mGi h 1 1), mPi (mPi h 1 1 0) 1 2 0) := by
    unfold F_T_clear F_Le_empty
    rfl
  have hM : F_M_clear (mPi (mPi h 1 1 0) 1 2 0) = some (.inl (mGi h 1 1), mPi (mPi (mPi (mPi h 1 1 0) 1 2 0) 107 0 0) 107 2 0) := by
    unfold F_M_clear
    simp only [sto_e]
    rw [gi_pi, if_neg (by decide), gi_pi, if_neg (by decide), gi_pi, if_neg (by decide), t1]
  refine ⟨_, _, _, hT, hM, ?_⟩
  have eT := ((S_T_clear (d := 10) (by decide) I.lay) _ _ hT).1
  have eM := ((S_M_clear (d := 10) (by decide) (I.lay.ext eT)) _ _ hM).1
  refine I.text (S := [1, 107]) (Sm.fr (eT.tr eM) (Fr.pi (Fr.pi (Fr.pi (Fr.pi Fr.rf (by decide)) (by decide)) (by decide)) (by decide))) (by decide) (fun i h1 h2 => ?_) ⟨?_, ?_, ?_, fun j hj => ?_⟩ ?_ ?_
  · rw [gi_pi, if_neg (by omega), gi_pi, if_neg (by omega), gi_pi, if_neg (by omega), gi_pi, if_neg (by omega)]
  · rfl
  · exact Int.le_refl 0
  · exact (by decide : (0 : Int) ≤ 400)
  · exact absurd (show (j : Int) < 0 from hj) (by omega)
  · show h.1.length + 4 * k ≤ h.1.length + 4 * (k + 1); omega
  · show mSlt h + 24 * k ≤ mSlt h + 24 * (k + 1); omega
end Inv
