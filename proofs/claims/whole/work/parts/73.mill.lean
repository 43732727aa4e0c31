/-! the class's first mill, the whole run -/
section Mill
variable {B h h0 h' : MH} {m : Nat → Nat} {p : Nat}
def MO1 (B : MH) (x : RS Int) (q : S1 × Nat × Nat) : Prop := ∃ h', x = some (.inl ((q.2.1 : Nat) : Int), h') ∧ ((q.2.1 = 0 ∧ CV B h' q.1 q.2.2) ∨ (q.2.1 ≠ 0 ∧ CX B h' q.1 q.2.1 q.2.2))
theorem CX.m139 {s : S1} {why : Nat} (R : Rm B) (z : CX B h s why p) : F_Fm_mill_139 h = some (.inl ((why : Nat) : Int), h) := by
  obtain ⟨h0, rfl, f, e, -⟩ := z
  have r1 := R.1
  unfold F_Fm_mill_139
  rw [gi_nw, f.1, if_neg (by omega), e]
theorem CX.bad {s : S1} {why : Nat} {x : RS Int} (R : Rm B) (hw : why ≠ 0) (z : CX B h s why p) (hx : x = F_Fm_mill_139 h) : MO1 B x (s, why, p) := ⟨h, by rw [hx]; exact z.m139 R, .inr ⟨hw, z⟩⟩
theorem mill_end {s : S1} (z : CV B h s p) (wf : WF1 s) : MO1 B (F_Fm_mill_121 h) (s, if s.2.2.1 = [] then 0 else 4, p) := by
  obtain ⟨z1, z2, z3, z4, z5, z6, m, z7⟩ := id z
  unfold F_Fm_mill_121
  by_cases c : s.2.2.1 = []
  · have e : mGi h 77 5 = -1 := by have := z6.1; rw [c] at this; exact this
    rw [if_pos c, e, if_pos (by decide)]
    exact ⟨h, rfl, .inl ⟨rfl, z⟩⟩
  · have e : 0 ≤ mGi h 77 5 := by
      rw [z6.1]
      cases hfs : s.2.2.1 with
      | nil => exact absurd hfs c
      | cons x r => rw [List.length_cons]; omega
    have g := z.fail (why := 4)
    rw [show ((4 : Nat) : Int) = 4 from rfl] at g
    rw [if_neg c, if_neg (by omega), g, bndC_r, gd_t rfl]
    exact CX.bad (why := 4) z2 (by decide) (z.cx (why := 4) wf.2.1) rfl
theorem CO.mill {x : RS Unit} {q : S1 × Nat} {K : MH → RS Int} {y : S1 × Nat × Nat} (R : Rm B) (z : CO B p x q) (h1 : q.2 = 0 → ∀ h', CV B h' q.1 p → MO1 B (K h') y) (h2 : q.2 ≠ 0 → y = (q.1, q.2, p)) : MO1 B (bndC x (fun _ h => K h) (fun te hh => gd (te = 13) (F_Fm_mill_139 hh))) y := by
  rcases z with ⟨z1, h', e1, z2⟩ | ⟨z1, h', e1, z2⟩
  · rw [e1, bndC_l]
    exact h1 z1 h' z2
  · rw [e1, bndC_r, gd_t rfl, h2 z1]
    exact CX.bad R z1 z2 rfl
theorem mill_l (R : Rm B) : ∀ (q f k : Nat) (s : S1) (h : MH), k + q = 600 → q + 1 < f → CV B h s k → WF1 s → MO1 B (itr (fun self (q : Int × MH) => F_Fm_mill_41_b (fun v2 h => self (v2, h)) q.1 q.2) f ((k : Int), h)) (run1 q s k) := by
  intro q
  induction q with
  | zero =>
    intro f k s h hk hf z wf
    obtain ⟨f, rfl⟩ : ∃ g, f = g + 1 := ⟨f - 1, by omega⟩
    obtain ⟨z1, z2, z3, z4, z5, z6, m, z7⟩ := id z
    rw [itr_s]
    dsimp only
    rw [F_Fm_mill_41_b, if_neg (by omega), in_empty z5, bndC_l, run1]
    by_cases c : s.1 = []
    · rw [if_pos c, if_neg (by decide), if_pos c]
      exact mill_end z wf
    · rw [if_neg c, if_pos rfl, if_neg c]
      unfold F_Fm_countPiece
      have g := z.fail (why := 2)
      rw [show ((2 : Nat) : Int) = 2 from rfl] at g
      rw [z3, if_neg (by omega), g, bnd_r, bndC_r, gd_t rfl]
      exact CX.bad (why := 2) z2 (by decide) (z.cx (why := 2) wf.2.1) rfl
  | succ q ih =>
    intro f k s h hk hf z wf
    obtain ⟨f, rfl⟩ : ∃ g, f = g + 1 := ⟨f - 1, by omega⟩
    obtain ⟨z1, z2, z3, z4, z5, z6, m, z7⟩ := id z
    rw [itr_s]
    dsimp only
    rw [F_Fm_mill_41_b, if_neg (by omega), in_empty z5, bndC_l, run1]
    by_cases c : s.1 = []
    · rw [if_pos c, if_neg (by decide), if_pos c]
      exact mill_end z wf
    · rw [if_neg c, if_pos rfl, if_neg c]
      have f1 : Fr [3] h (mPi h 3 5 ((k + 1 : Nat) : Int)) := Fr.pi Fr.rf (by simp)
      have zk : CV B (mPi h 3 5 ((k + 1 : Nat) : Int)) s (k + 1) := ⟨z1.tr (f1.sub (by decide)), z2, by rw [gi_pi, if_pos ⟨rfl, rfl⟩], z4.fr f1 (by decide) (by decide), z5.fr f1 (by decide) (by decide), z6.fr f1 (by decide), m, z7.fr f1 (by unfold noD; decide)⟩
      have ec : F_Fm_countPiece h = some (.inl (), mPi h 3 5 ((k + 1 : Nat) : Int)) := by
        unfold F_Fm_countPiece F_Fm_countPiece_15
        rw [z3, if_pos (by omega), gd_rg (by omega) (by omega), show (k : Int) + 1 = ((k + 1 : Nat) : Int) by omega]
        rfl
      rw [ec, bndC_l]
      have wp := wf_piece wf
      have key : ∀ x : RS Unit, CO B (k + 1) x (piece1 s) → MO1 B (bndC x (fun _ h => F_Fm_mill_115 (fun v2 h => itr (fun self (q : Int × MH) => F_Fm_mill_41_b (fun v2 h => self (v2, h)) q.1 q.2) f (v2, h)) (k : Int) h) (fun te hh => gd (te = 13) (F_Fm_mill_139 hh))) (if (piece1 s).2 = 0 then run1 q (piece1 s).1 (k + 1) else ((piece1 s).1, (piece1 s).2, k + 1)) := by
        intro x zx
        refine CO.mill R zx (fun e h' z' => ?_) (fun e => if_neg e)
        rw [if_pos e]
        unfold F_Fm_mill_115
        rw [gd_rg (by omega) (by omega), show (k : Int) + 1 = ((k + 1 : Nat) : Int) by omega]
        exact ih f (k + 1) _ h' (by omega) (by omega) z' (wp.1 e)
      obtain ⟨i, o, fs, ds, wd, tx⟩ := s
      cases i with
      | nil => exact absurd rfl c
      | cons x t =>
        have ea : ∀ h, Inp h (x :: t) → F_In_at 0 h = some (.inl x, h) := fun h z => by
          have q := in_at (k := 0) z (by omega)
          rw [if_pos (by rw [List.length_cons]; omega)] at q
          exact q
        have e0 := ea _ zk.2.2.2.2.1
        rw [e0, bndC_l]
        by_cases c1 : x = 96
        · rw [if_pos c1]
          subst c1
          exact key _ (cf_quo zk wf.2.1 wf.2.2.1)
        · rw [if_neg c1, e0, bndC_l, isWS_e, bndC_l]
          by_cases c2 : cL x = true
          · rw [if_neg (by rw [bI_0, c2]; decide)]
            refine key _ ?_
            have ep : piece1 (x :: t, o, fs, ds, wd, tx) = word1 (x :: t) o fs ds wd tx := by
              rw [piece1, if_neg c1, if_pos c2]
            rw [ep]
            exact cf_word zk wf
          · rw [if_pos (by rw [bI_0]; exact Bool.eq_false_iff.mpr c2), e0, bndC_l]
            refine key _ ?_
            have ep : piece1 (x :: t, o, fs, ds, wd, tx) = sing1 x t o ds wd tx fs := by
              rw [piece1, if_neg c1, if_neg c2]
            rw [ep]
            exact cf_char zk wf
theorem em_l : ∀ (q f k : Nat) (h : MH), k + q = 16 → q < f → (∀ j, j < k → mGi h 9 j = 0) → ∃ h', itr (fun self (q : Int × MH) => F_De_empty_7_b (fun v1 h => self (v1, h)) q.1 q.2) f ((k : Int), h) = some (.inl (), h') ∧ Fr [9] h h' ∧ ∀ j, j < 16 → mGi h' 9 j = 0 := by
  intro q
  induction q with
  | zero =>
    intro f k h hk hf z
    obtain ⟨f, rfl⟩ : ∃ g, f = g + 1 := ⟨f - 1, by omega⟩
    refine ⟨h, ?_, Fr.rf, fun j hj => z j (by omega)⟩
    rw [itr_s]
    dsimp only
    rw [F_De_empty_7_b, if_pos (by omega)]
  | succ q ih =>
    intro f k h hk hf z
    obtain ⟨f, rfl⟩ : ∃ g, f = g + 1 := ⟨f - 1, by omega⟩
    obtain ⟨h1, e1, f1, y1⟩ := ih f (k + 1) (mPi h 9 k 0) (by omega) (by omega) (fun j hj => by
      rw [gi_pi]
      by_cases c : j = k
      · rw [if_pos ⟨rfl, c⟩]
      · rw [if_neg (by omega)]; exact z j (by omega))
    refine ⟨h1, ?_, (Fr.pi Fr.rf (by simp)).tr f1, y1⟩
    rw [itr_s]
    dsimp only
    rw [F_De_empty_7_b, if_neg (by omega), gd_b (by omega) (by omega), Int.toNat_natCast, sto_e, gd_rg (by omega) (by omega), show (k : Int) + 1 = ((k + 1 : Nat) : Int) by omega]
    exact e1
/-- the mill on a text -/
theorem mill_e {t : List Int} {wd tx : Nat → List Int} (R : Rm B) (ht : t.length ≤ 400) (hc : ∀ c ∈ t, lgl c) (e1 : mGi B 1 1 = (t.length : Int)) (s : Seg B 2 0 t) (pm : permO B) : MO1 B (F_Fm_mill 1 400 B) (run1 600 (t, [], [], [], wd, tx) 0) := by
  obtain ⟨h1, x1, f1, y1⟩ := let_empty (a := 4) (n := 400) (h := B)
  have f2 : Fr [6, 9] h1 (mPi h1 6 4 0) := Fr.pi Fr.rf (by simp)
  obtain ⟨h2, x2, f3, y2⟩ := em_l 16 FU 0 (mPi h1 6 4 0) (by omega) (by unfold FU; omega) (fun j hj => absurd hj (Nat.not_lt_zero _))
  have f23 : Fr [6, 9] h1 h2 := f2.tr (f3.sub (by decide))
  have f4 : Fr [77, 78] h2 (mPi h2 77 5 (-1)) := Fr.pi Fr.rf (by simp)
  obtain ⟨h3, x3, f5, y3⟩ := let_empty (a := 78) (n := 200) (h := mPi h2 77 5 (-1))
  have f45 : Fr [77, 78] h2 h3 := f4.tr (f5.sub (by decide))
  have fA : Fr [4, 6, 9, 77, 78] B h3 := ((f1.sub (by decide)).tr (f23.sub (by decide))).tr (f45.sub (by decide))
  obtain ⟨h4, x4, f6, y4⟩ := in_take (h := h3) ht ((fA.2.2 1 (by decide) 1).trans e1) (s.fr fA (by decide))
  have f7 : Fr [3] h4 (mPi (mPi h4 3 5 0) 3 6 0) := Fr.pi (Fr.pi Fr.rf (by simp)) (by simp)
  have fB : Fr [4, 6, 9, 75, 76, 77, 78] B h4 := (fA.sub (by decide)).tr (f6.sub (by decide))
  have fC : Fr [3, 4, 6, 9, 75, 76, 77, 78] B (mPi (mPi h4 3 5 0) 3 6 0) := (fB.sub (by decide)).tr (f7.sub (by decide))
  have f67 : Fr [3, 75, 76] h3 (mPi (mPi h4 3 5 0) 3 6 0) := (f6.sub (by decide)).tr (f7.sub (by decide))
  have f4567 : Fr [3, 75, 76, 77, 78] h2 (mPi (mPi h4 3 5 0) 3 6 0) := (f45.sub (by decide)).tr (f67.sub (by decide))
  have q := mill_l R 600 FU 0 (t, [], [], [], wd, tx) (mPi (mPi h4 3 5 0) 3 6 0) (by omega) (by unfold FU; omega) ⟨fC.sub (by decide), R, ?_, ?_, ?_, ?_, fun _ => 0, ?_, ?_, trivial, trivial, ?_, ?_, ?_⟩ ⟨?_, by simp, by simp [flat], by simp, by simp, trivial, ?_, hc, by simp, by simp [flat]⟩
  · unfold F_Fm_mill F_De_empty F_Ar_empty
    rw [x1, bnd_l]
    simp only [sto_e]
    have x2' : F_De_empty_7 0 (mPi h1 6 4 0) = some (.inl (), h2) := x2
    rw [x2', bnd_l, x3, bnd_l, bnd_l, x4, bnd_l]
    exact q
  · rw [gi_pi, if_neg (by decide), gi_pi, if_pos ⟨rfl, rfl⟩]; rfl
  · exact (y1.fr f23 (by decide) (by decide)).fr f4567 (by decide) (by decide)
  · exact y4.fr f7 (by decide) (by decide)
  · refine ⟨?_, y3.fr f67 (by decide) (by decide), trivial⟩
    rw [f67.2.2 77 (by decide), f5.2.2 77 (by decide), gi_pi, if_pos ⟨rfl, rfl⟩]
    rfl
  · rw [f4567.2.2 6 (by decide), f3.2.2 6 (by decide), gi_pi, if_pos ⟨rfl, rfl⟩]
    rfl
  · exact permO.cg (fun i _ => fC.2.2 10 (by decide) i) pm
  · intro s hs
    rw [f4567.2.2 9 (by decide), y2 s hs]
    rfl
  · intro k hk
    rcases hk with hk | hk <;> cases hk
  · intro k k' hk
    rcases hk with hk | hk <;> cases hk
  · show t.length ≤ 500; omega
  · intro k hk
    rcases hk with hk | hk <;> cases hk
end Mill
