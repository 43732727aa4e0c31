/-! the class's Input -/
section Inp
def Inp (h : MH) (i : List Int) : Prop := mGi h 75 1 = ((500 - i.length : Nat) : Int) ∧ i.length ≤ 500 ∧ Seg h 76 (500 - i.length) i
variable {h h' : MH} {i : List Int}
theorem Inp.fr {S : List Nat} (z : Inp h i) (f : Fr S h h') (h1 : 75 ∉ S) (h2 : 76 ∉ S) : Inp h' i := ⟨(f.2.2 75 h1 1).trans z.1, z.2.1, z.2.2.fr f h2⟩
theorem in_empty (z : Inp h i) : F_In_isEmpty h = some (.inl (if i = [] then 1 else 0), h) := by
  unfold F_In_isEmpty
  rw [z.1]
  cases i with
  | nil => rfl
  | cons x t => rw [if_pos (by rw [List.length_cons]; omega), if_neg (by simp)]
theorem in_at {k : Nat} (z : Inp h i) (hk : k ≤ 500) : F_In_at (k : Int) h = some (.inl (if k < i.length then i.getD k 0 else -1), h) := by
  have hl := z.2.1
  unfold F_In_at
  rw [z.1, gd_rg (by omega) (by omega)]
  by_cases c : k < i.length
  · rw [if_neg (by omega), gd_b (by omega) (by omega), if_pos c, show (((500 - i.length : Nat) : Int) + (k : Int)).toNat = 500 - i.length + k by omega, z.2.2.get k c]
  · rw [if_pos (by omega), if_neg c]
theorem in_drop {k : Nat} (z : Inp h i) (hk : k ≤ 1000) : ∃ h', F_In_drop (k : Int) h = some (.inl (), h') ∧ Fr [75] h h' ∧ Inp h' (i.drop k) := by
  have hl := z.2.1
  refine ⟨mPi h 75 1 ((500 - (i.drop k).length : Nat) : Int), ?_, Fr.pi Fr.rf (by simp), ?_, ?_, ?_⟩
  · unfold F_In_drop
    rw [z.1, gd_rg (by omega) (by omega), sto_e, List.length_drop]
    congr 3
    split <;> omega
  · rw [gi_pi, if_pos ⟨rfl, rfl⟩]
  · rw [List.length_drop]; omega
  · refine Seg.pio ?_ (.inl (by decide))
    by_cases c : k ≤ i.length
    · have q := z.2.2.drop k c
      rw [List.length_drop, show 500 - (i.length - k) = 500 - i.length + k by omega]
      exact q
    · rw [List.drop_of_length_le (by omega)]
      trivial
theorem dl_l : ∀ (t : List Int) (f p : Nat), t.length < f → p + t.length = 500 → Seg h 76 p t → ∃ h', itr (fun self (q : Int × MH) => F_In_dropLine_5_b (fun v1 h => self (v1, h)) q.1 q.2) f ((p : Int), h) = some (.inl (), h') ∧ h' = mPi h 75 1 ((500 - (dropLn t).length : Nat) : Int) := by
  intro t
  induction t with
  | nil =>
    intro f p hf hp s
    obtain ⟨f, rfl⟩ : ∃ g, f = g + 1 := ⟨f - 1, by omega⟩
    refine ⟨_, ?_, rfl⟩
    rw [List.length_nil] at hp
    rw [itr_s]
    dsimp only
    rw [F_In_dropLine_5_b, if_pos (by omega)]
    unfold F_In_dropLine_29
    rw [gd_rg (by omega) (by omega), sto_e, if_pos (by omega)]
    rfl
  | cons x t ih =>
    intro f p hf hp s
    obtain ⟨f, rfl⟩ : ∃ g, f = g + 1 := ⟨f - 1, by omega⟩
    rw [List.length_cons] at hp hf
    rw [itr_s]
    dsimp only
    rw [F_In_dropLine_5_b, if_neg (by omega), gd_b (by omega) (by omega), Int.toNat_natCast, s.1]
    by_cases c : x = 10
    · refine ⟨_, ?_, rfl⟩
      rw [if_pos c]
      unfold F_In_dropLine_29
      rw [gd_rg (by omega) (by omega), sto_e, dropLn, if_pos c]
      congr 3
      split <;> omega
    · rw [if_neg c, gd_rg (by omega) (by omega), dropLn, if_neg c]
      exact ih f (p + 1) (by omega) (by omega) s.2
theorem dropLn_suf : ∀ (t : List Int), ∃ k, k ≤ t.length ∧ dropLn t = t.drop k
  | [] => ⟨0, Nat.le_refl _, rfl⟩
  | x :: t => by
    unfold dropLn
    by_cases c : x = 10
    · rw [if_pos c]; exact ⟨1, by rw [List.length_cons]; omega, rfl⟩
    · rw [if_neg c]
      obtain ⟨k, hk, e⟩ := dropLn_suf t
      exact ⟨k + 1, by rw [List.length_cons]; omega, e⟩
theorem in_dropLine (z : Inp h i) : ∃ h', F_In_dropLine h = some (.inl (), h') ∧ Fr [75] h h' ∧ Inp h' (dropLn i) := by
  have hl := z.2.1
  obtain ⟨h1, e1, e2⟩ := dl_l (h := h) i FU (500 - i.length) (by unfold FU; omega) (by omega) z.2.2
  obtain ⟨k, hk, ek⟩ := dropLn_suf i
  refine ⟨h1, ?_, ?_, ?_⟩
  · unfold F_In_dropLine
    rw [z.1]
    exact e1
  · rw [e2]; exact Fr.pi Fr.rf (by simp)
  · rw [e2]
    refine ⟨?_, ?_, ?_⟩
    · rw [gi_pi, if_pos ⟨rfl, rfl⟩]
    · rw [ek, List.length_drop]; omega
    · refine Seg.pio ?_ (.inl (by decide))
      have q := z.2.2.drop k hk
      rw [ek, List.length_drop, show 500 - (i.length - k) = 500 - i.length + k by omega]
      exact q
theorem ql_l {v : Nat} (e : mGi h 75 1 = (v : Int)) : ∀ (t : List Int) (f p : Nat) (d : Int), t.length < f → p + t.length = 500 → v ≤ p → -(p : Int) ≤ d → d ≤ p → Seg h 76 p t →
    itr (fun self (q : Int × Int × MH) => F_In_quotedLength_7_b (fun v1 v2 h => self (v1, v2, h)) q.1 q.2.1 q.2.2) f (d, (p : Int), h) = some (.inl (match qgo d t with | none => 0 | some n => ((p + n - v : Nat) : Int)), h) := by
  intro t
  induction t with
  | nil =>
    intro f p d hf hp hv d0 d1 s
    obtain ⟨f, rfl⟩ : ∃ g, f = g + 1 := ⟨f - 1, by omega⟩
    rw [List.length_nil] at hp
    rw [itr_s]
    dsimp only
    rw [F_In_quotedLength_7_b, if_pos (by omega)]
    rfl
  | cons x t ih =>
    intro f p d hf hp hv d0 d1 s
    obtain ⟨f, rfl⟩ : ∃ g, f = g + 1 := ⟨f - 1, by omega⟩
    rw [List.length_cons] at hp hf
    have key : ∀ d' : Int, -(p : Int) - 1 ≤ d' → d' ≤ (p : Int) + 1 → (if c : d' = 0 then some 1 else (qgo d' t).map (· + 1)) = qgo d (x :: t) →
        F_In_quotedLength_45 (fun v1 v2 h => itr (fun self (q : Int × Int × MH) => F_In_quotedLength_7_b (fun v1 v2 h => self (v1, v2, h)) q.1 q.2.1 q.2.2) f (v1, v2, h)) d' (p : Int) h = some (.inl (match qgo d (x :: t) with | none => 0 | some n => ((p + n - v : Nat) : Int)), h) := by
      intro d' k0 k1 kq
      unfold F_In_quotedLength_45
      by_cases c : d' = 0
      · rw [if_pos c, gd_rg (by omega) (by omega), e, gd_rg (by omega) (by omega), ← kq, dif_pos c]
        simp only
        congr 3
        omega
      · rw [if_neg c, gd_rg (by omega) (by omega), ← kq, dif_neg c]
        have r := ih f (p + 1) d' (by omega) (by omega) (by omega) (by omega) (by omega) s.2
        rw [show ((p + 1 : Nat) : Int) = (p : Int) + 1 by omega] at r
        refine Eq.trans r ?_
        cases qgo d' t with
        | none => rfl
        | some n =>
          simp only [Option.map_some]
          congr 3
          omega
    rw [itr_s]
    dsimp only
    rw [F_In_quotedLength_7_b, if_neg (by omega), gd_b (by omega) (by omega), Int.toNat_natCast, s.1]
    by_cases c1 : x = 96
    · rw [if_pos c1, gd_rg (by omega) (by omega)]
      exact key (d + 1) (by omega) (by omega) (by rw [qgo, if_pos c1]; split <;> simp_all)
    · rw [if_neg c1]
      by_cases c2 : x = 39
      · rw [if_pos c2, gd_rg (by omega) (by omega)]
        exact key (d + -1) (by omega) (by omega) (by rw [qgo, if_neg c1, if_pos c2, show d - 1 = d + -1 by omega]; split <;> simp_all)
      · rw [if_neg c2]
        exact key d (by omega) (by omega) (by rw [qgo, if_neg c1, if_neg c2]; split <;> simp_all)
theorem in_quoted {t : List Int} (z : Inp h (96 :: t)) : F_In_quotedLength h = some (.inl (match qgo 1 t with | none => 0 | some n => ((n + 1 : Nat) : Int)), h) := by
  have hl := z.2.1
  have r := ql_l (h := h) (v := 500 - (96 :: t : List Int).length) z.1 (96 :: t) FU (500 - (96 :: t : List Int).length) 0 (by unfold FU; omega) (by omega) (Nat.le_refl _) (by omega) (by omega) z.2.2
  unfold F_In_quotedLength
  rw [z.1]
  refine Eq.trans r ?_
  have e : qgo 0 (96 :: t) = (qgo 1 t).map (· + 1) := by rw [qgo, if_pos rfl, if_neg (by decide)]; rfl
  rw [e]
  cases qgo 1 t with
  | none => rfl
  | some n =>
    simp only [Option.map_some]
    congr 3
    omega
theorem in_come {c : List Int} (z : Inp h i) (y : Let h 84 500 c) (hc : c.length + i.length ≤ 500) : ∃ h', F_In_comeAhead 84 500 h = some (.inl 1, h') ∧ Fr [75, 76] h h' ∧ Inp h' (c ++ i) := by
  have hl := z.2.1
  have e1 := y.len (by omega)
  have e2 := y.2.2
  rw [if_neg (by omega)] at e2
  have g1 : ∀ x, mGi (mPi h 75 1 x) 84 1 = (c.length : Int) := fun x => by rw [gi_pi, if_neg (by decide), e1]
  have g2 : ∀ x, mGi (mPi h 75 1 x) 75 1 = x := fun x => by rw [gi_pi, if_pos ⟨rfl, rfl⟩]
  refine ⟨mCpI (mPi h 75 1 ((500 - (c ++ i).length : Nat) : Int)) 85 76 0 (500 - (c ++ i).length) c.length, ?_, Fr.cp (Fr.pi Fr.rf (by simp)) (by simp), ?_, ?_, ?_⟩
  · unfold F_In_comeAhead
    rw [e2, if_pos rfl, e1, z.1, if_pos (by omega), gd_rg (by omega) (by omega)]
    simp only [sto_e]
    rw [g1, g2, gd_cp (by omega) (by omega) (by omega) (by omega) (by omega)]
    rw [List.length_append, show ((500 - i.length : Nat) : Int) - (c.length : Int) = ((500 - (c.length + i.length) : Nat) : Int) by omega, Int.toNat_natCast, Int.toNat_natCast]
    rfl
  · rw [gi_cp, if_neg (by omega), gi_pi, if_pos ⟨rfl, rfl⟩]
  · rw [List.length_append]; exact hc
  · rw [Seg.app]
    refine ⟨?_, ?_⟩
    · have q : Seg (mPi h 75 1 ((500 - (c ++ i).length : Nat) : Int)) 85 0 c := Seg.pio (y.seg (by omega)) (.inl (by decide))
      exact Seg.cp q
    · rw [List.length_append, show 500 - (c.length + i.length) + c.length = 500 - i.length by omega]
      exact Seg.cpo (Seg.pio z.2.2 (.inl (by decide))) (by omega)
theorem in_come0 {c : List Int} (z : Inp h i) (y : Let h 84 500 c) (hc : 500 < c.length + i.length) : F_In_comeAhead 84 500 h = some (.inl 0, h) := by
  have hl := z.2.1
  unfold F_In_comeAhead
  rw [y.2.2]
  by_cases c1 : 500 < c.length
  · rw [if_pos c1, if_neg (by decide)]
  · rw [if_neg c1, if_pos rfl, y.len (by omega), z.1, if_neg (by omega)]
theorem in_take {c : List Int} (hc : c.length ≤ 400) (e : mGi h 1 1 = (c.length : Int)) (s : Seg h 2 0 c) : ∃ h', F_In_take 1 400 h = some (.inl (), h') ∧ Fr [75, 76] h h' ∧ Inp h' c := by
  have g1 : ∀ x, mGi (mPi h 75 1 x) 1 1 = (c.length : Int) := fun x => by rw [gi_pi, if_neg (by decide), e]
  have g2 : ∀ x, mGi (mPi h 75 1 x) 75 1 = x := fun x => by rw [gi_pi, if_pos ⟨rfl, rfl⟩]
  refine ⟨mCpI (mPi h 75 1 ((500 - c.length : Nat) : Int)) 2 76 0 (500 - c.length) c.length, ?_, Fr.cp (Fr.pi Fr.rf (by simp)) (by simp), ?_, ?_, ?_⟩
  · unfold F_In_take
    rw [e, gd_rg (by omega) (by omega)]
    simp only [sto_e]
    rw [g1, g2, gd_cp (by omega) (by omega) (by omega) (by omega) (by omega)]
    rw [show (500 : Int) - (c.length : Int) = ((500 - c.length : Nat) : Int) by omega, Int.toNat_natCast, Int.toNat_natCast]
    rfl
  · rw [gi_cp, if_neg (by omega), gi_pi, if_pos ⟨rfl, rfl⟩]
  · omega
  · have q : Seg (mPi h 75 1 ((500 - c.length : Nat) : Int)) 2 0 c := Seg.pio s (.inl (by decide))
    exact Seg.cp q
end Inp
