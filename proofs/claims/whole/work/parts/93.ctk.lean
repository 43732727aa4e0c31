/-! the class's tokens -/
section Ctk
def hC (g : Nat) (H : Hd) : Prop := g < 256 ∧ ∀ k, k < 8 → g.testBit k = H k
def mB (m : Bool) : Nat := if m = true then 1 else 0
/-- a long is this token, its characters below M -/
def TC (h : MH) (M : Nat) (v : Int64) (t : Tk) (m : Bool) : Prop := ∃ s g, isC v t.1 s t.2.1.length g (mB m) ∧ hC g t.2.2 ∧ Seg h 88 s t.2.1 ∧ s + t.2.1.length ≤ M ∧ M ≤ 1302
variable {h h' : MH} {M M' : Nat} {v v' : Int64} {t t' : Tk} {m m' : Bool}
theorem TC.cg (z : TC h M v t m) (e : ∀ j, j < M → mGi h' 88 j = mGi h 88 j) (h1 : M ≤ M') (h2 : M' ≤ 1302) : TC h' M' v t m := by
  obtain ⟨s, g, z1, z2, z3, z4, z5⟩ := z
  exact ⟨s, g, z1, z2, Seg.cg (fun j _ hj => e j (by omega)) z3, by omega, h2⟩
theorem to_kind (z : TC h M v t m) : F_To_kind v h = some (.inl (t.1 : Int), h) := by
  obtain ⟨s, g, z1, -⟩ := z
  unfold F_To_kind
  rw [z1.kind]
theorem to_len (z : TC h M v t m) : F_To_length v h = some (.inl (t.2.1.length : Int), h) := by
  obtain ⟨s, g, z1, -⟩ := z
  unfold F_To_length
  rw [z1.len]
theorem to_same (z : TC h M v t m) (z' : TC h M v' t' m') : F_To_same v v' h = some (.inl (if t.2.1 = t'.2.1 then 1 else 0), h) := by
  unfold F_To_same F_To_same_41
  rw [to_len z, bnd_l, to_len z', bnd_l]
  obtain ⟨s, g, z1, -, z3, z4, z5⟩ := z
  obtain ⟨s', g', z1', -, z3', z4', z5'⟩ := z'
  by_cases c : t.2.1.length = t'.2.1.length
  · rw [if_pos (by rw [c])]
    unfold F_To_start F_To_length
    rw [z1.start, bnd_l, z1'.start, bnd_l, z1.len, bnd_l, al_e (by decide) (by decide) c rfl (by omega) (by omega) z3 z3', bnd_l]
    by_cases d : t.2.1 = t'.2.1
    · rw [if_pos d, if_neg (by decide)]
    · rw [if_neg d, if_pos rfl]
  · rw [if_neg (by omega), if_neg (fun q => c (by rw [q]))]
theorem to_is {k : Nat} (z : TC h M v t m) (hk : mSLen.getD k 0 = (strL k).length) : F_To_is v k h = some (.inl (if t.2.1 = strL k then 1 else 0), h) := by
  obtain ⟨s, g, z1, -, z3, z4, z5⟩ := z
  unfold F_To_is F_To_start F_To_length
  rw [z1.start, bnd_l, z1.len, bnd_l, sp_e hk (by decide) rfl (by omega) z3, bnd_l]
theorem to_sign {c : Int} (z : TC h M v t m) : F_To_isSign v c h = some (.inl (bI (isSg t c)), h) := by
  unfold F_To_isSign F_To_isSign_33
  rw [to_kind z, bnd_l, to_len z, bnd_l]
  obtain ⟨s, g, z1, -, z3, z4, z5⟩ := z
  unfold F_To_start
  rw [z1.start, bnd_l]
  unfold isSg
  by_cases c1 : t.1 = 4
  · rw [if_pos (by omega)]
    by_cases c2 : t.2.1.length = 1
    · rw [if_pos (by omega), gd_b (by omega) (by omega), Int.toNat_natCast]
      obtain ⟨x, hx⟩ : ∃ x, t.2.1 = [x] := by
        cases hq : t.2.1 with
        | nil => rw [hq] at c2; cases c2
        | cons a l =>
          rw [hq] at c2
          have : l = [] := List.eq_nil_of_length_eq_zero (by simpa using c2)
          exact ⟨a, by rw [this]⟩
      rw [hx] at z3
      rw [z3.1]
      by_cases c3 : x = c
      · rw [if_pos c3, decide_eq_true ⟨c1, by rw [hx, c3]⟩]; rfl
      · rw [if_neg c3, decide_eq_false (fun q => c3 (by rw [hx] at q; simpa using q.2))]; rfl
    · rw [if_neg (by omega), decide_eq_false (fun q => c2 (by rw [q.2]; rfl))]; rfl
  · rw [if_neg (by omega), decide_eq_false (fun q => c1 q.1)]; rfl
theorem str13 : strL 13 = [35, 35] ∧ mSLen.getD 13 0 = (strL 13).length := by decide +kernel
theorem to_jn (z : TC h M v t m) : F_To_isJoiner v h = some (.inl (bI (isJn t.1 t.2.1)), h) := by
  unfold F_To_isJoiner F_To_isJoiner_22
  rw [to_kind z, bnd_l, to_is z str13.2, bnd_l, str13.1]
  unfold isJn
  by_cases c1 : t.1 = 4
  · rw [if_pos (by omega)]
    by_cases c2 : t.2.1 = [35, 35]
    · rw [if_pos c2, if_neg (by decide), decide_eq_true ⟨c1, c2⟩]; rfl
    · rw [if_neg c2, if_pos rfl, decide_eq_false (fun q => c2 q.2)]; rfl
  · rw [if_neg (by omega), decide_eq_false (fun q => c1 q.1)]; rfl
theorem TC.none : TC h 402 0 nTk false := ⟨0, 0, isC.zero, ⟨by decide, fun k _ => by rw [Nat.zero_testBit]; rfl⟩, trivial, by decide, by decide⟩
theorem TC.none' (h1 : M ≤ 1302) : TC h M 0 nTk false := ⟨0, 0, isC.zero, ⟨by decide, fun k _ => by rw [Nat.zero_testBit]; rfl⟩, trivial, by show 0 + 0 ≤ M; omega, h1⟩
/-! scan -/
theorem pair_e {a b : Int} : F_To_isPair a b h = some (.inl (bI (prB a b)), h) := by
  by_cases c : b = 61
  · have e : prB a b = decide (a = 61 ∨ a = 33 ∨ a = 60 ∨ a = 62) := by unfold prB; rw [if_pos c]
    rw [e]
    simp only [F_To_isPair, F_To_isPair_30, F_To_isPair_71, F_To_isPair_75, bI, decide_eq_true_eq, if_pos c]
    (repeat' split) <;> first | rfl | (exfalso; omega)
  · have e : prB a b = decide (a = b ∧ (a = 35 ∨ a = 38 ∨ a = 124 ∨ a = 60 ∨ a = 62)) := by unfold prB; rw [if_neg c]
    rw [e]
    simp only [F_To_isPair, F_To_isPair_30, F_To_isPair_71, F_To_isPair_75, bI, decide_eq_true_eq, if_neg c]
    (repeat' split) <;> first | rfl | (exfalso; omega)
theorem sc_109 {p : Nat} {l : List Int} (hl : l ≠ []) (hp : p + l.length ≤ 1302) (z : Seg h 88 p l) (hr : 0 ≤ l.getD 0 0 ∧ l.getD 0 0 < 65536) : ∃ v, F_To_scan_109 (p : Int) ((p + l.length : Nat) : Int) (l.getD 0 0) h = some (.inl v, h) ∧ isC v 4 p (sgn l) 0 0 := by
  have hl1 : 1 ≤ l.length := by
    cases l with
    | nil => exact absurd rfl hl
    | cons x t => simp
  have tok : ∀ n : Nat, n < 1303 → ∃ v, F_To_scan_138 4 (p : Int) (n : Int) h = some (.inl v, h) ∧ isC v 4 p n 0 0 := fun n hn => ⟨_, rfl, isC.mk (k := 4) (s := p) (n := n) (by decide) (by omega) hn⟩
  unfold F_To_scan_109 F_To_scan_137
  rw [gd_rg (by omega) (by omega)]
  unfold sgn
  by_cases c : l.length = 1
  · rw [if_pos (by omega), if_neg (fun q => by omega)]
    exact tok 1 (by decide)
  · rw [if_neg (by omega), gd_b (by omega) (by omega), gd_b hr.1 hr.2, pair_e, bnd_l, show ((p : Int) + 1).toNat = p + 1 by omega, z.get 1 (by omega)]
    by_cases d : prB (l.getD 0 0) (l.getD 1 0) = true
    · rw [if_neg (by rw [bI_0, d]; decide), if_pos ⟨by omega, d⟩]
      exact tok 2 (by decide)
    · rw [if_pos (by rw [bI_0]; exact Bool.eq_false_iff.mpr d), if_neg (fun q => d q.2)]
      exact tok 1 (by decide)
theorem qIdx_le : ∀ {t : List Int} {k : Nat}, qIdx t = some k → k < t.length
  | [], _, e => by cases e
  | c :: t, k, e => by
    rw [qIdx] at e
    by_cases d : c = 34
    · rw [if_pos d] at e
      cases e
      simp
    · rw [if_neg d] at e
      cases q : qIdx t with
      | none => rw [q] at e; cases e
      | some j =>
        rw [q] at e
        simp only [Option.map_some, Option.some.injEq] at e
        have := qIdx_le q
        rw [List.length_cons]
        omega
theorem sc_67 {p : Nat} {l : List Int} (hl : l ≠ []) (hp : p + l.length ≤ 1302) (z : Seg h 88 p l) (h34 : l.getD 0 0 = 34) : ∀ (t : List Int) (f j : Nat), t.length < f → j + t.length = p + l.length → p < j → Seg h 88 j t →
    (∀ k, qIdx t = some k → ∃ v, itr (fun self (q : Int × Int × Int × Int × MH) => F_To_scan_67_b (fun v1 v2 v3 v5 h => self (v1, v2, v3, v5, h)) q.1 q.2.1 q.2.2.1 q.2.2.2.1 q.2.2.2.2) f ((p : Int), ((p + l.length : Nat) : Int), 34, (j : Int), h) = some (.inl v, h) ∧ isC v 3 p (j + k + 1 - p) 0 0) ∧
    (qIdx t = none → ∃ v, itr (fun self (q : Int × Int × Int × Int × MH) => F_To_scan_67_b (fun v1 v2 v3 v5 h => self (v1, v2, v3, v5, h)) q.1 q.2.1 q.2.2.1 q.2.2.2.1 q.2.2.2.2) f ((p : Int), ((p + l.length : Nat) : Int), 34, (j : Int), h) = some (.inl v, h) ∧ isC v 4 p (sgn l) 0 0) := by
  intro t
  induction t with
  | nil =>
    intro f j hf hj hpj s
    obtain ⟨f, rfl⟩ : ∃ g, f = g + 1 := ⟨f - 1, by omega⟩
    rw [List.length_nil] at hj
    refine ⟨fun k e => (by cases e), fun _ => ?_⟩
    rw [itr_s]
    dsimp only
    rw [F_To_scan_67_b, if_pos rfl, if_pos (by omega)]
    have q := sc_109 (h := h) hl hp z (by rw [h34]; decide)
    rw [h34] at q
    exact q
  | cons x t ih =>
    intro f j hf hj hpj s
    obtain ⟨f, rfl⟩ : ∃ g, f = g + 1 := ⟨f - 1, by omega⟩
    rw [List.length_cons] at hj hf
    rw [itr_s]
    dsimp only
    rw [F_To_scan_67_b, if_pos rfl, if_neg (by omega), gd_b (by omega) (by omega), Int.toNat_natCast, s.1, qIdx]
    by_cases c : x = 34
    · rw [if_pos c, if_pos c, gd_rg (by omega) (by omega), gd_rg (by omega) (by omega)]
      refine ⟨fun k e => ?_, fun e => (by cases e)⟩
      cases e
      refine ⟨_, rfl, ?_⟩
      have q := isC.mk (k := 3) (s := p) (n := j + 0 + 1 - p) (by decide) (by omega) (by omega)
      rw [show ((j + 0 + 1 - p : Nat) : Int) = (j : Int) + 1 - (p : Int) by omega] at q
      exact q
    · rw [if_neg c, if_neg c, gd_rg (by omega) (by omega), show (j : Int) + 1 = ((j + 1 : Nat) : Int) by omega]
      obtain ⟨i1, i2⟩ := ih f (j + 1) (by omega) (by omega) (by omega) s.2
      refine ⟨fun k e => ?_, fun e => ?_⟩
      · cases q : qIdx t with
        | none => rw [q] at e; cases e
        | some n =>
          rw [q] at e
          simp only [Option.map_some, Option.some.injEq] at e
          obtain ⟨v, e1, e2⟩ := i1 n q
          refine ⟨v, e1, ?_⟩
          rw [show j + k + 1 - p = j + 1 + n + 1 - p by omega]
          exact e2
      · cases q : qIdx t with
        | none => exact i2 q
        | some n => rw [q] at e; cases e
theorem sc_10 {p : Nat} {l : List Int} {c : Int} : ∀ (t : List Int) (f j : Nat), t.length < f → j + t.length = p + l.length → p + l.length ≤ 1302 → Seg h 88 j t → itr (fun self (q : Int × Int × Int × Int × MH) => F_To_scan_10_b (fun v1 v2 v3 v4 h => self (v1, v2, v3, v4, h)) q.1 q.2.1 q.2.2.1 q.2.2.2.1 q.2.2.2.2) f ((p : Int), ((p + l.length : Nat) : Int), c, (j : Int), h) = F_To_scan_35 (p : Int) ((p + l.length : Nat) : Int) c ((j + (t.takeWhile cP).length : Nat) : Int) h := by
  intro t
  induction t with
  | nil =>
    intro f j hf hj hp s
    obtain ⟨f, rfl⟩ : ∃ g, f = g + 1 := ⟨f - 1, by omega⟩
    rw [List.length_nil] at hj
    rw [itr_s]
    dsimp only
    rw [F_To_scan_10_b, if_pos (by omega)]
    rfl
  | cons x t ih =>
    intro f j hf hj hp s
    obtain ⟨f, rfl⟩ : ∃ g, f = g + 1 := ⟨f - 1, by omega⟩
    rw [List.length_cons] at hj hf
    rw [itr_s]
    dsimp only
    rw [F_To_scan_10_b, if_neg (by omega), gd_b (by omega) (by omega), isWP_e, bnd_l, Int.toNat_natCast, s.1, List.takeWhile_cons]
    by_cases d : cP x = true
    · rw [if_neg (by rw [bI_0, d]; decide), if_pos d, gd_rg (by omega) (by omega), show (j : Int) + 1 = ((j + 1 : Nat) : Int) by omega, List.length_cons, show j + ((t.takeWhile cP).length + 1) = j + 1 + (t.takeWhile cP).length by omega]
      exact ih f (j + 1) (by omega) (by omega) hp s.2
    · rw [if_pos (by rw [bI_0]; exact Bool.eq_false_iff.mpr d), if_neg d]
      rfl
theorem to_scan {p : Nat} {l : List Int} (hl : l ≠ []) (hp : p + l.length ≤ 1302) (z : Seg h 88 p l) (hr : 0 ≤ l.getD 0 0 ∧ l.getD 0 0 < 65536) : ∃ v, F_To_scan (p : Int) ((p + l.length : Nat) : Int) h = some (.inl v, h) ∧ isC v (scn l).1 p (scn l).2 0 0 := by
  have hl1 : 1 ≤ l.length := by
    cases l with
    | nil => exact absurd rfl hl
    | cons x t => simp
  have hle : (l.takeWhile cP).length ≤ l.length := List.Sublist.length_le (List.takeWhile_sublist _)
  have e0 := z.get 0 (by omega)
  rw [Nat.add_zero] at e0
  unfold F_To_scan F_To_scan_10
  rw [gd_b (by omega) (by omega), Int.toNat_natCast, e0, sc_10 l FU p (by unfold FU; omega) rfl hp z]
  unfold F_To_scan_35 scn
  by_cases c : 0 < (l.takeWhile cP).length
  · rw [if_neg (by omega), if_pos c, isDg_e, bnd_l]
    unfold F_To_scan_53
    rw [show ((p + (l.takeWhile cP).length : Nat) : Int) - (p : Int) = ((l.takeWhile cP).length : Int) by omega]
    by_cases d : cD (l.getD 0 0) = true
    · rw [if_neg (by rw [bI_0, d]; decide), if_pos d, gd_rg (by omega) (by omega)]
      exact ⟨_, rfl, isC.mk (k := 2) (s := p) (n := (l.takeWhile cP).length) (by decide) (by omega) (by omega)⟩
    · rw [if_pos (by rw [bI_0]; exact Bool.eq_false_iff.mpr d), if_neg d, gd_rg (by omega) (by omega)]
      exact ⟨_, rfl, isC.mk (k := 1) (s := p) (n := (l.takeWhile cP).length) (by decide) (by omega) (by omega)⟩
  · rw [if_pos (by omega), if_neg c, gd_rg (by omega) (by omega)]
    by_cases d : l.getD 0 0 = 34
    · rw [if_pos d]
      have hd : Seg h 88 (p + 1) (l.drop 1) := z.drop 1 hl1
      obtain ⟨i1, i2⟩ := sc_67 (h := h) hl hp z d (l.drop 1) FU (p + 1) (by rw [List.length_drop]; unfold FU; omega) (by rw [List.length_drop]; omega) (by omega) hd
      rw [d, show (p : Int) + 1 = ((p + 1 : Nat) : Int) by omega]
      cases q : qIdx (l.drop 1) with
      | none => exact i2 q
      | some k =>
        obtain ⟨v, e1, e2⟩ := i1 k q
        refine ⟨v, e1, ?_⟩
        rw [show p + 1 + k + 1 - p = k + 2 by omega] at e2
        exact e2
    · rw [if_neg d]
      unfold F_To_scan_67
      rw [show FU = 99999999 + 1 from rfl, itr_s]
      dsimp only
      rw [F_To_scan_67_b, if_neg d]
      exact sc_109 hl hp z hr
end Ctk
