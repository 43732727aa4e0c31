/-! spoilt values, and the signs that settle -/
section Dm
variable {vs r : VS} {sg : List Int} {s st : Int} {a b v : Int64 × Bool}
def stl (s : Int) (a : Int64) : Bool := decide ((s = 9766 ∧ a = 0) ∨ (s = 31868 ∧ a ≠ 0))
def nS : List Int → VS → Nat
  | [], _ => 0
  | s :: sg, vs => if s < 65536 ∧ s ≠ 40 then (match vs with
      | a :: r => (if stl s a.1 = true then 1 else 0) + nS sg r
      | [] => 0) else nS sg vs
def fin' : List Int → VS → Prop
  | [], _ => True
  | s :: sg, vs => if s < 65536 ∧ s ≠ 40 then (match vs with
      | a :: r => (a.2 = true → 0 < nS sg r) ∧ fin' sg r
      | [] => True) else fin' sg vs
def finV (sg : List Int) : VS → Prop
  | [] => True
  | v :: r => (v.2 = true → 0 < nS sg r) ∧ fin' sg r
theorem nS_b (c : s < 65536) (c4 : s ≠ 40) : nS (s :: sg) (a :: r) = (if stl s a.1 = true then 1 else 0) + nS sg r := by rw [nS, if_pos ⟨c, c4⟩]
theorem nS_u (c : ¬ (s < 65536 ∧ s ≠ 40)) : nS (s :: sg) vs = nS sg vs := by rw [nS.eq_def]; dsimp only; rw [if_neg c]
theorem fin_b (c : s < 65536) (c4 : s ≠ 40) : fin' (s :: sg) (a :: r) ↔ (a.2 = true → 0 < nS sg r) ∧ fin' sg r := by rw [fin', if_pos ⟨c, c4⟩]
theorem fin_u (c : ¬ (s < 65536 ∧ s ≠ 40)) : fin' (s :: sg) vs ↔ fin' sg vs := by rw [fin'.eq_def]; dsimp only; rw [if_neg c]
theorem finV_u (c : ¬ (s < 65536 ∧ s ≠ 40)) : finV (s :: sg) (v :: r) ↔ finV sg (v :: r) := by
  unfold finV
  dsimp only
  rw [nS_u c, fin_u c]
/-- two values become one -/
theorem finV_b (c : s < 65536) (c4 : s ≠ 40) : finV sg (apB s a b :: r) ↔ finV (s :: sg) (b :: a :: r) ∧ ¬ (((s = 47 ∨ s = 37) ∧ b.1 = 0) ∧ nS sg r = 0) := by
  unfold finV
  dsimp only
  rw [nS_b c c4, fin_b c c4]
  show ((spl s a b = true → 0 < nS sg r) ∧ fin' sg r) ↔ _
  have e : (spl s a b = true) ↔ (a.2 = true ∨ ((s = 47 ∨ s = 37) ∧ b.1 = 0) ∨ (b.2 = true ∧ ¬ stl s a.1 = true)) := by
    unfold spl stl
    rw [Bool.or_eq_true, Bool.or_eq_true, decide_eq_true_eq, Bool.and_eq_true, Bool.not_eq_true', decide_eq_false_iff_not, decide_eq_true_eq, or_assoc]
  rw [e]
  constructor
  · rintro ⟨h1, h2⟩
    refine ⟨⟨fun hb => ?_, fun ha => h1 (.inl ha), h2⟩, fun q => ?_⟩
    · by_cases cs : stl s a.1 = true
      · rw [if_pos cs]; omega
      · rw [if_neg cs]
        have := h1 (.inr (.inr ⟨hb, cs⟩))
        omega
    · have := h1 (.inr (.inl q.1))
      omega
  · rintro ⟨⟨h1, h2, h3⟩, h4⟩
    refine ⟨fun q => ?_, h3⟩
    rcases q with q | q | ⟨q1, q2⟩
    · exact h2 q
    · exact Nat.pos_of_ne_zero (fun q' => h4 ⟨q, q'⟩)
    · have := h1 q1
      rw [if_neg q2] at this
      omega
theorem finV_a : finV sg ((apA s v.1, v.2) :: r) ↔ finV sg (v :: r) := Iff.rfl
theorem strn_neg {s : Int} (z : sgP s) : 0 ≤ strn s ∧ (strn s < 1 → s = 40) := by
  have : 0 ≤ strn s := by
    rcases z.1 with q | q
    · exact (strn_b q.2).2
    · rw [strn_u q]; decide
  exact ⟨this, fun q => z.2 (by omega)⟩
theorem apd_p (h1 : 1 ≤ st) : ∀ (sg : List Int) (v : Int64 × Bool) (r : VS), (∀ s ∈ sg, sgP s) → r.length = bin sg → ∃ v' r' sg', apd st sg (v :: r) = (v' :: r', sg') ∧ r'.length = bin sg' ∧ (∀ s ∈ sg', sgP s) ∧ (∀ x q, sg' = x :: q → strn x < st) ∧ (¬ finV sg (v :: r) → ¬ finV sg' (v' :: r')) := by
  intro sg
  induction sg with
  | nil =>
    intro v r w hb
    refine ⟨v, r, [], ?_, hb, w, fun x q e => (by cases e), id⟩
    rw [apd]
  | cons s sg ih =>
    intro v r w hb
    have ws := w s List.mem_cons_self
    have w' : ∀ x ∈ sg, sgP x := fun x hx => w x (List.mem_cons_of_mem _ hx)
    by_cases c : st ≤ strn s
    · by_cases c2 : 65536 ≤ s
      · rw [bin_u (by omega)] at hb
        obtain ⟨v', r', sg', a1, a2, a3, a4, a5⟩ := ih (apA (s - 65536) v.1, v.2) r w' hb
        rw [apd_u c c2]
        exact ⟨v', r', sg', a1, a2, a3, a4, fun q => a5 (fun y => q ((finV_u (by omega)).mpr y))⟩
      · have h40 : s ≠ 40 := fun q => by rw [q, strn_40] at c; omega
        rw [bin_c (by omega) h40] at hb
        cases r with
        | nil => rw [List.length_nil] at hb; omega
        | cons a r =>
          rw [List.length_cons] at hb
          obtain ⟨v', r', sg', a1, a2, a3, a4, a5⟩ := ih (apB s a v) r w' (by omega)
          rw [apd_b c c2]
          exact ⟨v', r', sg', a1, a2, a3, a4, fun q => a5 (fun y => q ((finV_b (by omega) h40).mp y).1)⟩
    · rw [apd_n c]
      exact ⟨v, r, s :: sg, rfl, hb, w, fun x q e => by cases e; omega, id⟩
/-- what is spoilt and not settled stays so -/
theorem doom_l : ∀ (L : List Tk) (due : Bool) (vs : VS) (sg : List Int), (∀ s ∈ sg, sgP s) → vs.length = bin sg + (if due = true then 0 else 1) → (∀ t ∈ L, okT t) → ¬ (if due = true then fin' sg vs else finV sg vs) → evE due vs sg (kx L) = none := by
  intro L
  induction L with
  | nil =>
    intro due vs sg w hb ok hn
    cases due with
    | true => rfl
    | false =>
      rw [if_neg (show ¬ false = true by decide)] at hb hn
      cases vs with
      | nil => rw [List.length_nil] at hb; omega
      | cons v r =>
        rw [List.length_cons] at hb
        obtain ⟨v', r', sg', a1, a2, a3, a4, a5⟩ := apd_p (st := 1) (by decide) sg v r w (by omega)
        have q := a5 hn
        show (match apd 1 sg (v :: r) with | ([(v, false)], []) => some v | _ => none) = none
        rw [a1]
        obtain ⟨x, bx⟩ := v'
        cases sg' with
        | cons y sg' => cases r' <;> cases bx <;> rfl
        | nil =>
          cases r' with
          | cons y r' => cases bx <;> rfl
          | nil =>
            cases bx with
            | true => rfl
            | false => exact absurd ⟨fun e => (by cases e), trivial⟩ q
  | cons t L ih =>
    intro due vs sg w hb ok hn
    have ok' : ∀ x ∈ L, okT x := fun x hx => ok x (List.mem_cons_of_mem _ hx)
    obtain ⟨s0, s1⟩ := sgOf_r (ok t List.mem_cons_self)
    obtain ⟨k, x, H⟩ := t
    have s0' : 0 ≤ sgOf k x := s0
    have s1' : sgOf k x < 65536 := s1
    have ekx : kx ((k, x, H) :: L) = (k, x) :: kx L := rfl
    rw [ekx]
    cases due with
    | true =>
      rw [if_pos rfl] at hn hb
      rw [Nat.add_zero] at hb
      rw [evE]
      have val : ∀ z : Int64, evE false ((z, false) :: vs) sg (kx L) = none := fun z => ih false _ sg w (by rw [List.length_cons, if_neg (show ¬ false = true by decide)]; omega) ok' (by
        rw [if_neg (show ¬ false = true by decide)]
        exact fun q => hn q.2)
      have sgn' : ∀ s, sgP s → ¬ (s < 65536 ∧ s ≠ 40) → evE true vs (s :: sg) (kx L) = none := fun s hs hu => ih true vs (s :: sg) (fun y hy => by
        rcases List.mem_cons.mp hy with q | q
        · rw [q]; exact hs
        · exact w y q) (by rw [if_pos rfl, bin_u hu]; omega) ok' (by
          rw [if_pos rfl]
          exact fun q => hn ((fin_u hu).mp q))
      split
      · exact val 0
      · split
        · split
          · rfl
          · exact val _
        · split
          · rename_i q
            have hs : sgW (sgOf k x + 65536) := by unfold sgW; omega
            refine sgn' _ ⟨hs, fun q' => ?_⟩ (by omega)
            rw [strn_u (by omega)] at q'
            omega
          · split
            · exact sgn' 40 ⟨.inl ⟨by decide, by decide⟩, fun _ => rfl⟩ (by omega)
            · rfl
    | false =>
      rw [if_neg (show ¬ false = true by decide)] at hb hn
      cases vs with
      | nil => rw [List.length_nil] at hb; omega
      | cons v r =>
        rw [List.length_cons] at hb
        rw [evE]
        by_cases c41 : sgOf k x = 41
        · rw [if_pos c41]
          obtain ⟨v', r', sg', a1, a2, a3, a4, a5⟩ := apd_p (st := 1) (by decide) sg v r w (by omega)
          rw [a1]
          cases sg' with
          | nil => rfl
          | cons y sg' =>
            have hy : y = 40 := (strn_neg (a3 y List.mem_cons_self)).2 (a4 y sg' rfl)
            have hu : ¬ (y < 65536 ∧ y ≠ 40) := by omega
            dsimp only
            refine ih false (v' :: r') sg' (fun z hz => a3 z (List.mem_cons_of_mem _ hz)) (by rw [List.length_cons, if_neg (show ¬ false = true by decide), a2, bin_u hu]) ok' ?_
            rw [if_neg (show ¬ false = true by decide)]
            exact fun q => a5 hn ((finV_u hu).mpr q)
        rw [if_neg c41]
        by_cases c0 : strn (sgOf k x) = 0
        · rw [if_pos c0]
        · rw [if_neg c0]
          have h40 : sgOf k x ≠ 40 := fun q => c0 (by rw [q]; exact strn_40)
          have hb1 := strn_b s1'
          obtain ⟨v', r', sg', a1, a2, a3, a4, a5⟩ := apd_p (st := strn (sgOf k x)) (by omega) sg v r w (by omega)
          rw [a1]
          dsimp only
          refine ih true (v' :: r') (sgOf k x :: sg') (fun z hz => ?_) (by rw [List.length_cons, if_pos rfl, a2, bin_c s1' h40]) ok' ?_
          · rcases List.mem_cons.mp hz with q | q
            · rw [q]; exact ⟨.inl ⟨s0', s1'⟩, fun q' => absurd q' c0⟩
            · exact a3 z q
          · rw [if_pos rfl]
            exact fun q => a5 hn ((fin_b s1' h40).mp q)
theorem strn_2 (h1 : s < 65536) : (strn s = 2 ↔ s = 9766) ∧ (strn s = 1 ↔ s = 31868) := by
  unfold strn
  refine ⟨⟨fun q => ?_, fun q => ?_⟩, ⟨fun q => ?_, fun q => ?_⟩⟩
  · repeat' split at q
    all_goals first | assumption | (exfalso; revert q; decide) | omega
  · subst q; decide
  · repeat' split at q
    all_goals first | assumption | (exfalso; revert q; decide) | omega
  · subst q; decide
end Dm
