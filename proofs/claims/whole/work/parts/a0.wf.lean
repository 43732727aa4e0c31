/-! tokens as they are cut -/
section Wf2
def tkW (t : Tk) : Prop := t = nTk ∨ (t.2.1 ≠ [] ∧ (∀ c ∈ t.2.1, lgl c) ∧ ((t.1 = 1 ∧ cL (t.2.1.getD 0 0) = true) ∨ (t.1 = 2 ∧ cD (t.2.1.getD 0 0) = true) ∨ (t.1 = 3 ∧ t.2.1.getD 0 0 = 34) ∨ (t.1 = 4 ∧ cP (t.2.1.getD 0 0) = false ∧ (t.2.1.length = 1 ∨ (t.2.1.length = 2 ∧ prB (t.2.1.getD 0 0) (t.2.1.getD 1 0) = true)))))
theorem tkW_n : tkW nTk := .inl rfl
theorem tkW.ok {t : Tk} (z : tkW t) : okT t := by
  rcases z with rfl | ⟨h1, h2, -⟩
  · exact okT_n
  · exact ⟨h2, fun q => absurd q h1⟩
theorem tkW.hd {k : Nat} {x : List Int} {g g' : Hd} (z : tkW (k, x, g)) (hx : x ≠ []) : tkW (k, x, g') := by
  rcases z with e | z
  · have : x = [] := congrArg (fun t : Tk => t.2.1) e
    exact absurd this hx
  · exact .inr z
theorem tkW.k {t : Tk} (z : tkW t) : t.1 < 5 := by
  rcases z with rfl | ⟨-, -, q | q | q | q⟩
  · show (0 : Nat) < 5; decide
  all_goals omega
theorem prB_34 (b : Int) : prB 34 b = false := by
  unfold prB
  split
  · exact decide_eq_false (by omega)
  · exact decide_eq_false (fun q => by omega)
theorem cP_i {c : Int} : cP c = true ↔ cL c = true ∨ cD c = true := by
  unfold cP cL cD
  simp only [decide_eq_true_eq]
  omega
theorem cL_D {c : Int} (z : cL c = true) : cD c = false := by
  unfold cL at z
  unfold cD
  rw [decide_eq_true_eq] at z
  exact decide_eq_false (fun q => by omega)
theorem tw_0 {l : List Int} : 0 < (l.takeWhile cP).length ↔ (l ≠ [] ∧ cP (l.getD 0 0) = true) := by
  cases l with
  | nil => exact ⟨fun q => absurd q (by decide), fun q => absurd rfl q.1⟩
  | cons x t =>
    rw [List.takeWhile_cons]
    show _ ↔ _ ∧ cP x = true
    by_cases d : cP x = true
    · rw [if_pos d, List.length_cons]
      exact ⟨fun _ => ⟨by simp, d⟩, fun _ => by omega⟩
    · rw [if_neg d]
      exact ⟨fun q => absurd q (by decide), fun q => absurd q.2 d⟩
theorem tk_0 {l : List Int} {n : Nat} (hn : 1 ≤ n) : (l.take n).getD 0 0 = l.getD 0 0 := by
  obtain ⟨m, rfl⟩ : ∃ m, n = m + 1 := ⟨n - 1, by omega⟩
  cases l <;> rfl
theorem scn_W {l : List Int} {g : Hd} (hl : l ≠ []) (ok : ∀ c ∈ l, lgl c) : tkW ((scn l).1, l.take (scn l).2, g) := by
  obtain ⟨k1, k2⟩ := scn_len hl
  have hlen : (l.take (scn l).2).length = (scn l).2 := by rw [List.length_take]; omega
  refine .inr ⟨fun q => ?_, fun c hc => ok c (List.mem_of_mem_take hc), ?_⟩
  · have q' : l.take (scn l).2 = [] := q
    rw [q'] at hlen
    have : (0 : Nat) = (scn l).2 := hlen
    omega
  show ((scn l).1 = 1 ∧ cL ((l.take (scn l).2).getD 0 0) = true) ∨ ((scn l).1 = 2 ∧ cD ((l.take (scn l).2).getD 0 0) = true) ∨ ((scn l).1 = 3 ∧ (l.take (scn l).2).getD 0 0 = 34) ∨ ((scn l).1 = 4 ∧ cP ((l.take (scn l).2).getD 0 0) = false ∧ ((l.take (scn l).2).length = 1 ∨ ((l.take (scn l).2).length = 2 ∧ prB ((l.take (scn l).2).getD 0 0) ((l.take (scn l).2).getD 1 0) = true)))
  rw [tk_0 k1, hlen]
  have key : (scn l).1 = 4 → (scn l).2 = sgn l → cP (l.getD 0 0) = false → ((scn l).2 = 1 ∨ ((scn l).2 = 2 ∧ prB (l.getD 0 0) ((l.take (scn l).2).getD 1 0) = true)) := by
    intro _ e2 _
    unfold sgn at e2
    by_cases c : 2 ≤ l.length ∧ prB (l.getD 0 0) (l.getD 1 0) = true
    · rw [if_pos c] at e2
      refine .inr ⟨e2, ?_⟩
      rw [e2]
      match l, c with
      | [], c => exact absurd c.1 (by decide)
      | [a], c => exact absurd c.1 (by show ¬ 2 ≤ 1; decide)
      | a :: b :: r, c => exact c.2
    · rw [if_neg c] at e2
      exact .inl e2
  by_cases c : 0 < (l.takeWhile cP).length
  · have hP := (tw_0.mp c).2
    have e : (scn l).1 = if cD (l.getD 0 0) = true then 2 else 1 := by unfold scn; rw [if_pos c]
    by_cases d : cD (l.getD 0 0) = true
    · rw [if_pos d] at e
      exact .inr (.inl ⟨e, d⟩)
    · rw [if_neg d] at e
      refine .inl ⟨e, ?_⟩
      rcases cP_i.mp hP with q | q
      · exact q
      · exact absurd q d
  · have hP : cP (l.getD 0 0) = false := by
      cases q : cP (l.getD 0 0) with
      | false => rfl
      | true => exact absurd (tw_0.mpr ⟨hl, q⟩) c
    by_cases d : l.getD 0 0 = 34
    · cases q : qIdx (l.drop 1) with
      | some k =>
        have e : (scn l).1 = 3 := by unfold scn; rw [if_neg c, if_pos d, q]
        exact .inr (.inr (.inl ⟨e, d⟩))
      | none =>
        have e : (scn l) = (4, sgn l) := by unfold scn; rw [if_neg c, if_pos d, q]
        exact .inr (.inr (.inr ⟨by rw [e], hP, key (by rw [e]) (by rw [e]) hP⟩))
    · have e : (scn l) = (4, sgn l) := by unfold scn; rw [if_neg c, if_neg d]
      exact .inr (.inr (.inr ⟨by rw [e], hP, key (by rw [e]) (by rw [e]) hP⟩))
theorem tkW.last {acc : List Tk} (z : ∀ t ∈ acc, tkW t) : tkW (acc.getLastD nTk) := by
  cases acc with
  | nil => exact tkW_n
  | cons a l =>
    have : (a :: l).getLastD nTk ∈ a :: l := by
      rw [List.getLastD_cons]
      exact List.getLastD_mem_cons
    exact z _ this
theorem hide_W {H : Hd} : ∀ {l : List Tk}, (∀ t ∈ l, tkW t) → ∀ t ∈ hideT H l, tkW t
  | [], _, t, ht => absurd ht List.not_mem_nil
  | (k, x, g) :: l, hl, t, ht => by
    have il := hide_W (H := H) (l := l) (fun t ht => hl t (List.mem_cons_of_mem _ ht))
    rw [hideT] at ht
    by_cases c : x = []
    · rw [if_pos c] at ht
      exact il t ht
    · rw [if_neg c] at ht
      rcases List.mem_cons.mp ht with q | q
      · rw [q]
        exact (hl (k, x, g) List.mem_cons_self).hd c
      · exact il t q
theorem stR_W : ∀ (l : List Tk), (∀ t ∈ l, okT t) → ∀ (b : Bool), ∀ c ∈ stR b l, lgl c
  | [], _, b, c, hc => by
    have : c = 34 := by cases b <;> simpa [stR] using hc
    exact .inr (by omega)
  | t :: l, hl, b, c, hc => by
    have it := stR_W l (fun t ht => hl t (List.mem_cons_of_mem _ ht)) false
    have h1 := hl t List.mem_cons_self
    rw [stR] at hc
    rcases List.mem_append.mp hc with q | q
    · cases b with
      | true => rw [if_pos rfl] at q; cases q
      | false =>
        rw [if_neg (by decide)] at q
        have : c = 32 := by simpa using q
        exact .inr (by omega)
    · rcases List.mem_append.mp q with q | q
      · exact h1.1 c q
      · exact it c q
theorem strK_W {l : List Tk} (hl : ∀ t ∈ l, tkW t) : tkW (3, strK l, noH) := by
  refine .inr ⟨fun q => (by unfold strK at q; cases q), fun c hc => ?_, .inr (.inr (.inl ⟨rfl, rfl⟩))⟩
  have hc' : c ∈ strK l := hc
  rw [strK_e] at hc'
  rcases List.mem_cons.mp hc' with q | q
  · exact .inr (by omega)
  · exact stR_W l (fun t ht => (hl t ht).ok) true c q
theorem dg_W (b : Bool) : tkW (dgT b) := by
  refine .inr ⟨fun q => (by cases q), fun c hc => ?_, .inr (.inl ⟨rfl, by cases b <;> decide⟩)⟩
  have : c = if b = true then 49 else 48 := List.mem_singleton.mp hc
  rw [this]
  cases b
  · exact .inr (by decide)
  · exact .inr (by decide)
theorem dfd_W {nm : Nm} : ∀ (N : Nat) (l : List Tk), l.length ≤ N → (∀ t ∈ l, tkW t) → ∀ t ∈ dfd nm l, tkW t := by
  intro N
  induction N with
  | zero =>
    intro l hl ok
    have : l = [] := List.eq_nil_of_length_eq_zero (by omega)
    subst this
    exact ok
  | succ N ih =>
    intro l hl ok
    cases l with
    | nil => exact ok
    | cons t r =>
      rw [List.length_cons] at hl
      have okr : ∀ t ∈ r, tkW t := fun y hy => ok y (List.mem_cons_of_mem _ hy)
      have go : ∀ (x : Tk) (r' : List Tk), tkW x → r'.length ≤ r.length → (∀ t ∈ r', tkW t) → ∀ t ∈ x :: dfd nm r', tkW t := fun x r' ox hr' or' y hy => by
        rcases List.mem_cons.mp hy with q | q
        · rw [q]; exact ox
        · exact ih r' (by omega) or' y q
      rw [dfd_u]
      split
      · exact go _ _ (dg_W _) (by rw [List.length_drop]; omega) (fun y hy => okr y (List.mem_of_mem_drop hy))
      · split
        · exact go _ _ (dg_W _) (by rw [List.length_drop]; omega) (fun y hy => okr y (List.mem_of_mem_drop hy))
        · exact go _ _ (ok t List.mem_cons_self) (Nat.le_refl _) okr
theorem cutL_W : ∀ (f : Nat) (p : Nat) (x : List Int), (∀ c ∈ x, lgl c) → ∀ l ∈ cutL f p x, tkW (ltk l)
  | 0, _, _, _, l, hl => absurd hl List.not_mem_nil
  | f + 1, p, [], _, l, hl => absurd hl List.not_mem_nil
  | f + 1, p, c :: t, ok, l, hl => by
    rw [cutL] at hl
    by_cases d : c = 32
    · rw [if_pos d] at hl
      exact cutL_W f _ t (fun y hy => ok y (List.mem_cons_of_mem _ hy)) l hl
    · rw [if_neg d] at hl
      rcases List.mem_cons.mp hl with q | q
      · rw [q]
        exact scn_W (by simp) ok
      · exact cutL_W f _ _ (fun y hy => ok y (List.mem_of_mem_drop hy)) l q
/-- a token that isn't a word has no word's characters -/
theorem tkW.word {t : Tk} {p : List Int} (z : tkW t) (hp : cL (p.getD 0 0) = true) (e : p = t.2.1) : t.1 = 1 := by
  rw [e] at hp
  rcases z with rfl | ⟨-, -, q | q | q | q⟩
  · exact absurd hp (by decide)
  · exact q.1
  · rw [cL_D hp] at q; exact absurd q.2 (by decide)
  · rw [q.2] at hp; exact absurd hp (by decide)
  · have := cP_i.mpr (.inl hp)
    rw [this] at q
    exact absurd q.2.1 (by decide)
end Wf2
