/-! the class's Letters: a list of which as much stands there as fits -/
section Let
def Let (h : MH) (a n : Nat) (l : List Int) : Prop := mGi h a 1 = ((min l.length n : Nat) : Int) ∧ Seg h (a + 1) 0 (l.take n) ∧ mGi h a 2 = if n < l.length then 1 else 0
variable {a n : Nat} {l : List Int} {h h' : MH}
theorem Let.fr {S : List Nat} (z : Let h a n l) (f : Fr S h h') (h1 : a ∉ S) (h2 : a + 1 ∉ S) : Let h' a n l := ⟨(f.2.2 a h1 1).trans z.1, z.2.1.fr f h2, (f.2.2 a h1 2).trans z.2.2⟩
theorem Let.seg (z : Let h a n l) (hl : l.length ≤ n) : Seg h (a + 1) 0 l := by
  have q := z.2.1
  rw [List.take_of_length_le hl] at q
  exact q
theorem Let.len (z : Let h a n l) (hl : l.length ≤ n) : mGi h a 1 = (l.length : Int) := by
  rw [z.1, Nat.min_eq_left hl]
theorem let_empty : ∃ h', F_Le_empty a n h = some (.inl (), h') ∧ Fr [a] h h' ∧ Let h' a n [] := by
  refine ⟨_, rfl, Fr.pi (Fr.pi Fr.rf (by simp)) (by simp), ?_, ?_, ?_⟩
  · rw [gi_pi, if_neg (by omega), gi_pi, if_pos ⟨rfl, rfl⟩]
    simp
  · rw [List.take_nil]; trivial
  · rw [gi_pi, if_pos ⟨rfl, rfl⟩, if_neg (by simp)]
theorem let_add {x : Int} (z : Let h a n l) (hn : n < 100000) : ∃ h', F_Le_add a n x h = some (.inl (), h') ∧ Fr [a, a + 1] h h' ∧ Let h' a n (l ++ [x]) := by
  obtain ⟨z1, z2, z3⟩ := z
  by_cases c : l.length < n
  · rw [Nat.min_eq_left (by omega)] at z1
    rw [if_neg (by omega)] at z3
    rw [List.take_of_length_le (by omega)] at z2
    refine ⟨_, add_e (by omega) (by omega) hn, Fr.pi (Fr.pi Fr.rf (by simp)) (by simp), ?_, ?_, ?_⟩
    · rw [gi_pi, if_pos ⟨rfl, rfl⟩, z1, List.length_append, Nat.min_eq_left (by simp; omega)]
      simp
    · rw [List.take_of_length_le (by simp; omega), Seg.app]
      refine ⟨Seg.pio (Seg.pio z2 (by omega)) (by omega), Seg.one ?_⟩
      rw [gi_pi, if_neg (by omega), gi_pi, if_pos ⟨rfl, by omega⟩]
    · rw [gi_pi, if_neg (by omega), gi_pi, if_neg (by omega), z3, if_neg (by simp; omega)]
  · refine ⟨mPi h a 2 1, ?_, Fr.pi Fr.rf (by simp), ?_, ?_, ?_⟩
    · unfold F_Le_add
      rw [if_pos (by omega)]
      rfl
    · rw [gi_pi, if_neg (by omega), z1, List.length_append]
      simp only [List.length_singleton]
      omega
    · rw [List.take_append_of_le_length (by omega)]
      exact z2.pio (by omega)
    · rw [gi_pi, if_pos ⟨rfl, rfl⟩, if_pos (by simp; omega)]
theorem let_all {c cn p : Nat} {t : List Int} (z : Let h a n l) (hn : n < 100000) (hcn : cn < 100000) (s : Seg h c p t) (hp : p + t.length ≤ cn) : ∃ h', F_Le_addAll a n c cn (p : Int) (t.length : Int) h = some (.inl (), h') ∧ Fr [a, a + 1] h h' ∧ Let h' a n (l ++ t) := by
  obtain ⟨z1, z2, z3⟩ := z
  have hk : (if ((n : Int) - mGi h a 1) < (t.length : Int) then (n : Int) - mGi h a 1 else (t.length : Int)) = ((min t.length (n - min l.length n) : Nat) : Int) := by
    rw [z1]
    split <;> omega
  unfold F_Le_addAll
  simp only [hk, sto_e]
  rw [gd_rg (by omega) (by omega), gd_cp (by omega) (by omega) (by omega) (by omega) (by omega), Int.toNat_natCast, Int.toNat_natCast, z1, Int.toNat_natCast]
  have e1 : mGi (mCpI h c (a + 1) p (min l.length n) (min t.length (n - min l.length n))) a 1 = ((min l.length n : Nat) : Int) := by
    rw [gi_cp, if_neg (by omega), z1]
  have e2 : ∀ x, mGi (mPi (mCpI h c (a + 1) p (min l.length n) (min t.length (n - min l.length n))) a 1 x) a 2 = if n < l.length then 1 else 0 := fun x => by
    rw [gi_pi, if_neg (by omega), gi_cp, if_neg (by omega), z3]
  rw [e1, gd_rg (by omega) (by omega), e2]
  have hs : Seg (mCpI h c (a + 1) p (min l.length n) (min t.length (n - min l.length n))) (a + 1) 0 ((l ++ t).take n) := by
    rw [List.take_append, Seg.app]
    refine ⟨Seg.cpo z2 (by rw [List.length_take]; omega), ?_⟩
    have q := Seg.cp (h := h) (a := c) (b := a + 1) (sp := p) (dp := min l.length n) (s.take (n - l.length))
    rw [List.length_take, show min (n - l.length) t.length = min t.length (n - min l.length n) by omega] at q
    rw [List.length_take, show 0 + min n l.length = min l.length n by omega]
    exact q
  have hL : ∀ w, w = (if n < (l ++ t).length then (1 : Int) else 0) → Let (mPi (mPi (mCpI h c (a + 1) p (min l.length n) (min t.length (n - min l.length n))) a 1 (((min l.length n : Nat) : Int) + ((min t.length (n - min l.length n) : Nat) : Int))) a 2 w) a n (l ++ t) := by
    intro w hw
    refine ⟨?_, Seg.pio (Seg.pio hs (by omega)) (by omega), ?_⟩
    · rw [gi_pi, if_neg (by omega), gi_pi, if_pos ⟨rfl, rfl⟩, List.length_append]
      omega
    · rw [gi_pi, if_pos ⟨rfl, rfl⟩, hw]
  have hF : ∀ w, Fr [a, a + 1] h (mPi (mPi (mCpI h c (a + 1) p (min l.length n) (min t.length (n - min l.length n))) a 1 (((min l.length n : Nat) : Int) + ((min t.length (n - min l.length n) : Nat) : Int))) a 2 w) := fun w => Fr.pi (Fr.pi (Fr.cp Fr.rf (by simp)) (by simp)) (by simp)
  unfold F_Le_addAll_56
  by_cases c1 : n < l.length
  · rw [if_pos c1, if_neg (by decide)]
    exact ⟨_, gd_01b, hF 1, hL 1 (by rw [if_pos (by rw [List.length_append]; omega)])⟩
  · rw [if_neg c1, if_pos rfl]
    by_cases c2 : t.length ≤ n - min l.length n
    · rw [if_pos (by omega)]
      exact ⟨_, gd_01a, hF 0, hL 0 (by rw [if_neg (by rw [List.length_append]; omega)])⟩
    · rw [if_neg (by omega)]
      exact ⟨_, gd_01b, hF 1, hL 1 (by rw [if_pos (by rw [List.length_append]; omega)])⟩
theorem let_at {k : Nat} (z : Let h a n l) (hl : l.length ≤ n) : F_Le_at a n (k : Int) h = some (.inl (if k < l.length then l.getD k 0 else -1), h) := by
  unfold F_Le_at F_Le_at_21
  rw [if_neg (by omega), z.len hl]
  by_cases c : k < l.length
  · rw [if_neg (by omega), gd_b (by omega) (by omega), if_pos c, Int.toNat_natCast]
    have q := (z.seg hl).get k c
    rw [Nat.zero_add] at q
    rw [q]
  · rw [if_pos (by omega), if_neg c]
/-! is -/
theorem is_l {c cn p : Nat} {m : Int} (hcn : cn < 100000) (hn : n < 100000) : ∀ (w t : List Int) (f k : Nat), w.length < f → w.length = t.length → m = ((k + t.length : Nat) : Int) → mGi h a 1 = m → k + w.length ≤ n → p + k + t.length ≤ cn → Seg h (a + 1) k w → Seg h c (p + k) t →
    itr (fun self (q : Nat × Nat × Nat × Nat × Int × Int × Int × MH) => F_Le_is_3_b (fun v0 v0n v1 v1n v2 v3 v4 h => self (v0, v0n, v1, v1n, v2, v3, v4, h)) q.1 q.2.1 q.2.2.1 q.2.2.2.1 q.2.2.2.2.1 q.2.2.2.2.2.1 q.2.2.2.2.2.2.1 q.2.2.2.2.2.2.2) f (a, n, c, cn, (p : Int), m, (k : Int), h) = some (.inl (if w = t then 1 else 0), h) := by
  intro w
  induction w with
  | nil =>
    intro t f k hf hl hm ha hk hp s s'
    obtain ⟨f, rfl⟩ : ∃ g, f = g + 1 := ⟨f - 1, by omega⟩
    cases t with
    | cons x t => simp at hl
    | nil =>
      rw [itr_s]
      dsimp only
      rw [F_Le_is_3_b, if_pos (by rw [hm]; simp)]
      unfold F_Le_is_41
      rw [if_pos ha.symm, if_pos rfl]
  | cons x w ih =>
    intro t f k hf hl hm ha hk hp s s'
    rw [List.length_cons] at hf hk
    obtain ⟨f, rfl⟩ : ∃ g, f = g + 1 := ⟨f - 1, by omega⟩
    cases t with
    | nil => simp at hl
    | cons y t =>
      rw [List.length_cons, List.length_cons] at hl
      rw [List.length_cons] at hm hp
      rw [itr_s]
      dsimp only
      rw [F_Le_is_3_b, if_neg (by omega), if_pos ha.symm, gd_b (by omega) (by omega), gd_rg (by omega) (by omega), gd_b (by omega) (by omega)]
      rw [show ((p : Int) + (k : Int)).toNat = p + k by omega, Int.toNat_natCast, s.1, s'.1]
      by_cases c0 : x = y
      · rw [if_pos c0, gd_rg (by omega) (by omega)]
        have r := ih t f (k + 1) (by omega) (by omega) (by omega) ha (by omega) (by omega) s.2 (by have := s'.2; rw [show p + k + 1 = p + (k + 1) by omega] at this; exact this)
        rw [show ((k + 1 : Nat) : Int) = (k : Int) + 1 by omega] at r
        rw [r]
        simp only [c0, List.cons.injEq, true_and]
      · rw [if_neg c0, if_neg (by simp [c0])]
theorem is_e {c cn p : Nat} {w t : List Int} (hcn : cn < 100000) (hn : n < 100000) (z : Let h a n w) (hw : w.length ≤ n) (s : Seg h c p t) (hp : p + t.length ≤ cn) : F_Le_is a n c cn (p : Int) (t.length : Int) h = some (.inl (if w = t then 1 else 0), h) := by
  by_cases c0 : w.length = t.length
  · exact is_l hcn hn w t FU 0 (by unfold FU; omega) c0 (by omega) (by rw [z.len hw]; omega) (by omega) (by omega) (z.seg hw) s
  · rw [if_neg (fun q => c0 (by rw [q]))]
    unfold F_Le_is F_Le_is_3
    rw [show FU = 99999999 + 1 from rfl, itr_s]
    dsimp only
    rw [F_Le_is_3_b]
    unfold F_Le_is_41
    rw [z.len hw]
    by_cases c1 : (t.length : Int) ≤ 0
    · rw [if_pos c1, if_neg (by omega)]
    · rw [if_neg c1, if_neg (by omega), if_neg (by omega)]
/-! a number -/
theorem p10 : ∀ k : Nat, 0 < (10 : Int) ^ k
  | 0 => by decide
  | k + 1 => by rw [Int.pow_succ]; have := p10 k; omega
theorem p10d (k : Nat) : (10 : Int) ^ (k + 1) / 10 = 10 ^ k := by rw [Int.pow_succ, Int.mul_ediv_cancel _ (by decide)]
theorem dg_r (x y : Int) : 0 ≤ x / y % 10 ∧ x / y % 10 ≤ 9 := by omega
theorem nm_b {v : Int} (hn : n < 100000) (h0 : 0 ≤ v) : ∀ (k f : Nat) (l : List Int) (h : MH), k + 1 < f → Let h a n l → ∃ h', itr (fun self (q : Nat × Nat × Int × Int × Int × MH) => F_Le_addNumber_21_b (fun v0 v0n v2 v3 v4 h => self (v0, v0n, v2, v3, v4, h)) q.1 q.2.1 q.2.2.1 q.2.2.2.1 q.2.2.2.2.1 q.2.2.2.2.2) f (a, n, v, 1, 10 ^ k, h) = some (.inl (), h') ∧ Fr [a, a + 1] h h' ∧ Let h' a n (l ++ dgK k v) := by
  intro k
  induction k with
  | zero =>
    intro f l h hf z
    obtain ⟨f, rfl⟩ : ∃ g, f = g + 1 := ⟨f - 1, by omega⟩
    obtain ⟨f, rfl⟩ : ∃ g, f = g + 1 := ⟨f - 1, by omega⟩
    have hd := dg_r v (10 ^ 0)
    have hq : 0 ≤ v / 10 ^ 0 := Int.ediv_nonneg h0 (by decide)
    obtain ⟨h1, e1, f1, l1⟩ := let_add (x := 48 + v / 10 ^ 0 % 10) z hn
    refine ⟨h1, ?_, f1, ?_⟩
    · rw [itr_s]
      dsimp only
      rw [F_Le_addNumber_21_b, if_neg (by decide), gd_0 h0, gd_p (by decide), gd_0 hq, if_neg (by decide)]
      unfold F_Le_addNumber_50 F_Le_addNumber_55
      rw [if_neg (by decide), gd_rg (by omega) (by omega), gd_b (by omega) (by omega), e1, bnd_l]
      unfold F_Le_addNumber_70
      rw [gd_0 (by decide)]
      dsimp only
      rw [itr_s]
      dsimp only
      rw [F_Le_addNumber_21_b, if_pos (by decide)]
    · have e : v / 10 ^ 0 = v := by rw [show (10 : Int) ^ 0 = 1 from rfl, Int.ediv_one]
      rw [e] at l1
      exact l1
  | succ k ih =>
    intro f l h hf z
    obtain ⟨f, rfl⟩ : ∃ g, f = g + 1 := ⟨f - 1, by omega⟩
    have hp := p10 (k + 1)
    have hd := dg_r v (10 ^ (k + 1))
    have hq : 0 ≤ v / 10 ^ (k + 1) := Int.ediv_nonneg h0 (by omega)
    obtain ⟨h1, e1, f1, l1⟩ := let_add (x := 48 + v / 10 ^ (k + 1) % 10) z hn
    obtain ⟨h2, e2, f2, l2⟩ := ih f _ h1 (by omega) l1
    refine ⟨h2, ?_, f1.tr f2, ?_⟩
    · rw [itr_s]
      dsimp only
      rw [F_Le_addNumber_21_b, if_neg (by omega), gd_0 h0, gd_p hp, gd_0 hq, if_neg (by decide)]
      unfold F_Le_addNumber_50 F_Le_addNumber_55
      rw [if_neg (by decide), gd_rg (by omega) (by omega), gd_b (by omega) (by omega), e1, bnd_l]
      unfold F_Le_addNumber_70
      rw [gd_0 (by omega), p10d]
      exact e2
    · rw [List.append_assoc] at l2
      exact l2
theorem nm_z {v : Int} (hn : n < 100000) (h0 : 0 ≤ v) : ∀ (k f : Nat) (l : List Int) (h : MH), k + 1 < f → v < 10 ^ (k + 1) → Let h a n l → ∃ h', itr (fun self (q : Nat × Nat × Int × Int × Int × MH) => F_Le_addNumber_21_b (fun v0 v0n v2 v3 v4 h => self (v0, v0n, v2, v3, v4, h)) q.1 q.2.1 q.2.2.1 q.2.2.2.1 q.2.2.2.2.1 q.2.2.2.2.2) f (a, n, v, 0, 10 ^ k, h) = some (.inl (), h') ∧ Fr [a, a + 1] h h' ∧ Let h' a n (l ++ dgK (klN k v) v) := by
  intro k
  induction k with
  | zero =>
    intro f l h hf hv z
    obtain ⟨f, rfl⟩ : ∃ g, f = g + 1 := ⟨f - 1, by omega⟩
    obtain ⟨f, rfl⟩ : ∃ g, f = g + 1 := ⟨f - 1, by omega⟩
    have hd := dg_r v (10 ^ 0)
    have hq : 0 ≤ v / 10 ^ 0 := Int.ediv_nonneg h0 (by decide)
    obtain ⟨h1, e1, f1, l1⟩ := let_add (x := 48 + v / 10 ^ 0 % 10) z hn
    refine ⟨h1, ?_, f1, ?_⟩
    · rw [itr_s]
      dsimp only
      rw [F_Le_addNumber_21_b, if_neg (by decide), gd_0 h0, gd_p (by decide), gd_0 hq, if_pos rfl, if_pos (show (10 : Int) ^ 0 = 1 from rfl), ite_self]
      unfold F_Le_addNumber_50 F_Le_addNumber_55
      rw [if_neg (by decide), gd_rg (by omega) (by omega), gd_b (by omega) (by omega), e1, bnd_l]
      unfold F_Le_addNumber_70
      rw [gd_0 (by decide)]
      dsimp only
      rw [itr_s]
      dsimp only
      rw [F_Le_addNumber_21_b, if_pos (by decide)]
    · have e : v / 10 ^ 0 = v := by rw [show (10 : Int) ^ 0 = 1 from rfl, Int.ediv_one]
      rw [e] at l1
      exact l1
  | succ k ih =>
    intro f l h hf hv z
    obtain ⟨f, rfl⟩ : ∃ g, f = g + 1 := ⟨f - 1, by omega⟩
    have hp := p10 (k + 1)
    have hd := dg_r v (10 ^ (k + 1))
    have hq : 0 ≤ v / 10 ^ (k + 1) := Int.ediv_nonneg h0 (by omega)
    have hq2 : v / 10 ^ (k + 1) < 10 := Int.ediv_lt_of_lt_mul hp (by rw [Int.mul_comm, ← Int.pow_succ]; exact hv)
    have hu : ¬ (10 : Int) ^ (k + 1) = 1 := by rw [Int.pow_succ]; have := p10 k; omega
    by_cases c0 : v / 10 ^ (k + 1) = 0
    · have hv' : v < 10 ^ (k + 1) := by
        have q := Int.lt_ediv_add_one_mul_self v hp
        rw [c0, Int.zero_add, Int.one_mul] at q
        exact q
      obtain ⟨h1, e1, f1, l1⟩ := ih f l h (by omega) hv' z
      refine ⟨h1, ?_, f1, ?_⟩
      · rw [itr_s]
        dsimp only
        rw [F_Le_addNumber_21_b, if_neg (by omega), gd_0 h0, gd_p hp, gd_0 hq, if_pos rfl, if_pos (by rw [c0]; rfl), if_neg hu]
        unfold F_Le_addNumber_55
        rw [if_pos rfl]
        unfold F_Le_addNumber_70
        rw [gd_0 (by omega), p10d]
        exact e1
      · rw [klN, if_pos c0]
        exact l1
    · obtain ⟨h1, e1, f1, l1⟩ := let_add (x := 48 + v / 10 ^ (k + 1) % 10) z hn
      obtain ⟨h2, e2, f2, l2⟩ := nm_b hn h0 k f _ h1 (by omega) l1
      refine ⟨h2, ?_, f1.tr f2, ?_⟩
      · rw [itr_s]
        dsimp only
        rw [F_Le_addNumber_21_b, if_neg (by omega), gd_0 h0, gd_p hp, gd_0 hq, if_pos rfl, if_neg (by omega)]
        unfold F_Le_addNumber_50 F_Le_addNumber_55
        rw [if_neg (by decide), gd_rg (by omega) (by omega), gd_b (by omega) (by omega), e1, bnd_l]
        unfold F_Le_addNumber_70
        rw [gd_0 (by omega), p10d]
        exact e2
      · rw [klN, if_neg c0]
        rw [List.append_assoc] at l2
        exact l2
theorem let_num {v : Int} (z : Let h a n l) (hn : n < 100000) (h0 : -2147483648 < v) (h1 : v < 2147483648) : ∃ h', F_Le_addNumber a n v h = some (.inl (), h') ∧ Fr [a, a + 1] h h' ∧ Let h' a n (l ++ numL v) := by
  unfold F_Le_addNumber numL
  by_cases c : v < 0
  · obtain ⟨h1, e1, f1, l1⟩ := let_add (x := 45) z hn
    obtain ⟨h2, e2, f2, l2⟩ := nm_z (v := -v) hn (by omega) 9 FU _ h1 (by decide) (by show -v < 10000000000; omega) l1
    refine ⟨h2, ?_, f1.tr f2, ?_⟩
    · rw [if_neg (by omega), e1, bnd_l]
      unfold F_Le_addNumber_10
      rw [gd_t (by omega), if_neg (by omega), Int.zero_sub]
      exact e2
    · rw [if_pos c]
      rw [List.append_assoc] at l2
      exact l2
  · obtain ⟨h2, e2, f2, l2⟩ := nm_z (v := v) hn (by omega) 9 FU _ h (by decide) (by show v < 10000000000; omega) z
    refine ⟨h2, ?_, f2, ?_⟩
    · rw [if_pos (by omega)]
      unfold F_Le_addNumber_10
      rw [gd_t (by omega), if_pos (by omega)]
      exact e2
    · rw [if_neg c]
      exact l2
end Let
