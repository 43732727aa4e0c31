/-! the reference's first mill: what comes ahead -/
section Ref1
/-- only these ints differ -/
def FP (P : Nat → Nat → Prop) (h h' : MH) : Prop := h'.1 = h.1 ∧ h'.2.2 = h.2.2 ∧ ∀ b i, ¬ P b i → mGi h' b i = mGi h b i
variable {P Q : Nat → Nat → Prop} {h h' h'' h0 : MH}
theorem FP.rf : FP P h h := ⟨rfl, rfl, fun _ _ _ => rfl⟩
theorem FP.tr (a : FP P h h') (b : FP P h' h'') : FP P h h'' := ⟨b.1.trans a.1, b.2.1.trans a.2.1, fun c i hc => (b.2.2 c i hc).trans (a.2.2 c i hc)⟩
theorem FP.sub (a : FP P h h') (hs : ∀ b i, P b i → Q b i) : FP Q h h' := ⟨a.1, a.2.1, fun c i hc => a.2.2 c i (fun q => hc (hs c i q))⟩
theorem FP.pi {a i : Nat} {x : Int} (f : FP P h h') (hp : P a i) : FP P h (mPi h' a i x) := by
  refine ⟨f.1, f.2.1, fun b j hb => ?_⟩
  rw [gi_pi, if_neg (fun q : b = a ∧ j = i => hb (by rw [q.1, q.2]; exact hp))]
  exact f.2.2 b j hb
theorem FP.gl (f : FP P h h') (b i : Nat) : mGl h' b i = mGl h b i := by
  show h'.2.2.1 b i = h.2.2.1 b i
  rw [f.2.1]
theorem Seg.fp {c p : Nat} {l : List Int} (z : Seg h c p l) (f : FP P h h') (hp : ∀ j, ¬ P c j) : Seg h' c p l := Seg.cg (fun j _ _ => f.2.2 c j (hp j)) z
def pC (b i : Nat) : Prop := b = 113 ∨ (b = 107 ∧ (i = 9 ∨ i = 10))
def Com (h : MH) (T : Nat) (c : List Int) : Prop := T ≤ 500 ∧ mGi h 107 3 = (T : Int) ∧ mGi h 107 9 = ((min c.length (500 - T) : Nat) : Int) ∧ Seg h 113 0 (c.take (500 - T)) ∧ mGi h 107 10 = if 500 - T < c.length then 1 else 0
variable {T : Nat} {c : List Int}
theorem gi_s {a i : Nat} {x : Int} : mGi (mPi h a i x) a i = x := by rw [gi_pi, if_pos ⟨rfl, rfl⟩]
theorem m_come {x : Int} (z : Com h T c) (h0 : 0 ≤ x) (h1 : x < 65536) : ∃ h', F_M_come x h = some (.inl (), h') ∧ FP pC h h' ∧ Com h' T (c ++ [x]) := by
  obtain ⟨z1, z2, z3, z4, z5⟩ := z
  have over : 500 - T ≤ c.length → F_M_come_23 x h = some (.inl (), mPi h 107 10 1) ∧ FP pC h (mPi h 107 10 1) ∧ Com (mPi h 107 10 1) T (c ++ [x]) := fun hc => by
    refine ⟨?_, FP.pi FP.rf (by unfold pC; omega), z1, ?_, ?_, ?_, ?_⟩
    · unfold F_M_come_23 F_M_come_28
      rw [gd_01b, sto_e, gi_s, if_neg (by decide)]
    · rw [gi_pi, if_neg (by omega), z2]
    · rw [gi_pi, if_neg (by omega), z3, List.length_append, List.length_singleton]
      omega
    · rw [List.take_append_of_le_length hc]
      exact z4.pio (.inl (by decide))
    · rw [gi_pi, if_pos ⟨rfl, rfl⟩, if_pos (by simp; omega)]
  unfold F_M_come
  rw [z5]
  by_cases c1 : 500 - T < c.length
  · rw [if_pos c1, if_neg (by decide)]
    obtain ⟨a, b⟩ := over (by omega)
    exact ⟨_, a, b⟩
  · rw [if_neg c1, if_pos rfl, z3, z2, gd_rg (by omega) (by omega)]
    by_cases c2 : c.length < 500 - T
    · rw [if_pos (by omega)]
      unfold F_M_come_28
      have g : ∀ y, mGi (mPi h 107 10 y) 107 9 = ((min c.length (500 - T) : Nat) : Int) := fun y => by rw [gi_pi, if_neg (by omega), z3]
      have g2 : ∀ y k w, mGi (mPi (mPi h 107 10 y) 113 k w) 107 9 = ((min c.length (500 - T) : Nat) : Int) := fun y k w => by rw [gi_pi, if_neg (by omega), g]
      rw [gd_01a]
      simp only [sto_e]
      rw [gi_s (a := 107) (i := 10), if_pos rfl, gd_b h0 h1, g, gd_b (by omega) (by omega), Int.toNat_natCast, g2, gd_rg (by omega) (by omega)]
      rw [show min c.length (500 - T) = c.length by omega]
      refine ⟨_, rfl, FP.pi (FP.pi (FP.pi FP.rf (by unfold pC; omega)) (by unfold pC; omega)) (by unfold pC; omega), z1, ?_, ?_, ?_, ?_⟩
      · rw [gi_pi, if_neg (by omega), gi_pi, if_neg (by omega), gi_pi, if_neg (by omega), z2]
      · rw [gi_pi, if_pos ⟨rfl, rfl⟩, List.length_append, List.length_singleton]
        omega
      · rw [List.take_of_length_le (by omega)] at z4
        rw [List.take_of_length_le (by simp; omega), Seg.app]
        refine ⟨Seg.pio (Seg.pio (Seg.pio z4 (.inl (by decide))) (by omega)) (.inl (by decide)), Seg.one ?_⟩
        rw [gi_pi, if_neg (by omega), gi_pi, if_pos ⟨rfl, by omega⟩]
      · rw [gi_pi, if_neg (by omega), gi_pi, if_neg (by omega), gi_pi, if_pos ⟨rfl, rfl⟩, if_neg (by simp; omega)]
    · rw [if_neg (by omega)]
      obtain ⟨a, b⟩ := over (by omega)
      exact ⟨_, a, b⟩
theorem mn_b {v : Int} (h0 : 0 ≤ v) : ∀ (k f : Nat) (c : List Int) (h : MH), k + 1 < f → Com h T c → ∃ h', itr (fun self (q : Int × Int × MH) => F_M_comeNumber_42_b (fun v2 v4 h => self (v2, v4, h)) q.1 q.2.1 q.2.2) f (v, 10 ^ k, h) = some (.inl (), h') ∧ FP pC h h' ∧ Com h' T (c ++ dgK k v) := by
  intro k
  induction k with
  | zero =>
    intro f c h hf z
    obtain ⟨f, rfl⟩ : ∃ g, f = g + 1 := ⟨f - 1, by omega⟩
    obtain ⟨f, rfl⟩ : ∃ g, f = g + 1 := ⟨f - 1, by omega⟩
    have hd := dg_r v (10 ^ 0)
    have hq : 0 ≤ v / 10 ^ 0 := Int.ediv_nonneg h0 (by decide)
    obtain ⟨h1, e1, f1, l1⟩ := m_come (x := 48 + v / 10 ^ 0 % 10) z (by omega) (by omega)
    refine ⟨h1, ?_, f1, ?_⟩
    · rw [itr_s]
      dsimp only
      rw [F_M_comeNumber_42_b, if_neg (by decide), gd_0 h0, gd_p (by decide), gd_0 hq, gd_rg (by omega) (by omega), e1, bnd_l, gd_0 (by decide), itr_s]
      dsimp only
      rw [F_M_comeNumber_42_b, if_pos (by decide)]
    · have e : v / 10 ^ 0 = v := by rw [show (10 : Int) ^ 0 = 1 from rfl, Int.ediv_one]
      rw [e] at l1
      exact l1
  | succ k ih =>
    intro f c h hf z
    obtain ⟨f, rfl⟩ : ∃ g, f = g + 1 := ⟨f - 1, by omega⟩
    have hp := p10 (k + 1)
    have hd := dg_r v (10 ^ (k + 1))
    have hq : 0 ≤ v / 10 ^ (k + 1) := Int.ediv_nonneg h0 (by omega)
    obtain ⟨h1, e1, f1, l1⟩ := m_come (x := 48 + v / 10 ^ (k + 1) % 10) z (by omega) (by omega)
    obtain ⟨h2, e2, f2, l2⟩ := ih f _ h1 (by omega) l1
    refine ⟨h2, ?_, f1.tr f2, ?_⟩
    · rw [itr_s]
      dsimp only
      rw [F_M_comeNumber_42_b, if_neg (by omega), gd_0 h0, gd_p hp, gd_0 hq, gd_rg (by omega) (by omega), e1, bnd_l, gd_0 (by omega), p10d]
      exact e2
    · rw [List.append_assoc] at l2
      exact l2
theorem klN_p {v : Int} (h0 : 0 ≤ v) : ∀ k, v < 10 ^ (k + 1) → v < 10 ^ (klN k v + 1) ∧ (klN k v = 0 ∨ 10 ^ (klN k v) ≤ v) ∧ klN k v ≤ k
  | 0, hv => ⟨hv, .inl rfl, Nat.le_refl _⟩
  | k + 1, hv => by
    have hp := p10 (k + 1)
    have q := Int.lt_ediv_add_one_mul_self v hp
    have q2 := Int.ediv_mul_le v (Int.ne_of_gt hp)
    unfold klN
    by_cases c : v / 10 ^ (k + 1) = 0
    · rw [if_pos c]
      rw [c, Int.zero_add, Int.one_mul] at q
      have r := klN_p h0 k q
      exact ⟨r.1, r.2.1, by omega⟩
    · rw [if_neg c]
      have nn : 0 ≤ v / 10 ^ (k + 1) := Int.ediv_nonneg h0 (by omega)
      refine ⟨hv, .inr ?_, Nat.le_refl _⟩
      refine Int.le_trans ?_ q2
      have : 1 * 10 ^ (k + 1) ≤ v / 10 ^ (k + 1) * 10 ^ (k + 1) := Int.mul_le_mul_of_nonneg_right (by omega) (by omega)
      rw [Int.one_mul] at this
      exact this
theorem p10m {j k : Nat} (hjk : j ≤ k) : (10 : Int) ^ j ≤ 10 ^ k := by
  induction k with
  | zero => rw [show j = 0 by omega]; exact Int.le_refl _
  | succ k ih =>
    by_cases c : j = k + 1
    · rw [c]; exact Int.le_refl _
    · have := ih (by omega)
      have p := p10 k
      rw [Int.pow_succ]
      omega
theorem mn_d {v : Int} (h0 : 0 ≤ v) (h1 : v < 10 ^ (9 + 1)) : ∀ (q j f : Nat), j + q = klN 9 v → q < f → itr (fun self (q : Int × Int × MH) => F_M_comeNumber_23_b (fun v2 v3 h => self (v2, v3, h)) q.1 q.2.1 q.2.2) f (v, 10 ^ j, h) = F_M_comeNumber_42 v (10 ^ (klN 9 v)) h := by
  intro q
  obtain ⟨k1, k2, k3⟩ := klN_p h0 9 h1
  induction q with
  | zero =>
    intro j f hj hf
    obtain ⟨f, rfl⟩ : ∃ g, f = g + 1 := ⟨f - 1, by omega⟩
    have e : j = klN 9 v := by omega
    rw [e]
    have hp := p10 (klN 9 v)
    rw [itr_s]
    dsimp only
    rw [F_M_comeNumber_23_b, gd_0 h0, gd_p hp, if_pos]
    have := Int.ediv_lt_of_lt_mul (a := v) (b := 10) hp (by rw [Int.mul_comm, ← Int.pow_succ]; exact k1)
    omega
  | succ q ih =>
    intro j f hj hf
    obtain ⟨f, rfl⟩ : ∃ g, f = g + 1 := ⟨f - 1, by omega⟩
    have hp := p10 j
    have hle : (10 : Int) ^ (j + 1) ≤ v := Int.le_trans (p10m (show j + 1 ≤ klN 9 v by omega)) (by rcases k2 with k2 | k2; omega; exact k2)
    have hv : ¬ v / 10 ^ j ≤ 9 := by
      have := Int.le_ediv_of_mul_le (a := 10) (b := v) hp (by rw [Int.mul_comm, ← Int.pow_succ]; exact hle)
      omega
    have pw := pw9 (k := j) (by omega)
    have pw2 := pw9 (k := j + 1) (by omega)
    rw [Int.pow_succ] at pw2
    rw [itr_s]
    dsimp only
    rw [F_M_comeNumber_23_b, gd_0 h0, gd_p hp, if_neg hv, gd_rg (by omega) (by omega), ← Int.pow_succ]
    exact ih (j + 1) f (by omega) (by omega)
theorem m_num {v : Int} (z : Com h T c) (h0 : -2147483648 < v) (h1 : v < 2147483648) : ∃ h', F_M_comeNumber v h = some (.inl (), h') ∧ FP pC h h' ∧ Com h' T (c ++ numL v) := by
  have main : ∀ (n : Int) (h : MH) (c : List Int), 0 ≤ n → n < 2147483649 → Com h T c → ∃ h', F_M_comeNumber_20 n h = some (.inl (), h') ∧ FP pC h h' ∧ Com h' T (c ++ dgK (klN 9 n) n) := by
    intro n h c n0 n1 z
    have n2 : n < 10 ^ (9 + 1) := by show n < 10000000000; omega
    have k3 := (klN_p n0 9 n2).2.2
    obtain ⟨h2, e2, f2, l2⟩ := mn_b n0 (klN 9 n) FU c h (by unfold FU; omega) z
    refine ⟨h2, ?_, f2, l2⟩
    have q := mn_d (h := h) n0 n2 (klN 9 n) 0 FU (by omega) (by unfold FU; omega)
    exact q.trans e2
  unfold F_M_comeNumber numL F_M_comeNumber_10
  by_cases c1 : v < 0
  · obtain ⟨h1, e1, f1, l1⟩ := m_come (x := 45) z (by decide) (by decide)
    obtain ⟨h2, e2, f2, l2⟩ := main (-v) h1 _ (by omega) (by omega) l1
    refine ⟨h2, ?_, f1.tr f2, ?_⟩
    · rw [if_neg (by omega), e1, bnd_l, if_neg (by omega), gd_rg (by omega) (by omega)]
      exact e2
    · rw [if_pos c1]
      rw [List.append_assoc] at l2
      exact l2
  · obtain ⟨h2, e2, f2, l2⟩ := main v h _ (by omega) (by omega) z
    refine ⟨h2, ?_, f2, ?_⟩
    · rw [if_pos (by omega), if_pos (by omega)]
      exact e2
    · rw [if_neg c1]
      exact l2
/-! the arguments -/
def StM (h : MH) : Nat → Nat → List (List Int) → Prop
  | _, _, [] => True
  | p, n, a :: l => mGi h 119 p = (n : Int) ∧ StM h (p + 1) (n + a.length) l
def FrM (h : MH) : List Fm1 → Prop
  | [] => True
  | (w, pv, cu, op) :: r => mGi h 117 r.length = w ∧ mGi h 118 r.length = ((pv.length + 1 : Nat) : Int) ∧ mGi h 120 r.length = (op : Int) ∧ pv.length ≤ 4 ∧ StM h (6 * r.length) (flat r).length (pv ++ [cu]) ∧ FrM h r
def ArgM (h : MH) (fs : List Fm1) : Prop := mGi h 107 7 = (fs.length : Int) ∧ mGi h 107 8 = ((flat fs).length : Int) ∧ Seg h 112 0 (flat fs) ∧ FrM h fs
def pA (b i : Nat) : Prop := b = 112 ∨ b = 117 ∨ b = 118 ∨ b = 119 ∨ b = 120 ∨ (b = 107 ∧ (i = 7 ∨ i = 8))
variable {w : Int} {pv : List (List Int)} {cu : List Int} {op : Nat} {r fs : List Fm1}
theorem StM.cg : ∀ {l : List (List Int)} {p n : Nat}, (∀ j, p ≤ j → j < p + l.length → mGi h' 119 j = mGi h 119 j) → StM h p n l → StM h' p n l
  | [], _, _, _, _ => trivial
  | a :: l, p, n, e, z => ⟨(e p (Nat.le_refl _) (by rw [List.length_cons]; omega)).trans z.1, StM.cg (fun j h1 h2 => e j (by omega) (by rw [List.length_cons]; omega)) z.2⟩
theorem StM.get : ∀ {l : List (List Int)} {p n : Nat} (_ : StM h p n l) (k : Nat), k < l.length → mGi h 119 (p + k) = ((n + (l.take k).flatten.length : Nat) : Int)
  | [], _, _, _, k, hk => absurd hk (Nat.not_lt_zero _)
  | a :: l, p, n, z, 0, _ => z.1
  | a :: l, p, n, z, k + 1, hk => by
    have q := StM.get z.2 k (by rw [List.length_cons] at hk; omega)
    rw [show p + (k + 1) = p + 1 + k by omega, q, List.take_succ_cons, List.flatten_cons, List.length_append]
    congr 1
    omega
theorem StM.app : ∀ {l m : List (List Int)} {p n : Nat}, StM h p n (l ++ m) ↔ StM h p n l ∧ StM h (p + l.length) (n + l.flatten.length) m
  | [], m, p, n => ⟨fun z => ⟨trivial, z⟩, fun z => z.2⟩
  | a :: l, m, p, n => by
    have z := StM.app (l := l) (m := m) (p := p + 1) (n := n + a.length)
    rw [List.length_cons, List.flatten_cons, List.length_append, show p + (l.length + 1) = p + 1 + l.length by omega, ← Nat.add_assoc n]
    exact ⟨fun q => ⟨⟨q.1, (z.mp q.2).1⟩, (z.mp q.2).2⟩, fun q => ⟨q.1.1, z.mpr ⟨q.1.2, q.2⟩⟩⟩
theorem FrM.cg : ∀ {fs : List Fm1}, (∀ j, j < fs.length → mGi h' 117 j = mGi h 117 j ∧ mGi h' 118 j = mGi h 118 j ∧ mGi h' 120 j = mGi h 120 j) → (∀ j, j < 6 * fs.length → mGi h' 119 j = mGi h 119 j) → FrM h fs → FrM h' fs
  | [], _, _, _ => trivial
  | (w, pv, cu, op) :: r, e1, e3, z => by
    rw [List.length_cons] at e1 e3
    refine ⟨(e1 _ (by omega)).1.trans z.1, (e1 _ (by omega)).2.1.trans z.2.1, (e1 _ (by omega)).2.2.trans z.2.2.1, z.2.2.2.1, StM.cg (fun j h1 h2 => e3 j ?_) z.2.2.2.2.1, FrM.cg (fun j hj => e1 j (by omega)) (fun j hj => e3 j (by omega)) z.2.2.2.2.2⟩
    have := z.2.2.2.1
    rw [List.length_append, List.length_singleton] at h2
    omega
theorem ArgM.fp (z : ArgM h fs) (f : FP P h h') (hP : ∀ b i, P b i → ¬ pA b i) : ArgM h' fs := by
  have g : ∀ b i, pA b i → mGi h' b i = mGi h b i := fun b i hp => f.2.2 b i (fun q => hP b i q hp)
  refine ⟨(g 107 7 (by unfold pA; omega)).trans z.1, (g 107 8 (by unfold pA; omega)).trans z.2.1, Seg.cg (fun j _ _ => g 112 j (by unfold pA; omega)) z.2.2.1, FrM.cg (fun j _ => ⟨g 117 j (by unfold pA; omega), g 118 j (by unfold pA; omega), g 120 j (by unfold pA; omega)⟩) (fun j _ => g 119 j (by unfold pA; omega)) z.2.2.2⟩
theorem pC_A : ∀ b i, pC b i → ¬ pA b i := fun b i => by unfold pC pA; omega
theorem m_from {k : Nat} (z : ArgM h ((w, pv, cu, op) :: r)) (hr : r.length < 6) (hk : k < 1000) : F_M_from (r.length : Int) (k : Int) h = some (.inl (if k < pv.length + 1 then (((flat r).length + ((pv ++ [cu]).take k).flatten.length : Nat) : Int) else 0), h) := by
  obtain ⟨z1, z2, z3, z4, z5, z6, z7, z8, z9⟩ := z
  unfold F_M_from F_M_from_28
  rw [if_neg (by omega), gd_b (by omega) (by omega), Int.toNat_natCast, z5]
  by_cases c : k < pv.length + 1
  · rw [if_neg (by omega), if_pos c, gd_rg (by omega) (by omega), gd_rg (by omega) (by omega), gd_b (by omega) (by omega)]
    have q := z8.get k (by rw [List.length_append, List.length_singleton]; omega)
    rw [show (6 * (r.length : Int) + (k : Int)).toNat = 6 * r.length + k by omega, q]
  · rw [if_pos (by omega), if_neg c]
theorem m_to {k : Nat} (z : ArgM h ((w, pv, cu, op) :: r)) (hr : r.length < 6) (hk : k < 1000) : F_M_to (r.length : Int) (k : Int) h = some (.inl (if k < pv.length + 1 then (((flat r).length + ((pv ++ [cu]).take (k + 1)).flatten.length : Nat) : Int) else 0), h) := by
  obtain ⟨z1, z2, z3, z4, z5, z6, z7, z8, z9⟩ := z
  unfold F_M_to F_M_to_14
  rw [if_neg (by omega), gd_b (by omega) (by omega), Int.toNat_natCast, z5]
  by_cases c : k < pv.length + 1
  · rw [if_pos (by omega), if_pos c, gd_rg (by omega) (by omega)]
    by_cases c2 : k = pv.length
    · rw [if_pos (by omega), z2, flat_c, List.length_append, fl_all _ (by rw [List.length_append, List.length_singleton]; omega)]
    · rw [if_neg (by omega), gd_rg (by omega) (by omega), gd_rg (by omega) (by omega), gd_rg (by omega) (by omega), gd_b (by omega) (by omega)]
      have q := z8.get (k + 1) (by rw [List.length_append, List.length_singleton]; omega)
      rw [show (6 * (r.length : Int) + (k : Int) + 1).toNat = 6 * r.length + (k + 1) by omega, q]
  · rw [if_neg (by omega), if_neg c]
theorem getD_out {a : List (List Int)} {k : Nat} (hk : a.length ≤ k) : a.getD k [] = [] := by
  rw [List.getD_eq_getElem?_getD, List.getElem?_eq_none hk]
  rfl
theorem m_size {k : Nat} (z : ArgM h ((w, pv, cu, op) :: r)) (hF : (flat ((w, pv, cu, op) :: r)).length ≤ 200) (hr : r.length < 6) (hk : k < 1000) : F_M_size (r.length : Int) (k : Int) h = some (.inl (((pv ++ [cu]).getD k []).length : Int), h) := by
  have q := flk_le (pv ++ [cu]) k
  have q2 := flk_le (pv ++ [cu]) (k + 1)
  rw [flat_c, List.length_append] at hF
  unfold F_M_size
  rw [m_to z hr hk, bnd_l, m_from z hr hk, bnd_l]
  by_cases c : k < pv.length + 1
  · rw [if_pos c, if_pos c, gd_rg (by omega) (by omega), fl_len]
    congr 3
    omega
  · rw [if_neg c, if_neg c, gd_rg (by omega) (by omega), getD_out (by rw [List.length_append, List.length_singleton]; omega)]
    rfl
theorem m_seg (k : Nat) (z : ArgM h ((w, pv, cu, op) :: r)) (hF : (flat ((w, pv, cu, op) :: r)).length ≤ 200) : Seg h 112 ((flat r).length + ((pv ++ [cu]).take k).flatten.length) ((pv ++ [cu]).getD k []) ∧ (flat r).length + ((pv ++ [cu]).take k).flatten.length + ((pv ++ [cu]).getD k []).length ≤ 200 := by
  have s := z.2.2.1
  rw [flat_c] at s hF
  rw [fl_split (pv ++ [cu]) k] at s hF
  have s2 := (Seg.app.mp (Seg.app.mp s).2).2
  refine ⟨?_, ?_⟩
  · have q := (Seg.app.mp s2).1
    rw [Nat.zero_add] at q
    exact q
  · simp only [List.length_append] at hF
    omega
theorem ca_l {k : Nat} (z0 : ArgM h0 ((w, pv, cu, op) :: r)) (hr : r.length < 6) (hk : k < pv.length + 1) (hp4 : pv.length ≤ 4) : ∀ (t : List Int) (f j : Nat) (h : MH) (c : List Int), t.length < f → j + t.length = (flat r).length + ((pv ++ [cu]).take (k + 1)).flatten.length → j + t.length ≤ 200 → Seg h0 112 j t → (∀ x ∈ t, lgl x) → FP pC h0 h → Com h T c →
    ∃ h', itr (fun self (q : Int × Int × Int × MH) => F_M_comeArgument_7_b (fun v1 v2 v3 h => self (v1, v2, v3, h)) q.1 q.2.1 q.2.2.1 q.2.2.2) f ((r.length : Int), (k : Int), (j : Int), h) = some (.inl (), h') ∧ FP pC h0 h' ∧ Com h' T (c ++ t) := by
  intro t
  induction t with
  | nil =>
    intro f j h c hf hj hj2 s ht f0 y
    obtain ⟨f, rfl⟩ : ∃ g, f = g + 1 := ⟨f - 1, by omega⟩
    rw [List.length_nil] at hj
    refine ⟨h, ?_, f0, by rw [List.append_nil]; exact y⟩
    rw [itr_s]
    dsimp only
    rw [F_M_comeArgument_7_b, m_to (z0.fp f0 pC_A) hr (by omega), bnd_l, if_pos hk, if_pos (by omega)]
  | cons x t ih =>
    intro f j h c hf hj hj2 s ht f0 y
    obtain ⟨f, rfl⟩ : ∃ g, f = g + 1 := ⟨f - 1, by omega⟩
    rw [List.length_cons] at hj hj2 hf
    have hx := ht x List.mem_cons_self
    unfold lgl at hx
    obtain ⟨h1, e1, f1, y1⟩ := m_come (x := x) y (by omega) (by omega)
    obtain ⟨h2, e2, f2, y2⟩ := ih f (j + 1) h1 _ (by omega) (by omega) (by omega) s.2 (fun x hx => ht x (List.mem_cons_of_mem _ hx)) (f0.tr f1) y1
    refine ⟨h2, ?_, f2, by rw [List.append_assoc] at y2; exact y2⟩
    rw [itr_s]
    dsimp only
    rw [F_M_comeArgument_7_b, m_to (z0.fp f0 pC_A) hr (by omega), bnd_l, if_pos hk, if_neg (by omega), gd_b (by omega) (by omega), Int.toNat_natCast, f0.2.2 112 j (by unfold pC; omega), s.1, e1, bnd_l, gd_rg (by omega) (by omega), show (j : Int) + 1 = ((j + 1 : Nat) : Int) by omega]
    exact e2
theorem m_arg {k : Nat} (z : ArgM h ((w, pv, cu, op) :: r)) (hF : (flat ((w, pv, cu, op) :: r)).length ≤ 200) (hr : r.length < 6) (hk : k < 1000) (hl : ∀ x ∈ flat ((w, pv, cu, op) :: r), lgl x) (y : Com h T c) : ∃ h', F_M_comeArgument (r.length : Int) (k : Int) h = some (.inl (), h') ∧ FP pC h h' ∧ Com h' T (c ++ (pv ++ [cu]).getD k []) := by
  obtain ⟨s1, s2⟩ := m_seg k z hF
  have hp4 := z.2.2.2.2.2.2.1
  unfold F_M_comeArgument
  rw [m_from z hr hk, bnd_l]
  by_cases c1 : k < pv.length + 1
  · rw [if_pos c1]
    exact ca_l z hr c1 hp4 _ FU _ h c (by unfold FU; omega) (by rw [fl_len]; omega) (by omega) s1 (fun x hx => hl x (by rw [flat_c, fl_split (pv ++ [cu]) k]; exact List.mem_append.mpr (.inr (List.mem_append.mpr (.inr (List.mem_append.mpr (.inl hx))))))) FP.rf y
  · rw [if_neg c1, getD_out (by rw [List.length_append, List.length_singleton]; omega), List.append_nil]
    refine ⟨h, ?_, FP.rf, y⟩
    unfold F_M_comeArgument_7
    rw [show FU = 99999999 + 1 from rfl, itr_s]
    dsimp only
    rw [F_M_comeArgument_7_b, m_to z hr hk, bnd_l, if_neg c1, if_pos (by decide)]
end Ref1
