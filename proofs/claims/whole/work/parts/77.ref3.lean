/-! the reference's first mill: definitions -/
section Ref3
variable {P Q : Nat → Nat → Prop} {h h' h'' h0 : MH} {T : Nat} {c : List Int} {w : Int} {pv : List (List Int)} {cu : List Int} {op : Nat} {r fs : List Fm1} {ds : List Nat} {wd tx : Nat → List Int}
/-- only these ints and longs of the names differ -/
def FL (P : Nat → Nat → Prop) (h h' : MH) : Prop := h'.1 = h.1 ∧ h'.2.2.2 = h.2.2.2 ∧ (∀ b i, ¬ P b i → mGi h' b i = mGi h b i) ∧ ∀ b i, b ≠ 114 → mGl h' b i = mGl h b i
theorem FP.fl (f : FP P h h') : FL P h h' := ⟨f.1, by rw [f.2.1], f.2.2, fun b i _ => f.gl b i⟩
theorem FL.tr (a : FL P h h') (b : FL P h' h'') : FL P h h'' := ⟨b.1.trans a.1, b.2.1.trans a.2.1, fun c i hc => (b.2.2.1 c i hc).trans (a.2.2.1 c i hc), fun c i hc => (b.2.2.2 c i hc).trans (a.2.2.2 c i hc)⟩
theorem FL.sub (a : FL P h h') (hs : ∀ b i, P b i → Q b i) : FL Q h h' := ⟨a.1, a.2.1, fun c i hc => a.2.2.1 c i (fun q => hc (hs c i q)), a.2.2.2⟩
theorem FL.pl {i : Nat} {x : Int64} (a : FL P h h') : FL P h (mPl h' 114 i x) := ⟨a.1, a.2.1, a.2.2.1, fun b j hb => by rw [gl_pl, if_neg (fun q => hb q.1)]; exact a.2.2.2 b j hb⟩
theorem FL.pi {a i : Nat} {x : Int} (f : FL P h h') (hp : P a i) : FL P h (mPi h' a i x) := by
  refine ⟨f.1, f.2.1, fun b j hb => ?_, f.2.2.2⟩
  rw [gi_pi, if_neg (fun q : b = a ∧ j = i => hb (by rw [q.1, q.2]; exact hp))]
  exact f.2.2.1 b j hb
/-! is a slot used? -/
theorem us_2 {n : Nat} {s : Int} (e7 : mGi h 107 7 = (n : Int)) (hn : n ≤ 6) : ∀ (q f p : Nat) (v : Int), p + q = n → q < f → (v = 0 ∨ v = 1) →
    ((v = 1 ∨ ∃ j, p ≤ j ∧ j < n ∧ mGi h 117 j = s) → itr (fun self (q : Int × Int × Int × MH) => F_M_isUsed_40_b (fun v1 v2 v3 h => self (v1, v2, v3, h)) q.1 q.2.1 q.2.2.1 q.2.2.2) f (s, v, (p : Int), h) = some (.inl 1, h)) ∧
    (¬ (v = 1 ∨ ∃ j, p ≤ j ∧ j < n ∧ mGi h 117 j = s) → itr (fun self (q : Int × Int × Int × MH) => F_M_isUsed_40_b (fun v1 v2 v3 h => self (v1, v2, v3, h)) q.1 q.2.1 q.2.2.1 q.2.2.2) f (s, v, (p : Int), h) = some (.inl 0, h)) := by
  intro q
  induction q with
  | zero =>
    intro f p v hp hf hv
    obtain ⟨f, rfl⟩ : ∃ g, f = g + 1 := ⟨f - 1, by omega⟩
    rw [itr_s]
    dsimp only
    rw [F_M_isUsed_40_b, e7, if_pos (by omega)]
    refine ⟨fun z => ?_, fun z => ?_⟩
    · rcases z with z | ⟨j, h1, h2, -⟩
      · rw [z, gd_01b]
      · omega
    · have : v = 0 := by rcases hv with q | q; exact q; exact absurd (.inl q) z
      rw [this, gd_01a]
  | succ q ih =>
    intro f p v hp hf hv
    obtain ⟨f, rfl⟩ : ∃ g, f = g + 1 := ⟨f - 1, by omega⟩
    rw [itr_s]
    dsimp only
    rw [F_M_isUsed_40_b, e7, if_neg (by omega)]
    unfold F_M_isUsed_62 F_M_isUsed_67
    rw [gd_rg (by omega) (by omega), gd_rg (by omega) (by omega), show (p : Int) + 1 = ((p + 1 : Nat) : Int) by omega]
    by_cases c : v = 0
    · rw [if_pos c, gd_b (by omega) (by omega), Int.toNat_natCast]
      by_cases d : mGi h 117 p = s
      · rw [if_pos d]
        have g := ih f (p + 1) 1 (by omega) (by omega) (.inr rfl)
        exact ⟨fun _ => g.1 (.inl rfl), fun z => absurd (.inr ⟨p, by omega, by omega, d⟩) z⟩
      · rw [if_neg d]
        have g := ih f (p + 1) 0 (by omega) (by omega) (.inl rfl)
        refine ⟨fun z => g.1 ?_, fun z => g.2 fun z' => z ?_⟩
        · rcases z with z | ⟨j, h1, h2, h3⟩
          · omega
          · refine .inr ⟨j, ?_, h2, h3⟩
            have : j ≠ p := fun q => d (q ▸ h3)
            omega
        · rcases z' with z | ⟨j, h1, h2, h3⟩
          · omega
          · exact .inr ⟨j, by omega, h2, h3⟩
    · rw [if_neg c]
      have g := ih f (p + 1) 1 (by omega) (by omega) (.inr rfl)
      have : v = 1 := by rcases hv with q | q; exact absurd q c; exact q
      exact ⟨fun _ => g.1 (.inl rfl), fun z => absurd (.inl this) z⟩
theorem us_1 {n m : Nat} {s : Int} (e6 : mGi h 107 6 = (m : Int)) (hm : m ≤ 10) (e7 : mGi h 107 7 = (n : Int)) (hn : n ≤ 6) : ∀ (q f p : Nat) (v : Int), p + q = m → q < f → (v = 0 ∨ v = 1) →
    (((v = 1 ∨ ∃ j, p ≤ j ∧ j < m ∧ mGi h 116 j = s) ∨ ∃ j, 0 ≤ j ∧ j < n ∧ mGi h 117 j = s) → itr (fun self (q : Int × Int × Int × MH) => F_M_isUsed_4_b (fun v1 v2 v3 h => self (v1, v2, v3, h)) q.1 q.2.1 q.2.2.1 q.2.2.2) f (s, v, (p : Int), h) = some (.inl 1, h)) ∧
    (¬ ((v = 1 ∨ ∃ j, p ≤ j ∧ j < m ∧ mGi h 116 j = s) ∨ ∃ j, 0 ≤ j ∧ j < n ∧ mGi h 117 j = s) → itr (fun self (q : Int × Int × Int × MH) => F_M_isUsed_4_b (fun v1 v2 v3 h => self (v1, v2, v3, h)) q.1 q.2.1 q.2.2.1 q.2.2.2) f (s, v, (p : Int), h) = some (.inl 0, h)) := by
  intro q
  induction q with
  | zero =>
    intro f p v hp hf hv
    obtain ⟨f, rfl⟩ : ∃ g, f = g + 1 := ⟨f - 1, by omega⟩
    rw [itr_s]
    dsimp only
    rw [F_M_isUsed_4_b, e6, if_pos (by omega)]
    have g := us_2 (h := h) (s := s) e7 hn n FU 0 v (by omega) (by unfold FU; omega) hv
    refine ⟨fun z => g.1 ?_, fun z => g.2 fun z' => z ?_⟩
    · rcases z with (z | ⟨j, h1, h2, h3⟩) | z
      · exact .inl z
      · omega
      · exact .inr z
    · rcases z' with z' | z'
      · exact .inl (.inl z')
      · exact .inr z'
  | succ q ih =>
    intro f p v hp hf hv
    obtain ⟨f, rfl⟩ : ∃ g, f = g + 1 := ⟨f - 1, by omega⟩
    rw [itr_s]
    dsimp only
    rw [F_M_isUsed_4_b, e6, if_neg (by omega)]
    unfold F_M_isUsed_26 F_M_isUsed_31
    rw [gd_rg (by omega) (by omega), gd_rg (by omega) (by omega), show (p : Int) + 1 = ((p + 1 : Nat) : Int) by omega]
    by_cases c : v = 0
    · rw [if_pos c, gd_b (by omega) (by omega), Int.toNat_natCast]
      by_cases d : mGi h 116 p = s
      · rw [if_pos d]
        have g := ih f (p + 1) 1 (by omega) (by omega) (.inr rfl)
        exact ⟨fun _ => g.1 (.inl (.inl rfl)), fun z => absurd (.inl (.inr ⟨p, by omega, by omega, d⟩)) z⟩
      · rw [if_neg d]
        have g := ih f (p + 1) 0 (by omega) (by omega) (.inl rfl)
        refine ⟨fun z => g.1 ?_, fun z => g.2 fun z' => z ?_⟩
        · rcases z with (z | ⟨j, h1, h2, h3⟩) | z
          · omega
          · refine .inl (.inr ⟨j, ?_, h2, h3⟩)
            have : j ≠ p := fun q => d (q ▸ h3)
            omega
          · exact .inr z
        · rcases z' with (z | ⟨j, h1, h2, h3⟩) | z
          · omega
          · exact .inl (.inr ⟨j, by omega, h2, h3⟩)
          · exact .inr z
    · rw [if_neg c]
      have g := ih f (p + 1) 1 (by omega) (by omega) (.inr rfl)
      have : v = 1 := by rcases hv with q | q; exact absurd q c; exact q
      exact ⟨fun _ => g.1 (.inl (.inl rfl)), fun z => absurd (.inl (.inl this)) z⟩
theorem OrM.mem : ∀ {l : List Nat} {p s : Nat}, OrM h p l → ((∃ j, p ≤ j ∧ j < p + l.length ∧ mGi h 116 j = (s : Int)) ↔ s ∈ l)
  | [], p, s, _ => ⟨fun ⟨j, h1, h2, _⟩ => by rw [List.length_nil] at h2; omega, fun q => by cases q⟩
  | x :: l, p, s, z => by
    have ih := OrM.mem (s := s) z.2
    rw [List.mem_cons, List.length_cons]
    refine ⟨fun ⟨j, h1, h2, h3⟩ => ?_, fun q => ?_⟩
    · by_cases c : j = p
      · rw [c, z.1] at h3
        exact .inl (by omega)
      · exact .inr (ih.mp ⟨j, by omega, by omega, h3⟩)
    · rcases q with q | q
      · exact ⟨p, by omega, by omega, by rw [z.1, q]⟩
      · obtain ⟨j, h1, h2, h3⟩ := ih.mpr q
        exact ⟨j, by omega, by omega, h3⟩
theorem FrM.mem : ∀ {fs : List Fm1} {s : Nat}, FrM h fs → ((∃ j, 0 ≤ j ∧ j < fs.length ∧ mGi h 117 j = (s : Int)) ↔ s ∈ idsF fs)
  | [], s, _ => ⟨fun ⟨j, h1, h2, _⟩ => by rw [List.length_nil] at h2; omega, fun q => by cases q⟩
  | (w, pv, cu, op) :: r, s, z => by
    have ih := FrM.mem (s := s) z.2.2.2.2.2
    rw [List.length_cons]
    unfold idsF
    refine ⟨fun ⟨j, h1, h2, h3⟩ => ?_, fun q => ?_⟩
    · by_cases c : j = r.length
      · rw [c, z.1] at h3
        rw [if_pos (by omega), List.mem_cons]
        exact .inl (by omega)
      · have q := ih.mp ⟨j, by omega, by omega, h3⟩
        split
        · exact List.mem_cons_of_mem _ q
        · exact q
    · by_cases c : 0 ≤ w
      · rw [if_pos c, List.mem_cons] at q
        rcases q with q | q
        · exact ⟨r.length, by omega, by omega, by rw [z.1]; omega⟩
        · obtain ⟨j, h1, h2, h3⟩ := ih.mpr q
          exact ⟨j, by omega, by omega, h3⟩
      · rw [if_neg c] at q
        obtain ⟨j, h1, h2, h3⟩ := ih.mpr q
        exact ⟨j, by omega, by omega, h3⟩
theorem m_used {s : Nat} (z : DefM h ds wd tx fs) (a : ArgM h fs) (hd : ds.length ≤ 10) (hf : fs.length ≤ 6) : F_M_isUsed (s : Int) h = some (.inl (bI (usedB ds fs s)), h) := by
  have g := us_1 (h := h) (s := (s : Int)) z.1 hd a.1 hf ds.length FU 0 0 (by omega) (by unfold FU; omega) (.inl rfl)
  have o := OrM.mem (s := s) z.2.1
  have m := FrM.mem (s := s) a.2.2.2
  unfold usedB
  by_cases c : s ∈ ds ∨ s ∈ idsF fs
  · rw [decide_eq_true c]
    refine g.1 ?_
    rcases c with c | c
    · obtain ⟨j, h1, h2, h3⟩ := o.mpr c
      exact .inl (.inr ⟨j, h1, by omega, h3⟩)
    · exact .inr (m.mpr c)
  · rw [decide_eq_false c]
    refine g.2 fun q => c ?_
    rcases q with (q | ⟨j, h1, h2, h3⟩) | q
    · cases q
    · exact .inl (o.mp ⟨j, h1, by omega, h3⟩)
    · exact .inr (m.mp q)
/-! a definition's text -/
def pTx (s b i : Nat) : Prop := (b = 111 ∧ 40 * s ≤ i ∧ i < 40 * s + 40) ∨ (b = 115 ∧ i = s)
theorem dt_l {s : Nat} (hs : s < 16) (z0 : ArgM h0 ((w, pv, cu, op) :: r)) (hF : (flat ((w, pv, cu, op) :: r)).length ≤ 200) (hr : r.length < 6) (h40 : ((pv ++ [cu]).getD 1 []).length ≤ 40) : ∀ (q f k : Nat) (h : MH), k + q = ((pv ++ [cu]).getD 1 []).length → q < f → FP (pTx s) h0 h → Seg h 111 (40 * s) (((pv ++ [cu]).getD 1 []).take k) →
    ∃ h', itr (fun self (q : Int × Int × Int × Int × MH) => F_M_define_135_b (fun v1 v5 v6 v7 h => self (v1, v5, v6, v7, h)) q.1 q.2.1 q.2.2.1 q.2.2.2.1 q.2.2.2.2) f ((r.length : Int), (((pv ++ [cu]).getD 1 []).length : Int), (s : Int), (k : Int), h) = some (.inl (), h') ∧ FP (pTx s) h0 h' ∧ Seg h' 111 (40 * s) ((pv ++ [cu]).getD 1 []) ∧ mGi h' 115 s = mGi h 115 s := by
  intro q
  induction q with
  | zero =>
    intro f k h hk hf f0 y
    obtain ⟨f, rfl⟩ : ∃ g, f = g + 1 := ⟨f - 1, by omega⟩
    refine ⟨h, ?_, f0, by rw [List.take_of_length_le (by omega)] at y; exact y, rfl⟩
    rw [itr_s]
    dsimp only
    rw [F_M_define_135_b, if_pos (by omega)]
  | succ q ih =>
    intro f k h hk hf f0 y
    obtain ⟨f, rfl⟩ : ∃ g, f = g + 1 := ⟨f - 1, by omega⟩
    obtain ⟨s1, s2⟩ := m_seg 1 z0 hF
    have c1 : 1 < pv.length + 1 := by
      have : ¬ (pv ++ [cu]).length ≤ 1 := fun q => by rw [getD_out q] at hk; simp at hk
      rw [List.length_append, List.length_singleton] at this
      omega
    have z : ArgM h ((w, pv, cu, op) :: r) := z0.fp f0 (fun b i => by unfold pTx pA; omega)
    have g1 := m_from (k := 1) z hr (by omega)
    rw [if_pos c1, show ((1 : Nat) : Int) = 1 from rfl] at g1
    have gx : mGi h 112 ((flat r).length + ((pv ++ [cu]).take 1).flatten.length + k) = ((pv ++ [cu]).getD 1 []).getD k 0 := (f0.2.2 112 _ (by unfold pTx; omega)).trans (s1.get k (by omega))
    obtain ⟨h2, e2, f2, y2, y3⟩ := ih f (k + 1) (mPi h 111 (40 * s + k) (((pv ++ [cu]).getD 1 []).getD k 0)) (by omega) (by omega) (f0.pi (by unfold pTx; omega)) (by
      rw [List.take_add_one, Seg.app]
      refine ⟨y.pio (by rw [List.length_take]; omega), ?_⟩
      rw [List.length_take, Nat.min_eq_left (by omega), List.getElem?_eq_getElem (by omega)]
      refine Seg.one ?_
      rw [gi_s, List.getD_eq_getElem?_getD (i := k), List.getElem?_eq_getElem (by omega)]
      rfl)
    refine ⟨h2, ?_, f2, y2, y3.trans (by rw [gi_pi, if_neg (by omega)])⟩
    rw [itr_s]
    dsimp only
    rw [F_M_define_135_b, if_neg (by omega), gd_rg (by omega) (by omega), gd_rg (by omega) (by omega), g1, bnd_l, gd_rg (by omega) (by omega), gd_b (by omega) (by omega), gd_b (by omega) (by omega)]
    simp only [sto_e]
    rw [gd_rg (by omega) (by omega), show (40 * (s : Int) + (k : Int)).toNat = 40 * s + k by omega, show ((((flat r).length + ((pv ++ [cu]).take 1).flatten.length : Nat) : Int) + (k : Int)).toNat = (flat r).length + ((pv ++ [cu]).take 1).flatten.length + k by omega, gx, show (k : Int) + 1 = ((k + 1 : Nat) : Int) by omega]
    exact e2
theorem m_123 {s : Nat} (hs : s < 16) (z : ArgM h ((w, pv, cu, op) :: r)) (hF : (flat ((w, pv, cu, op) :: r)).length ≤ 200) (hr : r.length < 6) (h40 : ((pv ++ [cu]).getD 1 []).length ≤ 40) : ∃ h', F_M_define_123 (r.length : Int) (((pv ++ [cu]).getD 1 []).length : Int) (s : Int) h = some (.inl (), h') ∧ FP (pTx s) h h' ∧ Seg h' 111 (40 * s) ((pv ++ [cu]).getD 1 []) ∧ mGi h' 115 s = (((pv ++ [cu]).getD 1 []).length : Int) := by
  have f0 : FP (pTx s) h (mPi h 115 s (((pv ++ [cu]).getD 1 []).length : Int)) := FP.pi FP.rf (by unfold pTx; omega)
  obtain ⟨h1, e1, f1, y1, y2⟩ := dt_l hs z hF hr h40 ((pv ++ [cu]).getD 1 []).length FU 0 (mPi h 115 s (((pv ++ [cu]).getD 1 []).length : Int)) (by omega) (by unfold FU; omega) f0 trivial
  refine ⟨h1, ?_, f1, y1, y2.trans gi_s⟩
  unfold F_M_define_123
  rw [gd_b (by omega) (by omega), Int.toNat_natCast, sto_e]
  exact e1
theorem nid_ge : ∀ (q n : Nat), n ≤ nid ds fs q n
  | 0, n => Nat.le_refl _
  | q + 1, n => by
    rw [nid]
    split
    · have := nid_ge q (n + 1); omega
    · exact Nat.le_refl _
theorem du_l (z : DefM h ds wd tx fs) (a : ArgM h fs) (hd : ds.length < 10) (hf : fs.length ≤ 6) {v : Int64} {v1 v5 : Int} : ∀ (q f n : Nat), q < f → nid ds fs q n < 16 → usedB ds fs (nid ds fs q n) = false → itr (fun self (q : Int × Int64 × Int × Int × MH) => F_M_define_79_b (fun v1 v3 v5 v6 h => self (v1, v3, v5, v6, h)) q.1 q.2.1 q.2.2.1 q.2.2.2.1 q.2.2.2.2) f (v1, v, v5, (n : Int), h) = F_M_define_123 v1 v5 ((nid ds fs q n : Nat) : Int) (mPi (mPi (mPl h 114 (nid ds fs q n) v) 116 ds.length ((nid ds fs q n : Nat) : Int)) 107 6 ((ds.length : Int) + 1)) := by
  intro q
  induction q with
  | zero =>
    intro f n hf' hn hu
    obtain ⟨f, rfl⟩ : ∃ g, f = g + 1 := ⟨f - 1, by omega⟩
    rw [nid] at hn hu ⊢
    rw [itr_s]
    dsimp only
    rw [F_M_define_79_b, m_used z a (by omega) hf, bnd_l, if_pos (by rw [hu]; rfl), gd_b (by omega) (by omega)]
    simp only [sto_e]
    rw [gi_pl, z.1, gd_b (by omega) (by omega), gi_pi, if_neg (by omega), gi_pl, z.1, gd_rg (by omega) (by omega), Int.toNat_natCast, Int.toNat_natCast]
  | succ q ih =>
    intro f n hf' hn hu
    obtain ⟨f, rfl⟩ : ∃ g, f = g + 1 := ⟨f - 1, by omega⟩
    rw [nid] at hn hu ⊢
    rw [itr_s]
    dsimp only
    rw [F_M_define_79_b, m_used z a (by omega) hf, bnd_l]
    by_cases c : usedB ds fs n = true
    · rw [if_pos c] at hn hu ⊢
      have hb := nid_ge (ds := ds) (fs := fs) q (n + 1)
      rw [if_neg (by rw [bI_0, c]; decide), gd_rg (by omega) (by omega), show (n : Int) + 1 = ((n + 1 : Nat) : Int) by omega]
      exact ih f (n + 1) (by omega) hn hu
    · rw [if_neg c] at hn hu ⊢
      rw [if_pos (by rw [hu]; rfl), gd_b (by omega) (by omega)]
      simp only [sto_e]
      rw [gi_pl, z.1, gd_b (by omega) (by omega), gi_pi, if_neg (by omega), gi_pl, z.1, gd_rg (by omega) (by omega), Int.toNat_natCast, Int.toNat_natCast]
end Ref3
