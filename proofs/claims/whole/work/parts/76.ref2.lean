/-! the reference's first mill: names and texts -/
section Ref2
variable {P Q : Nat → Nat → Prop} {h h' h'' h0 : MH} {T : Nat} {c : List Int} {w : Int} {pv : List (List Int)} {cu : List Int} {op : Nat} {r fs : List Fm1} {ds : List Nat} {wd tx : Nat → List Int}
theorem need_1 {v : Int} (e : mGi h 107 1 = 0) : F_M_need 1 v h = some (.inl 1, h) := by
  unfold F_M_need F_M_need_9
  rw [if_neg (by decide), e, if_pos rfl]
theorem need_0 {v : Int} (e : mGi h 107 1 = 0) (hv : v ≠ 0) : F_M_need 0 v h = some (.inl 0, mPi h 107 1 v) := by
  unfold F_M_need F_M_need_9 F_M_fail F_M_fail_16
  rw [if_pos rfl, e, if_pos rfl, sto_e, bnd_l, gi_s, if_neg hv]
theorem need_x {v x y : Int} (e : mGi h 107 1 = y) (hy : y ≠ 0) : ∃ h', F_M_need x v h = some (.inl 0, h') ∧ FP (fun _ _ => False) h h' := by
  unfold F_M_need F_M_need_9 F_M_fail F_M_fail_16
  by_cases c : x = 0
  · refine ⟨mPi h 107 1 y, ?_, rfl, rfl, fun b i _ => ?_⟩
    · rw [if_pos c, e, if_neg hy, sto_e, bnd_l, gi_s, if_neg hy]
    · rw [gi_pi]
      by_cases d : b = 107 ∧ i = 1
      · rw [if_pos d, d.1, d.2, e]
      · rw [if_neg d]
  · exact ⟨h, by rw [if_neg c, e, if_neg hy], FP.rf⟩
/-! words -/
theorem okc {l : List Int} (z : l.all cP = true) : ∀ c ∈ l, 0 < c ∧ c < 256 := fun c hc => by
  have q := List.all_eq_true.mp z c hc
  unfold cP at q
  rw [decide_eq_true_eq] at q
  omega
theorem wo_l {a : List Int} {p : Nat} (hp : p + a.length ≤ 200) (s : Seg h 112 p a) : ∀ (n f : Nat), n ≤ a.length → n + 1 < f → (a.drop n).all cP = true →
    itr (fun self (q : Int × Int × Int64 × Int × MH) => F_M_wordOf_55_b (fun v3 v5 v6 v8 h => self (v3, v5, v6, v8, h)) q.1 q.2.1 q.2.2.1 q.2.2.2.1 q.2.2.2.2) f ((p : Int), 1, encW (a.drop n), (n : Int) - 1, h) = some (.inl (if a.all cP = true then encW a else 0), h) := by
  intro n
  induction n with
  | zero =>
    intro f hn hf ha
    obtain ⟨f, rfl⟩ : ∃ g, f = g + 1 := ⟨f - 1, by omega⟩
    rw [List.drop_zero] at ha ⊢
    rw [itr_s]
    dsimp only
    rw [F_M_wordOf_55_b, if_pos (by omega)]
    unfold F_M_wordOf_103
    rw [if_neg (by decide), if_pos ha]
  | succ n ih =>
    intro f hn hf ha
    obtain ⟨f, rfl⟩ : ∃ g, f = g + 1 := ⟨f - 1, by omega⟩
    have ed : a.drop n = a.getD n 0 :: a.drop (n + 1) := by
      rw [List.drop_eq_getElem_cons (by omega), List.getD_eq_getElem?_getD, List.getElem?_eq_getElem (by omega)]
      rfl
    have hx := s.get n (by omega)
    rw [itr_s]
    dsimp only
    rw [F_M_wordOf_55_b, if_neg (by omega), if_neg (by decide), gd_rg (by omega) (by omega), gd_b (by omega) (by omega), isPt_e, bnd_l, show ((p : Int) + (((n + 1 : Nat) : Int) - 1)).toNat = p + n by omega, hx, gd_rg (by omega) (by omega), show ((n + 1 : Nat) : Int) - 1 + -1 = (n : Int) - 1 by omega]
    by_cases c1 : cP (a.getD n 0) = true
    · have q := ih f (by omega) (by omega) (by rw [ed, List.all_cons, c1, ha]; rfl)
      rw [ed] at q
      rw [c1]
      exact q
    · rw [Bool.eq_false_iff.mpr c1]
      have hno : ¬ a.all cP = true := fun q => c1 (List.all_eq_true.mp q _ (by rw [List.getD_eq_getElem?_getD, List.getElem?_eq_getElem (by omega)]; exact List.getElem_mem _))
      rw [if_neg hno]
      obtain ⟨f, rfl⟩ : ∃ g, f = g + 1 := ⟨f - 1, by omega⟩
      rw [itr_s]
      dsimp only
      rw [F_M_wordOf_55_b]
      unfold F_M_wordOf_103
      rw [if_pos (show bI false = 0 from rfl), if_pos (show bI false = 0 from rfl), ite_self]
/-- a word's long; 0 where it is no word -/
def w64 (a : List Int) : Int64 := if wordOk a = true then encW a else 0
theorem m_wordOf {k : Nat} (z : ArgM h ((w, pv, cu, op) :: r)) (hF : (flat ((w, pv, cu, op) :: r)).length ≤ 200) (hr : r.length < 6) (hk : k < 1000) : F_M_wordOf (r.length : Int) (k : Int) h = some (.inl (w64 ((pv ++ [cu]).getD k [])), h) := by
  obtain ⟨s1, s2⟩ := m_seg k z hF
  unfold F_M_wordOf
  rw [m_from z hr hk, bnd_l, m_size z hF hr hk, bnd_l]
  by_cases ck' : pv.length + 1 ≤ k
  · rw [getD_out (by rw [List.length_append, List.length_singleton]; omega), if_neg (show ¬ k < pv.length + 1 by omega), if_pos (by simp)]
    unfold F_M_wordOf_43 F_M_wordOf_44 F_M_wordOf_55
    rw [gd_rg (by simp) (by simp), show FU = 99999999 + 1 from rfl, itr_s]
    dsimp only
    rw [F_M_wordOf_55_b, if_pos (by simp)]
    rfl
  have ck : k < pv.length + 1 := by omega
  rw [if_pos ck]
  generalize (pv ++ [cu]).getD k [] = a at s1 s2 ⊢
  generalize (flat r).length + ((pv ++ [cu]).take k).flatten.length = p at s1 s2 ⊢
  have bad : F_M_wordOf_43 (p : Int) (a.length : Int) h = some (.inl 0, h) := by
    unfold F_M_wordOf_43 F_M_wordOf_44 F_M_wordOf_55
    rw [gd_rg (by omega) (by omega), show FU = 99999999 + 1 from rfl, itr_s]
    dsimp only
    rw [F_M_wordOf_55_b]
    unfold F_M_wordOf_103
    rw [if_pos (show (0 : Int) = 0 from rfl), if_pos (show (0 : Int) = 0 from rfl), ite_self]
  unfold w64 wordOk
  cases a with
  | nil => rw [if_pos (by simp), bad, if_neg (by simp)]
  | cons x t =>
    rw [if_neg (by rw [List.length_cons]; omega)]
    by_cases c1 : 9 ≤ (x :: t).length
    · rw [if_pos (by omega), bad, if_neg (by simp only [Bool.and_eq_true, decide_eq_true_eq]; omega)]
    · rw [List.length_cons] at s2
      rw [if_neg (by omega), gd_b (by omega) (by omega), isLt_e, bnd_l, Int.toNat_natCast, s1.1, show (x :: t).getD 0 0 = x from rfl]
      by_cases c2 : cL x = true
      · have q := wo_l (h := h) (a := x :: t) (p := p) (by rw [List.length_cons]; omega) s1 (x :: t).length FU (Nat.le_refl _) (by unfold FU; omega) (by rw [List.drop_of_length_le (Nat.le_refl _)]; rfl)
        rw [List.drop_of_length_le (Nat.le_refl _)] at q
        rw [if_neg (by rw [bI_0, c2]; decide)]
        unfold F_M_wordOf_44
        rw [gd_rg (by omega) (by omega)]
        refine Eq.trans q ?_
        rw [c2]
        congr 3
        have hd : decide (1 ≤ (x :: t).length ∧ (x :: t).length ≤ 8) = true := by rw [decide_eq_true_eq, List.length_cons] at *; omega
        rw [hd, Bool.true_and, Bool.true_and]
      · rw [if_pos (by rw [bI_0]; exact Bool.eq_false_iff.mpr c2), bad, if_neg (fun q => c2 (by simp only [Bool.and_eq_true] at q; exact q.1.2))]
/-! definitions -/
def OrM (h : MH) : Nat → List Nat → Prop
  | _, [] => True
  | p, d :: l => mGi h 116 p = (d : Int) ∧ OrM h (p + 1) l
theorem OrM.cg : ∀ {l : List Nat} {p : Nat}, (∀ j, p ≤ j → j < p + l.length → mGi h' 116 j = mGi h 116 j) → OrM h p l → OrM h' p l
  | [], _, _, _ => trivial
  | x :: l, p, e, z => ⟨(e p (Nat.le_refl _) (by rw [List.length_cons]; omega)).trans z.1, OrM.cg (fun j h1 h2 => e j (by omega) (by rw [List.length_cons]; omega)) z.2⟩
theorem OrM.app : ∀ {l1 : List Nat} {p : Nat} {l2 : List Nat}, OrM h p (l1 ++ l2) ↔ OrM h p l1 ∧ OrM h (p + l1.length) l2
  | [], p, l2 => ⟨fun z => ⟨trivial, z⟩, fun z => z.2⟩
  | x :: l, p, l2 => by
    have z := OrM.app (l1 := l) (p := p + 1) (l2 := l2)
    rw [List.length_cons, show p + (l.length + 1) = p + 1 + l.length by omega]
    exact ⟨fun q => ⟨⟨q.1, (z.mp q.2).1⟩, (z.mp q.2).2⟩, fun q => ⟨q.1.1, z.mpr ⟨q.1.2, q.2⟩⟩⟩
def DefM (h : MH) (ds : List Nat) (wd tx : Nat → List Int) (fs : List Fm1) : Prop := mGi h 107 6 = (ds.length : Int) ∧ OrM h 0 ds ∧ ∀ k, lv ds fs k → mGl h 114 k = encW (wd k) ∧ mGi h 115 k = ((tx k).length : Int) ∧ Seg h 111 (40 * k) (tx k)
def pD (b i : Nat) : Prop := b = 111 ∨ b = 115 ∨ b = 116 ∨ (b = 107 ∧ i = 6)
theorem DefM.fp (z : DefM h ds wd tx fs) (f : FP P h h') (hP : ∀ b i, P b i → ¬ pD b i) : DefM h' ds wd tx fs := by
  have g : ∀ b i, pD b i → mGi h' b i = mGi h b i := fun b i hp => f.2.2 b i (fun q => hP b i q hp)
  refine ⟨(g 107 6 (by unfold pD; omega)).trans z.1, OrM.cg (fun j _ _ => g 116 j (by unfold pD; omega)) z.2.1, fun k hk => ?_⟩
  obtain ⟨a, b, c⟩ := z.2.2 k hk
  exact ⟨(f.gl 114 k).trans a, (g 115 k (by unfold pD; omega)).trans b, Seg.cg (fun j _ _ => g 111 j (by unfold pD; omega)) c⟩
theorem pC_D : ∀ b i, pC b i → ¬ pD b i := fun b i => by unfold pC pD; omega
def latI : Option Nat → Int
  | none => -1
  | some k => (k : Int)
theorem ok_ne {a : List Int} (z : wordOk a = true) : encW a ≠ 0 := by
  have hl := wordOk_len z
  unfold wordOk at z
  simp only [Bool.and_eq_true, decide_eq_true_eq] at z
  intro e
  have := enc_inj (l' := []) hl (by simp) (okc z.2) (by simp) e
  rw [this] at z
  simp at z
theorem ok_all {a : List Int} (z : wordOk a = true) : a.all cP = true := by
  unfold wordOk at z
  simp only [Bool.and_eq_true] at z
  exact z.2
theorem w64_eq {a b : List Int} (z : wordOk b = true) : w64 a ≠ 0 → (encW b = w64 a ↔ b = a) := by
  intro h0
  unfold w64 at h0 ⊢
  by_cases c : wordOk a = true
  · rw [if_pos c]
    exact ⟨fun e => enc_inj (wordOk_len z) (wordOk_len c) (okc (ok_all z)) (okc (ok_all c)) e, fun e => by rw [e]⟩
  · rw [if_neg c] at h0
    exact absurd rfl h0
theorem lm_l {a : List Int} {n : Nat} (e6 : mGi h 107 6 = (n : Int)) (hn : n ≤ 10) (h0 : w64 a ≠ 0) : ∀ (l : List Nat) (f p : Nat) (v : Option Nat), l.length < f → p + l.length = n → OrM h p l → (∀ k ∈ l, k < 16 ∧ mGl h 114 k = encW (wd k) ∧ wordOk (wd k) = true) →
    itr (fun self (q : Int64 × Int × Int × MH) => F_M_latest_5_b (fun v1 v3 v4 h => self (v1, v3, v4, h)) q.1 q.2.1 q.2.2.1 q.2.2.2) f (w64 a, latI v, (p : Int), h) = some (.inl (latI (l.foldl (fun f i => if wd i = a then some i else f) v)), h) := by
  intro l
  induction l with
  | nil =>
    intro f p v hf hp z y
    obtain ⟨f, rfl⟩ : ∃ g, f = g + 1 := ⟨f - 1, by omega⟩
    rw [List.length_nil] at hp
    rw [itr_s]
    dsimp only
    rw [F_M_latest_5_b, e6, if_pos (by omega)]
    rfl
  | cons x l ih =>
    intro f p v hf hp z y
    obtain ⟨f, rfl⟩ : ∃ g, f = g + 1 := ⟨f - 1, by omega⟩
    rw [List.length_cons] at hp hf
    obtain ⟨y1, y2, y3⟩ := y x List.mem_cons_self
    rw [itr_s]
    dsimp only
    rw [F_M_latest_5_b, e6, if_neg (by omega), if_neg (fun q => h0 (lg_eq.mp q)), gd_b (by omega) (by omega), Int.toNat_natCast, z.1, gd_b (by omega) (by omega), Int.toNat_natCast, y2]
    unfold F_M_latest_47 F_M_latest_48
    rw [gd_rg (by omega) (by omega), gd_rg (by omega) (by omega), show (p : Int) + 1 = ((p + 1 : Nat) : Int) by omega, List.foldl_cons]
    by_cases c1 : wd x = a
    · rw [if_pos (lg_eq.mpr ((w64_eq y3 h0).mpr c1)), if_pos c1]
      exact ih f (p + 1) (some x) (by omega) (by omega) z.2 (fun k hk => y k (List.mem_cons_of_mem _ hk))
    · rw [if_neg (fun q => c1 ((w64_eq y3 h0).mp (lg_eq.mp q))), if_neg c1]
      exact ih f (p + 1) v (by omega) (by omega) z.2 (fun k hk => y k (List.mem_cons_of_mem _ hk))
theorem lz_l {n : Nat} (e6 : mGi h 107 6 = (n : Int)) (hn : n ≤ 10) : ∀ (q f p : Nat), p + q = n → q < f → itr (fun self (q : Int64 × Int × Int × MH) => F_M_latest_5_b (fun v1 v3 v4 h => self (v1, v3, v4, h)) q.1 q.2.1 q.2.2.1 q.2.2.2) f (0, -1, (p : Int), h) = some (.inl (-1), h) := by
  intro q
  induction q with
  | zero =>
    intro f p hp hf
    obtain ⟨f, rfl⟩ : ∃ g, f = g + 1 := ⟨f - 1, by omega⟩
    rw [itr_s]
    dsimp only
    rw [F_M_latest_5_b, e6, if_pos (by omega)]
  | succ q ih =>
    intro f p hp hf
    obtain ⟨f, rfl⟩ : ∃ g, f = g + 1 := ⟨f - 1, by omega⟩
    rw [itr_s]
    dsimp only
    rw [F_M_latest_5_b, e6, if_neg (by omega), if_pos (lg_eq.mpr rfl)]
    unfold F_M_latest_47 F_M_latest_48
    rw [gd_rg (by omega) (by omega), show (p : Int) + 1 = ((p + 1 : Nat) : Int) by omega]
    exact ih f (p + 1) (by omega) (by omega)
theorem m_latest {a : List Int} (z : DefM h ds wd tx fs) (hd : ds.length ≤ 10) (hw : wfD ds fs wd tx) : F_M_latest (w64 a) h = some (.inl (latI (lat wd a ds)), h) := by
  obtain ⟨z1, z2, z3⟩ := z
  by_cases c : w64 a = 0
  · have e : lat wd a ds = none := by
      cases q : lat wd a ds with
      | none => rfl
      | some k =>
        have r := lat_m ds.length ds rfl k q
        have o := (hw k (.inl r.1)).1
        rw [r.2] at o
        unfold w64 at c
        rw [if_pos o] at c
        exact absurd c (ok_ne o)
    rw [e, c]
    exact lz_l z1 hd ds.length FU 0 (by omega) (by unfold FU; omega)
  · exact lm_l z1 hd c ds FU 0 none (by unfold FU; omega) (by omega) z2 (fun k hk => ⟨(hw k (.inl hk)).2.2.1, (z3 k (.inl hk)).1, (hw k (.inl hk)).1⟩)
/-! a name comes -/
theorem cn_l {a : List Int} (ha : ∀ c ∈ a, 0 < c ∧ c < 256) (hl : a.length ≤ 8) : ∀ (q f k : Nat) (h : MH) (c : List Int), k + q = a.length → q + 1 < f → Com h T c → ∃ h', itr (fun self (q : Int64 × Int × MH) => F_M_comeName_2_b (fun v1 v3 h => self (v1, v3, h)) q.1 q.2.1 q.2.2) f (encW a, (k : Int), h) = some (.inl (), h') ∧ FP pC h h' ∧ Com h' T (c ++ a.drop k) := by
  have zz : ∀ c ∈ a, 0 ≤ c ∧ c < 256 := fun c hc => ⟨by have := ha c hc; omega, (ha c hc).2⟩
  intro q
  induction q with
  | zero =>
    intro f k h c hk hf y
    obtain ⟨f, rfl⟩ : ∃ g, f = g + 1 := ⟨f - 1, by omega⟩
    refine ⟨h, ?_, FP.rf, by rw [List.drop_of_length_le (by omega), List.append_nil]; exact y⟩
    rw [itr_s]
    dsimp only
    rw [F_M_comeName_2_b]
    by_cases c8 : k = 8
    · rw [if_pos (by omega)]
    · rw [if_neg (by omega), gd_rg (by omega) (by omega), if_pos]
      refine lg_eq.mpr ?_
      show bt (encW a) (k : Int) = 0
      rw [bt_e a zz k (by omega), List.getD_eq_getElem?_getD, List.getElem?_eq_none (by omega)]
      decide
  | succ q ih =>
    intro f k h c hk hf y
    obtain ⟨f, rfl⟩ : ∃ g, f = g + 1 := ⟨f - 1, by omega⟩
    have ed : a.drop k = a.getD k 0 :: a.drop (k + 1) := by
      rw [List.drop_eq_getElem_cons (by omega), List.getD_eq_getElem?_getD, List.getElem?_eq_getElem (by omega)]
      rfl
    have hx : 0 < a.getD k 0 ∧ a.getD k 0 < 256 := by
      rw [List.getD_eq_getElem?_getD, List.getElem?_eq_getElem (by omega)]
      exact ha _ (List.getElem_mem _)
    have hb : bi (encW a) (k : Int) = a.getD k 0 := bi_e zz (by omega)
    obtain ⟨h1, e1, f1, y1⟩ := m_come (x := a.getD k 0) y (by omega) (by omega)
    obtain ⟨h2, e2, f2, y2⟩ := ih f (k + 1) h1 _ (by omega) (by omega) y1
    refine ⟨h2, ?_, f1.tr f2, by rw [ed]; rw [List.append_assoc] at y2; exact y2⟩
    rw [itr_s]
    dsimp only
    rw [F_M_comeName_2_b, if_neg (by omega), gd_rg (by omega) (by omega), if_neg]
    · rw [show (((encW a >>> ((Int32.ofInt (8 * (k : Int))).toInt64 &&& 63)) &&& 255).toInt32.toInt) = a.getD k 0 from (and255_i _).trans hb, e1, bnd_l, gd_rg (by omega) (by omega), show (k : Int) + 1 = ((k + 1 : Nat) : Int) by omega]
      exact e2
    · intro q
      have q2 : bt (encW a) (k : Int) = 0 := lg_eq.mp q
      unfold bi at hb
      rw [q2] at hb
      have : (0 : Int64).toInt = 0 := by decide
      omega
theorem m_name {a : List Int} (z : wordOk a = true) (y : Com h T c) : ∃ h', F_M_comeName (encW a) h = some (.inl (), h') ∧ FP pC h h' ∧ Com h' T (c ++ a) := by
  have hl := wordOk_len z
  exact cn_l (okc (ok_all z)) hl a.length FU 0 h c (by omega) (by unfold FU; omega) y
/-! a text comes -/
def HM (h : MH) (f : Int) (a : List (List Int)) : Prop := (f = -1 ∧ a = []) ∨ ∃ w pv cu op r, f = (r.length : Int) ∧ a = pv ++ [cu] ∧ ArgM h ((w, pv, cu, op) :: r) ∧ (flat ((w, pv, cu, op) :: r)).length ≤ 200 ∧ r.length < 6 ∧ pv.length ≤ 4 ∧ ∀ x ∈ flat ((w, pv, cu, op) :: r), lgl x
theorem HM.len {a : List (List Int)} {f : Int} (z : HM h f a) : a.length ≤ 5 := by
  rcases z with ⟨-, rfl⟩ | ⟨w, pv, cu, op, r, -, rfl, -, -, -, q, -⟩
  · simp
  · simp; omega
theorem HM.fp {a : List (List Int)} {f : Int} (z : HM h f a) (ff : FP pC h h') : HM h' f a := by
  rcases z with z | ⟨w, pv, cu, op, r, e, rfl, q1, q2⟩
  · exact .inl z
  · exact .inr ⟨w, pv, cu, op, r, e, rfl, q1.fp ff pC_A, q2⟩
theorem HM.get {a : List (List Int)} {f : Int} {k : Nat} (z : HM h f a) (hk : k < 1000) (y : Com h T c) : ∃ h', F_M_comeArgument f (k : Int) h = some (.inl (), h') ∧ FP pC h h' ∧ Com h' T (c ++ a.getD k []) := by
  rcases z with ⟨rfl, rfl⟩ | ⟨w, pv, cu, op, r, rfl, rfl, q1, q2, q3, q4, q5⟩
  · refine ⟨h, ?_, FP.rf, by rw [getD_out (by simp), List.append_nil]; exact y⟩
    unfold F_M_comeArgument F_M_from F_M_from_28 F_M_comeArgument_7
    rw [if_pos (by decide), bnd_l, show FU = 99999999 + 1 from rfl, itr_s]
    dsimp only
    rw [F_M_comeArgument_7_b]
    unfold F_M_to F_M_to_14
    rw [if_pos (by decide), bnd_l, if_pos (by decide)]
  · exact m_arg q1 q2 q3 hk q5 y
theorem ct_l {s : Nat} {a : List (List Int)} {F : Int} {W X : List Int} (hs : s < 16) (zA : HM h0 F a) (ew : mGl h0 114 s = encW W) (hW : wordOk W = true) (et : mGi h0 115 s = (X.length : Int)) (sx : Seg h0 111 (40 * s) X) (hX : X.length ≤ 40) (lx : ∀ x ∈ X, lgl x) : ∀ (q f k : Nat) (h : MH) (c : List Int), (X.drop k).length ≤ q → q < f → k ≤ X.length → FP pC h0 h → Com h T c →
    ∃ h', itr (fun self (q : Int × Int × Int × Int × MH) => F_M_comeText_3_b (fun v1 v2 v3 v4 h => self (v1, v2, v3, v4, h)) q.1 q.2.1 q.2.2.1 q.2.2.2.1 q.2.2.2.2) f ((s : Int), F, (a.length : Int), (k : Int), h) = some (.inl (), h') ∧ FP pC h0 h' ∧ Com h' T (c ++ brT W a.length a (X.drop k)) := by
  intro q
  have hal := zA.len
  induction q with
  | zero =>
    intro f k h c hq hf hk f0 y
    obtain ⟨f, rfl⟩ : ∃ g, f = g + 1 := ⟨f - 1, by omega⟩
    have e0 : X.drop k = [] := List.eq_nil_of_length_eq_zero (by omega)
    rw [List.length_drop] at hq
    refine ⟨h, ?_, f0, ?_⟩
    · rw [itr_s]
      dsimp only
      rw [F_M_comeText_3_b, gd_b (by omega) (by omega), Int.toNat_natCast, f0.2.2 115 s (by unfold pC; omega), et, if_pos (by omega)]
    · rw [e0, brT, List.append_nil]
      exact y
  | succ q ih =>
    intro f k h c hq hf hk f0 y
    obtain ⟨f, rfl⟩ : ∃ g, f = g + 1 := ⟨f - 1, by omega⟩
    have ett : mGi h 115 s = (X.length : Int) := (f0.2.2 115 s (by unfold pC; omega)).trans et
    rw [itr_s]
    dsimp only
    rw [F_M_comeText_3_b, gd_b (by omega) (by omega), Int.toNat_natCast, ett]
    by_cases c0 : X.length ≤ k
    · have e0 : X.drop k = [] := List.drop_of_length_le c0
      rw [if_pos (by omega), e0, brT, List.append_nil]
      exact ⟨h, rfl, f0, y⟩
    · have ed : X.drop k = X.getD k 0 :: X.drop (k + 1) := by
        rw [List.drop_eq_getElem_cons (by omega), List.getD_eq_getElem?_getD, List.getElem?_eq_getElem (by omega)]
        rfl
      have hxl : ∀ j, j < X.length → lgl (X.getD j 0) := fun j hj => by
        rw [List.getD_eq_getElem?_getD, List.getElem?_eq_getElem hj]
        exact lx _ (List.getElem_mem _)
      have hcx : ∀ j, j < X.length → mGi h 111 (40 * s + j) = X.getD j 0 := fun j hj => (f0.2.2 111 _ (by unfold pC; omega)).trans (sx.get j hj)
      have g149 : ∀ (v : Int) (n : Nat) (h : MH) (c' : List Int), (v = 0 ∧ n = 1 ∨ v = 1 ∧ n = 2 ∧ k + 1 < X.length) → FP pC h0 h → Com h T c' → ∃ h', F_M_comeText_149 (fun v1 v2 v3 v4 h => itr (fun self (q : Int × Int × Int × Int × MH) => F_M_comeText_3_b (fun v1 v2 v3 v4 h => self (v1, v2, v3, v4, h)) q.1 q.2.1 q.2.2.1 q.2.2.2.1 q.2.2.2.2) f (v1, v2, v3, v4, h)) (s : Int) F (a.length : Int) (k : Int) v h = some (.inl (), h') ∧ FP pC h0 h' ∧ Com h' T (c' ++ brT W a.length a (X.drop (k + n))) := by
        intro v n h c' hv f0 y
        obtain ⟨h2, e2, f2, y2⟩ := ih f (k + n) h c' (by rw [List.length_drop] at hq ⊢; omega) (by omega) (by omega) f0 y
        refine ⟨h2, ?_, f2, y2⟩
        unfold F_M_comeText_149 F_M_comeText_161
        rcases hv with ⟨h1, h2⟩ | ⟨h1, h2, h3⟩
        · subst h2
          rw [if_pos h1, gd_rg (by omega) (by omega), gd_rg (by omega) (by omega), show (k : Int) + 0 + 1 = ((k + 1 : Nat) : Int) by omega]
          exact e2
        · subst h2
          rw [if_neg (by omega), gd_rg (by omega) (by omega), gd_rg (by omega) (by omega), show (k : Int) + 1 + 1 = ((k + 2 : Nat) : Int) by omega]
          exact e2
      have plain : ∀ d : Int, ∃ h', F_M_comeText_87 (fun v1 v2 v3 v4 h => itr (fun self (q : Int × Int × Int × Int × MH) => F_M_comeText_3_b (fun v1 v2 v3 v4 h => self (v1, v2, v3, v4, h)) q.1 q.2.1 q.2.2.1 q.2.2.2.1 q.2.2.2.2) f (v1, v2, v3, v4, h)) (s : Int) F (a.length : Int) (k : Int) (X.getD k 0) d h = some (.inl (), h') ∧ FP pC h0 h' ∧ Com h' T (c ++ (X.getD k 0 :: brT W a.length a (X.drop (k + 1)))) := by
        intro d
        have hx := hxl k (by omega)
        unfold lgl at hx
        obtain ⟨h1, e1, f1, y1⟩ := m_come (x := X.getD k 0) y (by omega) (by omega)
        obtain ⟨h2, e2, f2, y2⟩ := g149 0 1 h1 _ (.inl ⟨rfl, rfl⟩) (f0.tr f1) y1
        refine ⟨h2, ?_, f2, by rw [List.append_assoc] at y2; exact y2⟩
        unfold F_M_comeText_87 F_M_comeText_88
        rw [if_pos rfl, e1, bnd_l]
        exact e2
      rw [if_neg (by omega), gd_rg (by omega) (by omega), gd_rg (by omega) (by omega), gd_b (by omega) (by omega), gd_rg (by omega) (by omega), show (40 * (s : Int) + (k : Int)).toNat = 40 * s + k by omega, hcx k (by omega)]
      by_cases c1 : k + 1 < X.length
      · have ed2 : X.drop (k + 1) = X.getD (k + 1) 0 :: X.drop (k + 2) := by
          rw [List.drop_eq_getElem_cons (by omega), List.getD_eq_getElem?_getD, List.getElem?_eq_getElem (by omega)]
          rfl
        have eb : brT W a.length a (X.drop k) = if isSb (X.getD k 0) (X.getD (k + 1) 0) = true then sbT W a.length a (X.getD (k + 1) 0) ++ brT W a.length a (X.drop (k + 2)) else X.getD k 0 :: brT W a.length a (X.drop (k + 1)) := by
          rw [ed, ed2, brT]
        have sub : (X.getD (k + 1) 0 = 35 ∨ cD (X.getD (k + 1) 0) = true) → ∃ h', F_M_comeText_83 (fun v1 v2 v3 v4 h => itr (fun self (q : Int × Int × Int × Int × MH) => F_M_comeText_3_b (fun v1 v2 v3 v4 h => self (v1, v2, v3, v4, h)) q.1 q.2.1 q.2.2.1 q.2.2.2.1 q.2.2.2.2) f (v1, v2, v3, v4, h)) (s : Int) F (a.length : Int) (k : Int) (X.getD k 0) (X.getD (k + 1) 0) h = some (.inl (), h') ∧ FP pC h0 h' ∧ Com h' T (c ++ (sbT W a.length a (X.getD (k + 1) 0) ++ brT W a.length a (X.drop (k + 2)))) := by
          intro hd
          unfold F_M_comeText_83 F_M_comeText_88 sbT
          rw [if_neg (by decide)]
          by_cases d1 : X.getD (k + 1) 0 = 35
          · obtain ⟨h1, e1, f1, y1⟩ := m_num (v := (a.length : Int)) y (by omega) (by omega)
            obtain ⟨h2, e2, f2, y2⟩ := g149 1 2 h1 _ (.inr ⟨rfl, rfl, c1⟩) (f0.tr f1) y1
            rw [if_pos d1, if_pos d1, e1, bnd_l]
            exact ⟨h2, e2, f2, by rw [List.append_assoc] at y2; exact y2⟩
          · have hdd : cD (X.getD (k + 1) 0) = true := by rcases hd with hd | hd; exact absurd hd d1; exact hd
            unfold cD at hdd
            rw [decide_eq_true_eq] at hdd
            rw [if_neg d1, if_neg d1]
            by_cases d2 : X.getD (k + 1) 0 = 48
            · obtain ⟨h1, e1, f1, y1⟩ := m_name hW y
              obtain ⟨h2, e2, f2, y2⟩ := g149 1 2 h1 _ (.inr ⟨rfl, rfl, c1⟩) (f0.tr f1) y1
              rw [if_pos d2, if_pos d2, gd_b (by omega) (by omega), Int.toNat_natCast, f0.gl, ew, e1, bnd_l]
              exact ⟨h2, e2, f2, by rw [List.append_assoc] at y2; exact y2⟩
            · obtain ⟨h1, e1, f1, y1⟩ := (zA.fp f0).get (k := (X.getD (k + 1) 0 - 49).toNat) (by omega) y
              obtain ⟨h2, e2, f2, y2⟩ := g149 1 2 h1 _ (.inr ⟨rfl, rfl, c1⟩) (f0.tr f1) y1
              rw [if_neg d2, if_neg d2, gd_rg (by omega) (by omega)]
              rw [show (((X.getD (k + 1) 0 - 49).toNat : Nat) : Int) = X.getD (k + 1) 0 - 49 by omega] at e1
              rw [e1, bnd_l]
              exact ⟨h2, e2, f2, by rw [List.append_assoc] at y2; exact y2⟩
        rw [if_neg (by omega), gd_rg (by omega) (by omega), gd_b (by omega) (by omega), show (40 * (s : Int) + (k : Int) + 1).toNat = 40 * s + (k + 1) by omega, hcx (k + 1) c1, eb]
        unfold F_M_comeText_59
        by_cases c2 : X.getD k 0 = 36
        · rw [if_pos c2, isMD_e, bnd_l]
          by_cases c4 : cD (X.getD (k + 1) 0) = true
          · rw [if_neg (by rw [bI_0, c4]; decide), if_pos (isSb_i.mpr ⟨c2, .inr c4⟩)]
            exact sub (.inr c4)
          · rw [if_pos (by rw [bI_0]; exact Bool.eq_false_iff.mpr c4)]
            by_cases c3 : X.getD (k + 1) 0 = 35
            · rw [if_pos c3, if_pos (isSb_i.mpr ⟨c2, .inl c3⟩)]
              exact sub (.inl c3)
            · rw [if_neg c3, if_neg (fun q => by rcases (isSb_i.mp q).2 with q | q; exact c3 q; exact c4 q)]
              exact plain _
        · rw [if_neg c2, if_neg (fun q => c2 (isSb_i.mp q).1)]
          exact plain _
      · have e1 : X.drop (k + 1) = [] := List.drop_of_length_le (by omega)
        have eb : brT W a.length a (X.drop k) = X.getD k 0 :: brT W a.length a (X.drop (k + 1)) := by
          rw [ed, e1, brT, brT]
        rw [if_pos (by omega), eb]
        unfold F_M_comeText_59
        by_cases c2 : X.getD k 0 = 36
        · rw [if_pos c2, isMD_e, bnd_l, if_pos (by decide), if_neg (by decide)]
          exact plain _
        · rw [if_neg c2]
          exact plain _
theorem m_text {s : Nat} {a : List (List Int)} {F : Int} {W X : List Int} (hs : s < 16) (zA : HM h F a) (ew : mGl h 114 s = encW W) (hW : wordOk W = true) (et : mGi h 115 s = (X.length : Int)) (sx : Seg h 111 (40 * s) X) (hX : X.length ≤ 40) (lx : ∀ x ∈ X, lgl x) (y : Com h T []) : ∃ h', F_M_comeText (s : Int) F (a.length : Int) h = some (.inl (), h') ∧ FP pC h h' ∧ Com h' T (brT W a.length a X) := by
  obtain ⟨h1, e1, f1, y1⟩ := ct_l hs zA ew hW et sx hX lx X.length FU 0 h [] (by rw [List.drop_zero]; omega) (by unfold FU; omega) (by omega) FP.rf y
  exact ⟨h1, e1, f1, y1⟩
end Ref2
