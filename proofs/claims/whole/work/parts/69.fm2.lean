/-! the class's first mill: increment, define, calls -/
section Fm2
variable {B h h0 h' : MH} {m : Nat → Nat} {ds : List Nat} {wd tx : Nat → List Int} {fs r : List Fm1} {w : Int} {pv : List (List Int)} {cu i o : List Int} {op p : Nat}
theorem all_c {g : List Int} {x : Int} (q : (x :: g).all cD = true) : cD x = true ∧ g.all cD = true := by
  rw [List.all_cons, Bool.and_eq_true] at q
  exact q
theorem pw9 {k : Nat} (hk : k ≤ 9) : (10 : Int) ^ k ≤ 1000000000 := by
  have : k = 0 ∨ k = 1 ∨ k = 2 ∨ k = 3 ∨ k = 4 ∨ k = 5 ∨ k = 6 ∨ k = 7 ∨ k = 8 ∨ k = 9 := by omega
  rcases this with rfl | rfl | rfl | rfl | rfl | rfl | rfl | rfl | rfl | rfl <;> decide
theorem inc_b {a b g : Int} {v : Nat} (hb : a + b = (v : Int)) (hv : v ≤ 200) : ∀ (t : List Int) (f j : Nat) (x : Int), t.length < f → j + t.length = v → Seg h 79 j t → 0 ≤ x → x < 10 ^ (9 - t.length) → t.length ≤ 9 → t.all cD = true →
    0 ≤ numV x t ∧ numV x t < 1000000000 ∧ itr (fun self (q : Int × Int × Int × Int × Int × MH) => F_Fm_increment_73_b (fun v1 v2 v4 v6 v7 h => self (v1, v2, v4, v6, v7, h)) q.1 q.2.1 q.2.2.1 q.2.2.2.1 q.2.2.2.2.1 q.2.2.2.2.2) f (a, b, g, x, (j : Int), h) = if g = 0 then F_Fm_increment_134 (numV x t) h else F_Fm_increment_134 (-numV x t) h := by
  intro t
  induction t with
  | nil =>
    intro f j x hf hj s x0 x1 hl ha
    obtain ⟨f, rfl⟩ : ∃ g, f = g + 1 := ⟨f - 1, by omega⟩
    rw [List.length_nil] at hj x1
    have := pw9 (k := 9 - 0) (by omega)
    refine ⟨x0, by show x < _; omega, ?_⟩
    rw [itr_s]
    dsimp only
    rw [F_Fm_increment_73_b, hb, gd_rg (by omega) (by omega), if_pos (by omega)]
    show (if g = 0 then F_Fm_increment_134 x h else gd (inR (-x)) (F_Fm_increment_134 (-x) h)) = _
    rw [gd_rg (by omega) (by omega)]
    rfl
  | cons y t ih =>
    intro f j x hf hj s x0 x1 hl ha
    obtain ⟨f, rfl⟩ : ∃ g, f = g + 1 := ⟨f - 1, by omega⟩
    rw [List.length_cons] at hj x1 hl hf
    obtain ⟨a1, a2⟩ := all_c ha
    have hd := a1
    unfold cD at hd
    rw [decide_eq_true_eq] at hd
    have p1 := pw9 (k := 9 - (t.length + 1)) (by omega)
    have p2 : (10 : Int) ^ (9 - t.length) = 10 ^ (9 - (t.length + 1)) * 10 := by rw [← Int.pow_succ]; congr 1; omega
    have q := ih f (j + 1) (x * 10 + y - 48) (by omega) (by omega) s.2 (by omega) (by rw [p2]; omega) (by omega) a2
    refine ⟨q.1, q.2.1, ?_⟩
    rw [itr_s]
    dsimp only
    rw [F_Fm_increment_73_b, hb, gd_rg (by omega) (by omega), if_neg (by omega), gd_b (by omega) (by omega), isDg_e, bnd_l, Int.toNat_natCast, s.1, if_neg (by rw [bI_0, a1]; decide)]
    unfold F_Fm_increment_96
    have pp := pw9 (k := 9 - t.length) (by omega)
    rw [Int.toNat_natCast, s.1, gd_rg (by omega) (by omega), gd_b (by omega) (by omega), gd_rg (by omega) (by omega), gd_rg (by omega) (by omega), gd_rg (by omega) (by omega)]
    exact q.2.2
theorem inc_x {a b g : Int} {v : Nat} (hb : a + b = (v : Int)) (hv : v ≤ 200) (rr : RS Unit) (hr : ∀ K, bnd (F_Fm_fail 5 h) K = rr) : ∀ (t : List Int) (f j : Nat) (x : Int), t.length < f → j + t.length = v → Seg h 79 j t → 0 ≤ x → x < 10 ^ (9 - t.length) → t.length ≤ 9 → ¬ t.all cD = true →
    itr (fun self (q : Int × Int × Int × Int × Int × MH) => F_Fm_increment_73_b (fun v1 v2 v4 v6 v7 h => self (v1, v2, v4, v6, v7, h)) q.1 q.2.1 q.2.2.1 q.2.2.2.1 q.2.2.2.2.1 q.2.2.2.2.2) f (a, b, g, x, (j : Int), h) = rr := by
  intro t
  induction t with
  | nil => intro f j x hf hj s x0 x1 hl ha; exact absurd rfl ha
  | cons y t ih =>
    intro f j x hf hj s x0 x1 hl ha
    obtain ⟨f, rfl⟩ : ∃ g, f = g + 1 := ⟨f - 1, by omega⟩
    rw [List.length_cons] at hj x1 hl hf
    rw [itr_s]
    dsimp only
    rw [F_Fm_increment_73_b, hb, gd_rg (by omega) (by omega), if_neg (by omega), gd_b (by omega) (by omega), isDg_e, bnd_l, Int.toNat_natCast, s.1]
    by_cases a1 : cD y = true
    · have hd := a1
      unfold cD at hd
      rw [decide_eq_true_eq] at hd
      have p1 := pw9 (k := 9 - (t.length + 1)) (by omega)
      have p2 : (10 : Int) ^ (9 - t.length) = 10 ^ (9 - (t.length + 1)) * 10 := by rw [← Int.pow_succ]; congr 1; omega
      have q := ih f (j + 1) (x * 10 + y - 48) (by omega) (by omega) s.2 (by omega) (by rw [p2]; omega) (by omega) (fun q => ha (by rw [List.all_cons, a1, q]; rfl))
      rw [if_neg (by rw [bI_0, a1]; decide)]
      unfold F_Fm_increment_96
      have pp := pw9 (k := 9 - t.length) (by omega)
      rw [Int.toNat_natCast, s.1, gd_rg (by omega) (by omega), gd_b (by omega) (by omega), gd_rg (by omega) (by omega), gd_rg (by omega) (by omega), gd_rg (by omega) (by omega)]
      exact q
    · rw [if_pos (by rw [bI_0]; exact Bool.eq_false_iff.mpr a1)]
      exact hr _
/-- what of an argument are its digits -/
def digs (a : List Int) : List Int := if decide (a.getD 0 0 = 45) = true then a.drop 1 else a
theorem cf_inc {a : List Int} {q : Nat} (s : Seg h 79 q a) (hq : q + a.length ≤ 200) (y : Let h 84 500 []) :
    ((1 ≤ (digs a).length ∧ (digs a).length ≤ 9 ∧ (digs a).all cD = true) → ∃ h', F_Fm_increment (q : Int) (a.length : Int) h = some (.inl (), h') ∧ Fr [84, 85] h h' ∧ Let h' 84 500 (numL ((if decide (a.getD 0 0 = 45) = true then - numV 0 (digs a) else numV 0 (digs a)) + 1))) ∧
    (¬ (1 ≤ (digs a).length ∧ (digs a).length ≤ 9 ∧ (digs a).all cD = true) → ∀ rr, (∀ K, bnd (F_Fm_fail 5 h) K = rr) → F_Fm_increment (q : Int) (a.length : Int) h = rr) := by
  have main : ∀ (g : Int) (t : List Int), (g = 0 ∨ g = 1) → Seg h 79 (q + a.length - t.length) t → t.length ≤ a.length →
      ((1 ≤ t.length ∧ t.length ≤ 9 ∧ t.all cD = true) → ∃ h', F_Fm_increment_42 (q : Int) (a.length : Int) g (t.length : Int) h = some (.inl (), h') ∧ Fr [84, 85] h h' ∧ Let h' 84 500 (numL ((if g = 0 then numV 0 t else - numV 0 t) + 1))) ∧
      (¬ (1 ≤ t.length ∧ t.length ≤ 9 ∧ t.all cD = true) → ∀ rr, (∀ K, bnd (F_Fm_fail 5 h) K = rr) → F_Fm_increment_42 (q : Int) (a.length : Int) g (t.length : Int) h = rr) := by
    intro g t hg st ht
    unfold F_Fm_increment_42
    refine ⟨fun ⟨k1, k2, k3⟩ => ?_, fun hn rr hr => ?_⟩
    · rw [if_neg (by omega), if_pos (by omega)]
      unfold F_Fm_increment_62
      obtain ⟨n1, n2, n3⟩ := inc_b (h := h) (a := (q : Int)) (b := (a.length : Int)) (g := g) (v := q + a.length) (by omega) hq t FU (q + a.length - t.length) 0 (by unfold FU; omega) (by omega) st (by omega) (p10 _) k2 k3
      rw [gd_rg (by omega) (by omega), gd_rg (by omega) (by omega), show (q : Int) + (a.length : Int) - (t.length : Int) = ((q + a.length - t.length : Nat) : Int) by omega]
      unfold F_Fm_increment_73
      rw [n3]
      unfold F_Fm_increment_134
      by_cases c : g = 0
      · rw [if_pos c, if_pos c, gd_rg (by omega) (by omega)]
        obtain ⟨h1, e1, f1, y1⟩ := let_num (v := numV 0 t + 1) y (by decide) (by omega) (by omega)
        rw [e1, bnd_l]
        exact ⟨h1, rfl, f1, y1⟩
      · rw [if_neg c, if_neg c, gd_rg (by omega) (by omega)]
        obtain ⟨h1, e1, f1, y1⟩ := let_num (v := -numV 0 t + 1) y (by decide) (by omega) (by omega)
        rw [e1, bnd_l]
        exact ⟨h1, rfl, f1, y1⟩
    · by_cases k1 : t.length < 1
      · rw [if_pos (by omega)]
        unfold F_Fm_increment_57
        exact hr _
      · rw [if_neg (by omega)]
        by_cases k2 : t.length ≤ 9
        · rw [if_pos (by omega)]
          unfold F_Fm_increment_62
          have n3 := inc_x (h := h) (a := (q : Int)) (b := (a.length : Int)) (g := g) (v := q + a.length) (by omega) hq rr hr t FU (q + a.length - t.length) 0 (by unfold FU; omega) (by omega) st (by omega) (p10 _) k2 (fun k3 => hn ⟨by omega, k2, k3⟩)
          rw [gd_rg (by omega) (by omega), gd_rg (by omega) (by omega), show (q : Int) + (a.length : Int) - (t.length : Int) = ((q + a.length - t.length : Nat) : Int) by omega]
          exact n3
        · rw [if_neg (by omega)]
          unfold F_Fm_increment_57
          exact hr _
  have hd : F_Fm_increment (q : Int) (a.length : Int) h = if decide (a.getD 0 0 = 45) = true then F_Fm_increment_42 (q : Int) (a.length : Int) 1 ((a.drop 1).length : Int) h else F_Fm_increment_42 (q : Int) (a.length : Int) 0 (a.length : Int) h := by
    unfold F_Fm_increment F_Fm_increment_27
    cases a with
    | nil =>
      rw [if_pos (by simp), if_neg (by simp)]
      unfold F_Fm_increment_28
      rw [if_pos rfl]
    | cons x t =>
      rw [List.length_cons] at hq
      rw [if_neg (by rw [List.length_cons]; omega), gd_b (by omega) (by omega), Int.toNat_natCast, s.1]
      have e : ((x :: t).getD 0 0 = 45) = (x = 45) := rfl
      by_cases c : x = 45
      · rw [if_pos c, if_pos (by simp [c])]
        unfold F_Fm_increment_28
        rw [if_neg (by decide), gd_rg (by rw [List.length_cons]; omega) (by rw [List.length_cons]; omega), show (((x :: t).length : Nat) : Int) - 1 = (t.length : Int) by rw [List.length_cons]; omega]
        rfl
      · rw [if_neg c, if_neg (by simp [c])]
        unfold F_Fm_increment_28
        rw [if_pos rfl]
  rw [hd]
  unfold digs
  by_cases c : decide (a.getD 0 0 = 45) = true
  · simp only [if_pos c]
    have ha : 1 ≤ a.length := by
      cases a with
      | nil => simp at c
      | cons x t => simp
    have z := main 1 (a.drop 1) (.inr rfl) (by rw [List.length_drop, show q + a.length - (a.length - 1) = q + 1 by omega]; exact s.drop 1 ha) (by rw [List.length_drop]; omega)
    exact z
  · simp only [if_neg c]
    have z := main 0 a (.inl rfl) (by rw [show q + a.length - a.length = q by omega]; exact s) (Nat.le_refl _)
    exact z
/-! define -/
def DS : List Nat := 6 :: 10 :: List.range' 11 64
theorem mDS {b : Nat} : b ∈ DS ↔ b = 6 ∨ b = 10 ∨ (11 ≤ b ∧ b < 75) := by
  unfold DS
  rw [List.mem_cons, List.mem_cons, List.mem_range'_1]
theorem wlen_all {w : List Int} : (w.takeWhile cP).length = w.length ↔ w.all cP = true := by
  induction w with
  | nil => simp
  | cons x t ih =>
    rw [List.takeWhile_cons, List.all_cons]
    by_cases c : cP x = true
    · rw [if_pos c, c, List.length_cons, List.length_cons]
      simp only [Bool.true_and]
      rw [← ih]
      omega
    · rw [if_neg c, Bool.eq_false_iff.mpr c]
      simp
theorem cf_def {kn : Option Nat} (zA : ArgC h ((w, pv, cu, op) :: r)) (hF : (flat ((w, pv, cu, op) :: r)).length ≤ 200) (hr : r.length < 6) (zD : DefC h m ds wd tx fs) (hfs : fs.length ≤ 6) (hd : ds.length ≤ 10) (hkn : ∀ k, kn = some k → k ∈ ds) (rr : RS Unit) (hrr : ∀ K, bnd (F_Fm_fail 1 h) K = rr) :
    (¬ wordOk ((pv ++ [cu]).getD 0 []) = true → F_Fm_define (latV m kn) h = some (.inl (), h)) ∧
    (wordOk ((pv ++ [cu]).getD 0 []) = true → 40 < ((pv ++ [cu]).getD 1 []).length → F_Fm_define (latV m kn) h = rr) ∧
    (wordOk ((pv ++ [cu]).getD 0 []) = true → ((pv ++ [cu]).getD 1 []).length ≤ 40 → ∀ k, kn = some k → ∃ h', F_Fm_define (latV m kn) h = some (.inl (), h') ∧ Fr DS h h' ∧ DefC h' m ds wd (updL tx k ((pv ++ [cu]).getD 1 [])) fs) ∧
    (wordOk ((pv ++ [cu]).getD 0 []) = true → ((pv ++ [cu]).getD 1 []).length ≤ 40 → kn = none → 10 ≤ ds.length → F_Fm_define (latV m kn) h = rr) ∧
    (wordOk ((pv ++ [cu]).getD 0 []) = true → ((pv ++ [cu]).getD 1 []).length ≤ 40 → kn = none → ds.length < 10 → ∀ id, ¬ lv ds fs id → ∃ h' m', F_Fm_define (latV m kn) h = some (.inl (), h') ∧ Fr DS h h' ∧ DefC h' m' (ds ++ [id]) (updL wd id ((pv ++ [cu]).getD 0 [])) (updL tx id ((pv ++ [cu]).getD 1 [])) fs) := by
  obtain ⟨s0, l0⟩ := ar_seg 0 zA hF
  obtain ⟨s1, l1⟩ := ar_seg 1 zA hF
  have e0 := ar_start (k := 0) zA hF hr (by omega)
  have e1 := ar_length (k := 0) zA hF hr (by omega)
  have e2 := ar_length (k := 1) zA hF hr (by omega)
  rw [List.take_zero, List.flatten_nil, List.length_nil, Nat.add_zero] at s0 l0 e0
  rw [show ((0 : Nat) : Int) = 0 from rfl] at e0 e1
  rw [show ((1 : Nat) : Int) = 1 from rfl] at e2
  -- the text of slot s
  have txt : ∀ (s : Nat) (h1 : MH), s < 16 → ArgC h1 ((w, pv, cu, op) :: r) → ∃ h2, F_Fm_define_115 (s : Int) h1 = some (.inl (), h2) ∧ Fr [13 + 4 * s, 13 + 4 * s + 1] h1 h2 ∧ Let h2 (13 + 4 * s) 40 ((pv ++ [cu]).getD 1 []) := by
    intro s h1 hs zA1
    obtain ⟨h2, x2, f2, y2⟩ := let_empty (a := 13 + 4 * s) (n := 40) (h := h1)
    have zA2 := zA1.fr f2 (by simp; omega)
    obtain ⟨t1, t2⟩ := ar_seg 1 zA2 hF
    obtain ⟨h3, x3, f3, y3⟩ := let_all y2 (by decide) (by decide) t1 t2
    refine ⟨h3, ?_, (f2.sub (by simp)).tr f3, y3⟩
    unfold F_Fm_define_115
    rw [gd_b (by omega) (by omega), Int.toNat_natCast, x2, bnd_l, show (1 : Int) = ((1 : Nat) : Int) from rfl, ar_start zA2 hF hr (by omega), bnd_l, ar_length zA2 hF hr (by omega), bnd_l, x3, bnd_l]
  have head : F_Fm_define (latV m kn) h = if wordOk ((pv ++ [cu]).getD 0 []) = true then (if ((pv ++ [cu]).getD 1 []).length ≤ 40 then F_Fm_define_84 (latV m kn) ((flat r).length : Int) (((pv ++ [cu]).getD 0 []).length : Int) h else rr) else some (.inl (), h) := by
    unfold F_Fm_define
    rw [e0, bnd_l, e1, bnd_l]
    generalize (pv ++ [cu]).getD 0 [] = W at s0 l0 ⊢
    unfold wordOk
    cases W with
    | nil => rw [if_pos (by simp), if_neg (by simp)]
    | cons x W =>
      rw [List.length_cons] at l0
      rw [if_neg (by rw [List.length_cons]; omega)]
      by_cases c1 : 8 < (x :: W).length
      · rw [if_pos (by omega), if_neg (by simp only [Bool.and_eq_true, decide_eq_true_eq]; omega)]
      · rw [if_neg (by omega), gd_b (by omega) (by omega), isWS_e, bnd_l, Int.toNat_natCast, s0.1]
        have g0 : (x :: W).getD 0 0 = x := rfl
        rw [g0]
        by_cases c2 : cL x = true
        · rw [if_neg (by rw [bI_0, c2]; decide), gd_rg (by omega) (by omega), show ((flat r).length : Int) + ((x :: W).length : Int) = (((flat r).length + (x :: W).length : Nat) : Int) by omega, wl_e (by decide) (by rw [List.length_cons]; omega) s0, bnd_l]
          by_cases c3 : (x :: W).all cP = true
          · have hw : (decide (1 ≤ (x :: W).length ∧ (x :: W).length ≤ 8) && cL x && (x :: W).all cP) = true := by
              rw [c2, c3]
              simp only [Bool.and_true, decide_eq_true_eq]
              rw [List.length_cons] at c1 ⊢
              omega
            rw [if_pos hw, if_pos (by rw [wlen_all.mpr c3]), e2, bnd_l]
            by_cases c4 : ((pv ++ [cu]).getD 1 []).length ≤ 40
            · rw [if_pos (by omega), if_pos c4]
            · rw [if_neg (by omega), if_neg c4]
              exact hrr _
          · rw [if_neg (fun q => c3 (wlen_all.mp (by omega))), if_neg (fun q => c3 (by simp only [Bool.and_eq_true] at q; exact q.2))]
        · rw [if_pos (by rw [bI_0]; exact Bool.eq_false_iff.mpr c2), if_neg (fun q => c2 (by simp only [Bool.and_eq_true] at q; exact q.1.2))]
  rw [head]
  refine ⟨fun a => if_neg a, fun a b => by rw [if_pos a, if_neg (by omega)], fun a b k hk => ?_, fun a b hk hd2 => ?_, fun a b hk hd2 id hid => ?_⟩
  · rw [if_pos a, if_pos b]
    subst hk
    have hm := (zD.2.2.2.2.2.1 k (.inl (hkn k rfl))).1
    obtain ⟨h2, x2, f2, y2⟩ := txt (m k) h hm zA
    refine ⟨h2, ?_, f2.sub (fun b hb => mDS.mpr (by simp at hb; omega)), zD.txt (hkn k rfl) (f2.sub (by simp; omega)) y2⟩
    unfold F_Fm_define_84 F_Fm_define_103
    have el : latV m (some k) = (m k : Int) := rfl
    rw [el, if_neg (by omega), if_pos (show (0 : Int) ≤ (m k : Int) by omega)]
    exact x2
  · rw [if_pos a, if_pos b]
    subst hk
    unfold F_Fm_define_84 F_Fm_define_103
    show (if (-1 : Int) < 0 then _ else _) = _
    rw [if_pos (by decide), de_make0 zD hd hd2, bnd_l, if_neg (by decide)]
    exact hrr _
  · rw [if_pos a, if_pos b]
    subst hk
    obtain ⟨k, s, h1, x1, k1, k2, k3, k4, f1, o1, o2, y1⟩ := de_make zD hd2 hfs (by decide) l0 s0 (by decide)
    have hs : s < 16 := by have := (zD.2.1.1 k k2).2; omega
    obtain ⟨h2, x2, f2, y2⟩ := txt s h1 hs (zA.fr f1 (by simp; omega))
    have ff : Fr [6, 10, 11 + 4 * s, 12 + 4 * s, 13 + 4 * s, 14 + 4 * s] h h2 := (f1.sub (by simp; omega)).tr (f2.sub (by simp; omega))
    refine ⟨h2, updm m id s, ?_, ff.sub (fun b hb => mDS.mpr (by simp at hb; omega)), zD.add hd2 hid k1 k2 k3 k4 ff ((f2.2.2 6 (by simp; omega) 4).trans o1) (fun i => (f2.2.2 10 (by simp; omega) i).trans (o2 i)) (y1.fr f2 (by simp; omega) (by simp; omega)) y2⟩
    unfold F_Fm_define_84 F_Fm_define_103
    show (if (-1 : Int) < 0 then _ else _) = _
    rw [if_pos (by decide), x1, bnd_l, if_pos (by omega)]
    exact x2
end Fm2
