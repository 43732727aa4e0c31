/-! the reference's first mill: define, popdef, ifelse, incr, shift, dnl -/
section Ref4
variable {P Q : Nat → Nat → Prop} {h h' h'' h0 : MH} {T : Nat} {c : List Int} {w : Int} {pv : List (List Int)} {cu i : List Int} {op : Nat} {r fs : List Fm1} {ds : List Nat} {wd tx : Nat → List Int}
theorem ArgM.of (z : ArgM h fs) (g : ∀ b i, pA b i → mGi h' b i = mGi h b i) : ArgM h' fs :=
  ⟨(g 107 7 (by unfold pA; omega)).trans z.1, (g 107 8 (by unfold pA; omega)).trans z.2.1, Seg.cg (fun j _ _ => g 112 j (by unfold pA; omega)) z.2.2.1, FrM.cg (fun j _ => ⟨g 117 j (by unfold pA; omega), g 118 j (by unfold pA; omega), g 120 j (by unfold pA; omega)⟩) (fun j _ => g 119 j (by unfold pA; omega)) z.2.2.2⟩
theorem m_def {kn : Option Nat} {a2 : Int} (zA : ArgM h ((w, pv, cu, op) :: r)) (hF : (flat ((w, pv, cu, op) :: r)).length ≤ 200) (hr : r.length < 6) (zD : DefM h ds wd tx ((w, pv, cu, op) :: r)) (hd : ds.length ≤ 10) (hw : wfD ds ((w, pv, cu, op) :: r) wd tx) (e1 : mGi h 107 1 = 0) (hkn : (a2 = 0 ∧ kn = lat wd ((pv ++ [cu]).getD 0 []) ds) ∨ (a2 = 1 ∧ kn = none)) :
    (¬ wordOk ((pv ++ [cu]).getD 0 []) = true → F_M_define (r.length : Int) a2 h = some (.inl (), h)) ∧
    (wordOk ((pv ++ [cu]).getD 0 []) = true → 40 < ((pv ++ [cu]).getD 1 []).length → F_M_define (r.length : Int) a2 h = some (.inl (), mPi h 107 1 1)) ∧
    (wordOk ((pv ++ [cu]).getD 0 []) = true → ((pv ++ [cu]).getD 1 []).length ≤ 40 → ∀ k, kn = some k → ∃ h', F_M_define (r.length : Int) a2 h = some (.inl (), h') ∧ FP pD h h' ∧ DefM h' ds wd (updL tx k ((pv ++ [cu]).getD 1 [])) ((w, pv, cu, op) :: r)) ∧
    (wordOk ((pv ++ [cu]).getD 0 []) = true → ((pv ++ [cu]).getD 1 []).length ≤ 40 → kn = none → 10 ≤ ds.length → F_M_define (r.length : Int) a2 h = some (.inl (), mPi h 107 1 1)) ∧
    (wordOk ((pv ++ [cu]).getD 0 []) = true → ((pv ++ [cu]).getD 1 []).length ≤ 40 → kn = none → ds.length < 10 → ∃ h', F_M_define (r.length : Int) a2 h = some (.inl (), h') ∧ FL pD h h' ∧ DefM h' (ds ++ [nid ds ((w, pv, cu, op) :: r) 16 0]) (updL wd (nid ds ((w, pv, cu, op) :: r) 16 0) ((pv ++ [cu]).getD 0 [])) (updL tx (nid ds ((w, pv, cu, op) :: r) 16 0) ((pv ++ [cu]).getD 1 [])) ((w, pv, cu, op) :: r)) := by
  have g1 := m_wordOf (k := 0) zA hF hr (by omega)
  have g2 := m_size (k := 1) zA hF hr (by omega)
  have g3 := m_latest (a := (pv ++ [cu]).getD 0 []) zD hd hw
  rw [show ((0 : Nat) : Int) = 0 from rfl] at g1
  rw [show ((1 : Nat) : Int) = 1 from rfl] at g2
  have head : F_M_define (r.length : Int) a2 h = F_M_define_28 (r.length : Int) (w64 ((pv ++ [cu]).getD 0 [])) (((pv ++ [cu]).getD 1 []).length : Int) (latI kn) h := by
    unfold F_M_define
    rw [g1, bnd_l, g2, bnd_l]
    rcases hkn with ⟨q1, q2⟩ | ⟨q1, q2⟩
    · rw [if_pos q1, g3, bnd_l, q2]
    · rw [if_neg (by omega), q2]
      rfl
  have hkm : ∀ k, kn = some k → k ∈ ds := fun k e => by
    rcases hkn with ⟨-, q2⟩ | ⟨-, q2⟩
    · exact lat_mem (q2.symm.trans e)
    · rw [q2] at e; cases e
  have bad : F_M_define_62 (r.length : Int) (w64 ((pv ++ [cu]).getD 0 [])) (((pv ++ [cu]).getD 1 []).length : Int) (latI kn) h = some (.inl (), mPi h 107 1 1) := by
    unfold F_M_define_62 F_M_define_63
    rw [gd_01a, need_0 e1 (by decide), bnd_l, if_pos rfl]
  rw [head]
  unfold F_M_define_28
  refine ⟨fun a => ?_, fun a b => ?_, fun a b k hk => ?_, fun a b hk hd2 => ?_, fun a b hk hd2 => ?_⟩
  · rw [if_pos (lg_eq.mpr (by unfold w64; rw [if_neg a]))]
  all_goals
    have hn : ¬ lgI (w64 ((pv ++ [cu]).getD 0 [])) 0 = 0 := fun q => by
      have q2 := lg_eq.mp q
      unfold w64 at q2
      rw [if_pos a] at q2
      exact ok_ne a q2
    rw [if_neg hn]
  · rw [if_pos (by omega)]
    exact bad
  · subst hk
    have hkd := hkm k rfl
    have hk16 := (hw k (.inl hkd)).2.2.1
    obtain ⟨h1, x1, f1, y1, y2⟩ := m_123 hk16 zA hF hr b
    refine ⟨h1, ?_, f1.sub (fun b i => by unfold pTx pD; omega), ?_⟩
    · have el : latI (some k) = (k : Int) := rfl
      rw [if_neg (by omega), el, if_pos (by omega)]
      unfold F_M_define_58 F_M_define_63
      rw [gd_01b, need_1 e1, bnd_l, if_neg (by decide), if_pos (by omega)]
      exact x1
    · refine ⟨(f1.2.2 107 6 (by unfold pTx; omega)).trans zD.1, OrM.cg (fun j _ _ => f1.2.2 116 j (by unfold pTx; omega)) zD.2.1, fun j hj => ?_⟩
      obtain ⟨d1, d2, d3⟩ := zD.2.2 j hj
      have hj40 := (hw j hj).2.1
      refine ⟨(f1.gl 114 j).trans d1, ?_, ?_⟩
      · unfold updL
        by_cases c0 : j = k
        · rw [if_pos c0, c0, y2]
        · rw [if_neg c0, f1.2.2 115 j (by unfold pTx; omega), d2]
      · unfold updL
        by_cases c0 : j = k
        · rw [if_pos c0, c0]; exact y1
        · rw [if_neg c0]
          exact Seg.cg (fun i h1 h2 => f1.2.2 111 i (by unfold pTx; omega)) d3
  · subst hk
    rw [if_neg (by omega), if_neg (by decide), zD.1, if_pos (by omega)]
    exact bad
  · subst hk
    have hlr := List.length_cons (a := (w, pv, cu, op)) (as := r)
    have hn := nid_ok (ds := ds) (r := (w, pv, cu, op) :: r) hd2 (by rw [hlr]; omega)
    have hu : usedB ds ((w, pv, cu, op) :: r) (nid ds ((w, pv, cu, op) :: r) 16 0) = false := by unfold usedB; exact decide_eq_false hn.1
    have q := du_l zD zA hd2 (by rw [hlr]; omega) (v := w64 ((pv ++ [cu]).getD 0 [])) (v1 := (r.length : Int)) (v5 := (((pv ++ [cu]).getD 1 []).length : Int)) 16 FU 0 (by decide) hn.2 hu
    generalize nid ds ((w, pv, cu, op) :: r) 16 0 = s at hn hu q ⊢
    have f0 : FL pD h (mPi (mPi (mPl h 114 s (w64 ((pv ++ [cu]).getD 0 []))) 116 ds.length ((s : Nat) : Int)) 107 6 ((ds.length : Int) + 1)) := FL.pi (FL.pi (FL.pl FP.rf.fl) (by unfold pD; omega)) (by unfold pD; omega)
    have zA1 : ArgM (mPi (mPi (mPl h 114 s (w64 ((pv ++ [cu]).getD 0 []))) 116 ds.length ((s : Nat) : Int)) 107 6 ((ds.length : Int) + 1)) ((w, pv, cu, op) :: r) := zA.of (fun b i hp => f0.2.2.1 b i (by revert hp; unfold pD pA; omega))
    obtain ⟨h1, x1, f1, y1, y2⟩ := m_123 hn.2 zA1 hF hr b
    refine ⟨h1, ?_, f0.tr (f1.fl.sub (fun b i => by unfold pTx pD; omega)), ?_⟩
    · rw [if_neg (by omega), if_neg (by decide), zD.1, if_neg (by omega)]
      unfold F_M_define_58 F_M_define_63
      rw [gd_01b, need_1 e1, bnd_l, if_neg (by decide), if_neg (by decide)]
      exact q.trans x1
    · refine ⟨?_, ?_, fun j hj => ?_⟩
      · rw [f1.2.2 107 6 (by unfold pTx; omega), gi_s, List.length_append, List.length_singleton]
        omega
      · rw [OrM.app]
        refine ⟨OrM.cg (fun j h1 h2 => ?_) zD.2.1, ?_, trivial⟩
        · rw [f1.2.2 116 j (by unfold pTx; omega), gi_pi, if_neg (by omega), gi_pi, if_neg (by omega), gi_pl]
        · rw [f1.2.2 116 _ (by unfold pTx; omega), gi_pi, if_neg (by omega), Nat.zero_add, gi_s]
      · unfold updL
        by_cases c0 : j = s
        · rw [if_pos c0, if_pos c0, c0]
          refine ⟨?_, y2, y1⟩
          rw [f1.gl, gl_pi, gl_pi, gl_pl, if_pos ⟨rfl, rfl⟩]
          unfold w64
          rw [if_pos a]
        · rw [if_neg c0, if_neg c0]
          have hj' : lv ds ((w, pv, cu, op) :: r) j := by
            rcases hj with k | k
            · rcases List.mem_append.mp k with k | k
              · exact .inl k
              · exact absurd (by simpa using k) c0
            · exact .inr k
          obtain ⟨d1, d2, d3⟩ := zD.2.2 j hj'
          have hj40 := (hw j hj').2.1
          refine ⟨?_, ?_, ?_⟩
          · rw [f1.gl, gl_pi, gl_pi, gl_pl, if_neg (fun q => c0 q.2), d1]
          · rw [f1.2.2 115 j (by unfold pTx; omega), gi_pi, if_neg (by omega), gi_pi, if_neg (by omega), gi_pl, d2]
          · refine Seg.cg (fun i h1 h2 => ?_) d3
            rw [f1.2.2 111 i (by unfold pTx; omega), gi_pi, if_neg (by omega), gi_pi, if_neg (by omega), gi_pl]
/-! popdef -/
theorem pd_l {s : Int} {n : Nat} (hn : n ≤ 10) : ∀ (t : List Nat) (f k v : Nat) (h : MH) (l : List Nat), t.length < f → v + t.length = n → k ≤ v → l.length = k → mGi h 107 6 = (n : Int) → OrM h 0 l → OrM h v t →
    ∃ h', itr (fun self (q : Int × Int × Int × MH) => F_M_popDefinition_4_b (fun v1 v2 v3 h => self (v1, v2, v3, h)) q.1 q.2.1 q.2.2.1 q.2.2.2) f (s, (k : Int), (v : Int), h) = some (.inl (), h') ∧ FP (fun b i => b = 116 ∨ (b = 107 ∧ i = 6)) h h' ∧ mGi h' 107 6 = ((l ++ t.filter fun (x : Nat) => decide ((x : Int) ≠ s)).length : Int) ∧ OrM h' 0 (l ++ t.filter fun (x : Nat) => decide ((x : Int) ≠ s)) := by
  intro t
  induction t with
  | nil =>
    intro f k v h l hf hv hk hl e6 z1 z2
    obtain ⟨f, rfl⟩ : ∃ g, f = g + 1 := ⟨f - 1, by omega⟩
    rw [List.length_nil] at hv
    refine ⟨mPi h 107 6 (k : Int), ?_, FP.pi FP.rf (by omega), ?_, ?_⟩
    · rw [itr_s]
      dsimp only
      rw [F_M_popDefinition_4_b, e6, if_pos (by omega)]
      rfl
    · rw [gi_s, List.filter_nil, List.append_nil, hl]
    · rw [List.filter_nil, List.append_nil]
      exact OrM.cg (fun j _ _ => by rw [gi_pi, if_neg (by omega)]) z1
  | cons x t ih =>
    intro f k v h l hf hv hk hl e6 z1 z2
    obtain ⟨f, rfl⟩ : ∃ g, f = g + 1 := ⟨f - 1, by omega⟩
    rw [List.length_cons] at hv hf
    have e6' : mGi (mPi h 116 k (x : Int)) 107 6 = (n : Int) := by rw [gi_pi, if_neg (by omega), e6]
    have z2' : OrM (mPi h 116 k (x : Int)) (v + 1) t := OrM.cg (fun j h1 h2 => by rw [gi_pi, if_neg (by omega)]) z2.2
    have z1' : OrM (mPi h 116 k (x : Int)) 0 l := OrM.cg (fun j h1 h2 => by rw [gi_pi, if_neg (by omega)]) z1
    rw [itr_s]
    dsimp only
    rw [F_M_popDefinition_4_b, e6, if_neg (by omega), gd_b (by omega) (by omega), gd_b (by omega) (by omega), Int.toNat_natCast, Int.toNat_natCast, z2.1]
    simp only [sto_e]
    unfold F_M_popDefinition_40
    by_cases c : (x : Int) = s
    · obtain ⟨h1, e1, f1, a1, a2⟩ := ih f k (v + 1) (mPi h 116 k (x : Int)) l (by omega) (by omega) (by omega) hl e6' z1' z2'
      rw [if_pos c, gd_rg (by omega) (by omega), gd_rg (by omega) (by omega), List.filter_cons_of_neg (by simp [c])]
      refine ⟨h1, ?_, (FP.pi FP.rf (by omega)).tr f1, a1, a2⟩
      rw [show (k : Int) + 0 = (k : Int) by omega, show (v : Int) + 1 = ((v + 1 : Nat) : Int) by omega]
      exact e1
    · obtain ⟨h1, e1, f1, a1, a2⟩ := ih f (k + 1) (v + 1) (mPi h 116 k (x : Int)) (l ++ [x]) (by omega) (by omega) (by omega) (by rw [List.length_append, List.length_singleton, hl]) e6' (OrM.app.mpr ⟨z1', by rw [Nat.zero_add, hl, gi_s], trivial⟩) z2'
      rw [if_neg c, gd_rg (by omega) (by omega), gd_rg (by omega) (by omega), List.filter_cons_of_pos (by simp [c])]
      rw [List.append_assoc] at a1 a2
      refine ⟨h1, ?_, (FP.pi FP.rf (by omega)).tr f1, a1, a2⟩
      rw [show (k : Int) + 1 = ((k + 1 : Nat) : Int) by omega, show (v : Int) + 1 = ((v + 1 : Nat) : Int) by omega]
      exact e1
theorem m_pop {o : Option Nat} (z : DefM h ds wd tx fs) (hd : ds.length ≤ 10) : ∃ h', F_M_popDefinition (latI o) h = some (.inl (), h') ∧ FP pD h h' ∧ DefM h' (ds.filter fun k => decide (some k ≠ o)) wd tx fs := by
  obtain ⟨h1, e1, f1, a1, a2⟩ := pd_l (s := latI o) hd ds FU 0 0 h [] (by unfold FU; omega) (by omega) (by omega) rfl z.1 trivial z.2.1
  have ef : (ds.filter fun (x : Nat) => decide ((x : Int) ≠ latI o)) = ds.filter fun k => decide (some k ≠ o) := by
    refine List.filter_congr fun x _ => ?_
    cases o with
    | none =>
      have : (x : Int) ≠ latI none := by show (x : Int) ≠ -1; omega
      simp [this]
    | some k =>
      have : ((x : Int) ≠ latI (some k)) ↔ (some x ≠ some k) := by
        show (x : Int) ≠ (k : Int) ↔ _
        simp only [ne_eq, Option.some.injEq]
        omega
      exact decide_eq_decide.mpr this
  rw [List.nil_append, ef] at a1 a2
  refine ⟨h1, e1, f1.sub (fun b i => by unfold pD; omega), a1, a2, fun k hk => ?_⟩
  have hk' : lv ds fs k := by
    rcases hk with q | q
    · exact .inl (List.mem_filter.mp q).1
    · exact .inr q
  obtain ⟨d1, d2, d3⟩ := z.2.2 k hk'
  exact ⟨(f1.gl 114 k).trans d1, (f1.2.2 115 k (by omega)).trans d2, Seg.cg (fun j _ _ => f1.2.2 111 j (by omega)) d3⟩
/-! ifelse -/
theorem aa_l {p q n : Nat} {a2 : List Int} (hq : ∀ k : Nat, k < 2 → F_M_from (r.length : Int) (k : Int) h = some (.inl (if k = 0 then (p : Int) else (q : Int)), h)) : ∀ (l l' : List Int) (f k : Nat), l.length + 1 < f → l.length = l'.length → k + l.length = n → p + n ≤ 200 → q + n ≤ 200 → Seg h 112 (p + k) l → Seg h 112 (q + k) l' →
    itr (fun self (q : Int × Int × Int × Int × MH) => F_M_areAlike_26_b (fun v1 v2 v3 v4 h => self (v1, v2, v3, v4, h)) q.1 q.2.1 q.2.2.1 q.2.2.2.1 q.2.2.2.2) f ((r.length : Int), (n : Int), 1, (k : Int), h) = some (.inl (if l = l' then 1 else 0), h) := by
  intro l
  have q0 := hq 0 (by omega)
  have q1 := hq 1 (by omega)
  rw [if_pos rfl, show ((0 : Nat) : Int) = 0 from rfl] at q0
  rw [if_neg (by decide), show ((1 : Nat) : Int) = 1 from rfl] at q1
  induction l with
  | nil =>
    intro l' f k hf hl hn hp hq' s s'
    obtain ⟨f, rfl⟩ : ∃ g, f = g + 1 := ⟨f - 1, by omega⟩
    cases l' with
    | cons x t => simp at hl
    | nil =>
      rw [List.length_nil] at hn
      rw [itr_s]
      dsimp only
      rw [F_M_areAlike_26_b, if_pos (by omega), gd_01b]
      rfl
  | cons x l ih =>
    intro l' f k hf hl hn hp hq' s s'
    obtain ⟨f, rfl⟩ : ∃ g, f = g + 1 := ⟨f - 1, by omega⟩
    cases l' with
    | nil => simp at hl
    | cons y t =>
      rw [List.length_cons] at hn hf
      rw [itr_s]
      dsimp only
      rw [F_M_areAlike_26_b, if_neg (by omega), if_neg (by decide), q0, bnd_l, gd_rg (by omega) (by omega), gd_b (by omega) (by omega), q1, bnd_l, gd_rg (by omega) (by omega), gd_b (by omega) (by omega)]
      rw [show ((p : Int) + (k : Int)).toNat = p + k by omega, show ((q : Int) + (k : Int)).toNat = q + k by omega, s.1, s'.1]
      unfold F_M_areAlike_72
      rw [gd_rg (by omega) (by omega), gd_rg (by omega) (by omega), show (k : Int) + 1 = ((k + 1 : Nat) : Int) by omega]
      by_cases c : x = y
      · rw [if_pos c]
        have g := ih t f (k + 1) (by omega) (by simpa using hl) (by omega) hp hq' (by have := s.2; rw [show p + k + 1 = p + (k + 1) by omega] at this; exact this) (by have := s'.2; rw [show q + k + 1 = q + (k + 1) by omega] at this; exact this)
        refine Eq.trans g ?_
        simp only [c, List.cons.injEq, true_and]
      · rw [if_neg c, if_neg (by simp [c])]
        obtain ⟨f, rfl⟩ : ∃ g, f = g + 1 := ⟨f - 1, by omega⟩
        dsimp only
        rw [itr_s]
        dsimp only
        rw [F_M_areAlike_26_b, if_pos (show (0 : Int) = 0 from rfl), gd_01a, ite_self]
theorem m_alike (z : ArgM h ((w, pv, cu, op) :: r)) (hF : (flat ((w, pv, cu, op) :: r)).length ≤ 200) (hr : r.length < 6) : F_M_areAlike (r.length : Int) h = some (.inl (if (pv ++ [cu]).getD 0 [] = (pv ++ [cu]).getD 1 [] then 1 else 0), h) := by
  have g0 := m_size (k := 0) z hF hr (by omega)
  have g1 := m_size (k := 1) z hF hr (by omega)
  obtain ⟨s0, l0⟩ := m_seg 0 z hF
  obtain ⟨s1, l1⟩ := m_seg 1 z hF
  rw [show ((0 : Nat) : Int) = 0 from rfl] at g0
  rw [show ((1 : Nat) : Int) = 1 from rfl] at g1
  rw [List.take_zero, List.flatten_nil, List.length_nil, Nat.add_zero] at s0 l0
  unfold F_M_areAlike F_M_areAlike_22 F_M_areAlike_26
  rw [g0, bnd_l, g1, bnd_l]
  by_cases c : ((pv ++ [cu]).getD 0 []).length = ((pv ++ [cu]).getD 1 []).length
  · rw [if_pos (by rw [c])]
    by_cases c2 : ((pv ++ [cu]).getD 0 []).length = 0
    · have e0 : (pv ++ [cu]).getD 0 [] = [] := List.eq_nil_of_length_eq_zero c2
      have e1 : (pv ++ [cu]).getD 1 [] = [] := List.eq_nil_of_length_eq_zero (by omega)
      rw [e0, e1, if_pos rfl, show FU = 99999999 + 1 from rfl, itr_s]
      dsimp only
      rw [F_M_areAlike_26_b, if_pos (by simp), gd_01b]
    · have hlen : 1 < pv.length + 1 := by
        have : ¬ (pv ++ [cu]).length ≤ 1 := fun q => by rw [getD_out q] at c; simp at c; exact c2 (by simp [c])
        rw [List.length_append, List.length_singleton] at this
        omega
      refine aa_l (p := (flat r).length) (q := (flat r).length + ((pv ++ [cu]).take 1).flatten.length) (a2 := []) (fun k hk => ?_) _ _ FU 0 (by unfold FU; omega) c (by omega) (by omega) (by omega) s0 s1
      rw [m_from z hr (by omega), if_pos (by omega)]
      by_cases ck : k = 0
      · subst ck; simp
      · have : k = 1 := by omega
        subst this
        rw [if_neg (by decide)]
  · rw [if_neg (by omega), if_neg (fun q => c (by rw [q])), show FU = 99999999 + 1 from rfl, itr_s]
    dsimp only
    rw [F_M_areAlike_26_b, if_pos (show (0 : Int) = 0 from rfl), gd_01a, ite_self]
end Ref4
