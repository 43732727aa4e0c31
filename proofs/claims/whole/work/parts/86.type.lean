/-! type: the class as the reference -/
section Type3
variable {h : MH} {v : Int64} {n : Int}
theorem Sm.i {S : List Nat} {h h' : MH} (f : Sm S h h') {b : Nat} (hb : b < 150) (hn : b ∉ S) (i : Nat) : mGi h' b i = mGi h b i := f.2.1 b hb hn i
theorem type_e {k : Nat} (I : Inv k h) (hk : k ≤ 600) (rn : inR n) : ∃ x h1 b h2, F_La_type v n h = some (.inl x, h1) ∧ F_M_type v n h1 = some (.inl b, h2) ∧ mGi h2 107 0 = x ∧ (x = 0 → mGl h2 149 0 = (Int32.ofInt b).toInt64) ∧ Inv (k + 1) h2 ∧ mSc h1 = mSc h ∧ mSc h2 = mSc h := by
  obtain ⟨L, i1, -⟩ := id I
  obtain ⟨t1, t2, t3, t4⟩ := i1
  have hl := I.len
  obtain ⟨T1, T2, T3⟩ := T_type_e (v := v) (n := n) (h := h) t2 t3
  -- a refused call
  have bad : ∀ (te : Nat) (x : Int), x ≠ 0 → F_La_type v n h = some (.inl x, mNew h te 6) → (∃ h', F_M_type v n (mNew h te 6) = some (.inl 0, h') ∧ MtI (mGi h 107 2) x (mNew h te 6) h' ∧ ∀ i, mGi h' 108 i = mGi (mNew h te 6) 108 i) → ∃ x h1 b h2, F_La_type v n h = some (.inl x, h1) ∧ F_M_type v n h1 = some (.inl b, h2) ∧ mGi h2 107 0 = x ∧ (x = 0 → mGl h2 149 0 = (Int32.ofInt b).toInt64) ∧ Inv (k + 1) h2 ∧ mSc h1 = mSc h ∧ mSc h2 = mSc h := by
    intro te x hx e1 hM
    obtain ⟨h2, e2, ⟨m1, m2, m3, m4⟩, m5⟩ := hM
    have E1 := ((S_La_type (d := 96) (by decide) L rn) _ _ e1).1
    have E2 := ((S_M_type (d := 96) (by decide) (L.ext E1) rn) _ _ e2).1
    have S1 : Sm [] h (mNew h te 6) := Sm.new hl
    have S2 : Sm [107, 108] h h2 := (S1.tr (Sm.fr E2 m4)).sub (by simp)
    have g : ∀ b i, b < 150 → mGi (mNew h te 6) b i = mGi h b i := fun b i hb => S1.i hb (by simp) i
    refine ⟨x, _, 0, h2, e1, e2, m1, fun q => absurd q hx, I.text S2 (by decide) (fun i h0 h2' => (m3 i h0 h2').trans (g 107 i (by decide))) ⟨?_, ?_, ?_, fun j hj => ?_⟩ ?_ ?_, E1.2.2.1, E2.2.2.1.trans E1.2.2.1⟩
    · rw [S2.i (by decide) (by decide) 1, m2, t1]
    · rw [S2.i (by decide) (by decide) 1]; exact t2
    · rw [S2.i (by decide) (by decide) 1]; exact t3
    · rw [S2.i (by decide) (by decide) 1] at hj
      rw [S2.i (b := 2) (by decide) (by decide) j, m5 j, g 108 j (by decide)]
      exact t4 j hj
    · rw [m4.1, lenN]; omega
    · have q1 : mSlt h2 = mSlt (mNew h te 6) := by unfold mSlt; rw [m4.1]
      rw [q1, slt_new]; omega
  by_cases good : 1 ≤ n ∧ n ≤ 8 ∧ lgs v n 0
  · by_cases room : mGi h 1 1 + n ≤ 400
    · obtain ⟨h', x1, y1, y2, y3, y4⟩ := T3 good room
      have e1 : F_La_type v n h = some (.inl 0, mPl h' 149 0 ((Int32.ofInt (mGi h 1 1 + n)).toInt64)) := by
        unfold F_La_type
        rw [x1, bndC_l, gd_b (by decide) (by decide)]
        rfl
      have E1 := ((S_La_type (d := 96) (by decide) L rn) _ _ e1).1
      have f107 : mGi (mPl h' 149 0 ((Int32.ofInt (mGi h 1 1 + n)).toInt64)) 107 2 = mGi h 107 2 := by rw [gi_pl]; exact y4.2.2 107 (by decide) 2
      obtain ⟨-, -, M3⟩ := M_type_e (v := v) (n := n) (h := mPl h' 149 0 ((Int32.ofInt (mGi h 1 1 + n)).toInt64)) (by rw [f107]; omega) (by rw [f107]; omega)
      rw [f107] at M3
      obtain ⟨h2, e2, ⟨m1, m2, m3, m4⟩, m5, m6⟩ := M3 good (by omega)
      have E2 := ((S_M_type (d := 96) (by decide) (L.ext E1) rn) _ _ e2).1
      have S1 : Sm [1, 2] h (mPl h' 149 0 ((Int32.ofInt (mGi h 1 1 + n)).toInt64)) := by
        refine ⟨E1, fun b hb hn i => ?_, fun b hb i => ?_, fun b hb i => ?_⟩
        · rw [gi_pl]; exact y4.2.2 b hn i
        · rw [gl_pl, if_neg (by omega)]; exact y4.gl b i
        · exact y4.gr b i
      have S2 : Sm [1, 2, 107, 108] h h2 := (S1.tr (Sm.fr E2 m4)).sub (by simp)
      have g2 : ∀ b i, b ∉ [107, 108] → mGi h2 b i = mGi h' b i := fun b i hb => (m4.2.2 b hb i).trans gi_pl
      refine ⟨0, _, _, h2, e1, e2, m1, fun _ => ?_, I.text S2 (by decide) (fun i h0 h2' => (m3 i h0 h2').trans (by rw [gi_pl]; exact y4.2.2 107 (by decide) i)) ⟨?_, ?_, ?_, fun j hj => ?_⟩ ?_ ?_, E1.2.2.1, E2.2.2.1.trans E1.2.2.1⟩
      · rw [m4.gl, gl_pl, if_pos ⟨rfl, rfl⟩, t1]
      · rw [g2 1 1 (by decide), y1, m2, t1]
      · rw [g2 1 1 (by decide), y1]; omega
      · rw [g2 1 1 (by decide), y1]; exact room
      · rw [g2 1 1 (by decide), y1] at hj
        rw [g2 2 j (by decide)]
        by_cases d : (j : Int) < mGi h 1 1
        · rw [y2 j d, m5 j (by omega), gi_pl, y4.2.2 108 (by decide)]
          exact t4 j d
        · have ej : j = (mGi h 1 1).toNat + (j - (mGi h 1 1).toNat) := by omega
          have q1 := y3 (j - (mGi h 1 1).toNat) (by omega)
          have q2 := m6 (j - (mGi h 1 1).toNat) (by omega)
          rw [← t1] at q2
          rw [← ej] at q1 q2
          rw [q1, q2]
          exact ⟨rfl, good.2.2 _ (by omega) (by omega)⟩
      · rw [m4.1]
        show h'.1.length + 4 * k ≤ _
        rw [y4.1]; omega
      · have q1 : mSlt h2 = mSlt h := by
          unfold mSlt
          rw [m4.1]
          show (h'.1.map Prod.snd).sum = _
          rw [y4.1]
        rw [q1]; omega
    · have e1 : F_La_type v n h = some (.inl 2, mNew h 15 6) := by
        unfold F_La_type F_La_type_18
        rw [T2 good (by omega), thr_e I hk, bndC_r, if_neg (by decide), gd_t rfl]
      have f107 : mGi (mNew h 15 6) 107 2 = mGi h 107 2 := by rw [gi_nw, if_neg (by omega)]
      obtain ⟨-, M2, -⟩ := M_type_e (v := v) (n := n) (h := mNew h 15 6) (by rw [f107]; omega) (by rw [f107]; omega)
      rw [f107] at M2
      exact bad 15 2 (by decide) e1 (M2 good (by omega))
  · have e1 : F_La_type v n h = some (.inl 1, mNew h 14 6) := by
      unfold F_La_type F_La_type_14
      rw [T1 good, thr_e I hk, bndC_r, if_pos rfl]
    have f107 : mGi (mNew h 14 6) 107 2 = mGi h 107 2 := by rw [gi_nw, if_neg (by omega)]
    obtain ⟨M1, -, -⟩ := M_type_e (v := v) (n := n) (h := mNew h 14 6) (by rw [f107]; omega) (by rw [f107]; omega)
    rw [f107] at M1
    exact bad 14 1 (by decide) e1 (M1 good)
/-! the start -/
set_option maxRecDepth 100000 in
theorem inv_0 {sc : List Int} (hs : ∀ x ∈ sc, inR x) : Inv 0 (hF sc) := by
  have o : ((List.range 16).map fun k => mGi (hF sc) 10 k) = (List.range 16).map fun (k : Nat) => (k : Int) := rfl
  have o' : ∀ k, k < 16 → mGi (hF sc) 10 k = (k : Int) := fun k hk => by
    have q := congrArg (fun l => l[k]?) o
    simp only [List.getElem?_map, List.getElem?_range hk, Option.map_some] at q
    exact Option.some.inj q
  have w : ((List.range 8).map fun k => mGr (hF sc) 96 k) = (List.range 8).map fun _ => none := rfl
  have w' : ∀ k, k < 8 → mGr (hF sc) 96 k = none := fun k hk => by
    have q := congrArg (fun l => l[k]?) w
    simp only [List.getElem?_map, List.getElem?_range hk, Option.map_some] at q
    exact Option.some.inj q
  refine ⟨hF_lay hs, ⟨rfl, ?_, ?_, fun j hj => ?_⟩, ⟨rfl, ?_, ?_, fun j hj => ?_⟩, ⟨rfl, ?_, ?_, fun j hj => ?_⟩, ⟨rfl, rfl, rfl, rfl, rfl, rfl⟩, ⟨fun k hk => ?_, fun k k' hk hk' e => ?_⟩, ⟨fun j hj r hr => ?_, fun j j' hj hj' hn r r' hr hr' => ?_⟩, ?_, ?_⟩
  · show (0 : Int) ≤ 0; decide
  · show (0 : Int) ≤ 400; decide
  · exact absurd (show (j : Int) < 0 from hj) (by omega)
  · show (0 : Int) ≤ 0; decide
  · show (0 : Int) ≤ 400; decide
  · exact absurd (show (j : Int) < 0 from hj) (by omega)
  · show (0 : Int) ≤ 0; decide
  · show (0 : Int) ≤ 600; decide
  · exact absurd (show (j : Int) < 0 from hj) (by omega)
  · rw [o' k hk]; omega
  · rw [o' k hk, o' k' hk'] at e; omega
  · rw [w' j hj] at hr; cases hr
  · rw [w' j hj] at hr; cases hr
  · rw [hF_len]; omega
  · rw [hF_slt]; omega
/-! the law's loop -/
def stepO (k : Nat) (h : MH) (A : RS Int) (M : MH → RS Int) : Prop := ∃ x h1 b h2, A = some (.inl x, h1) ∧ M h1 = some (.inl b, h2) ∧ mGi h2 107 0 = x ∧ (x = 0 → mGl h2 149 0 = (Int32.ofInt b).toInt64) ∧ Inv (k + 1) h2 ∧ mSc h1 = mSc h ∧ mSc h2 = mSc h
def H2 : Prop := ∀ (k : Nat) (h : MH), Inv k h → k ≤ 600 → stepO k h (F_La_second h) F_M_second
theorem law_l (H : H2) {sc : List Int} (hN : sc.length ≤ 2048) (hs : ∀ x ∈ sc, inR x) : ∀ (q f k : Nat) (h : MH), 4 * q + 4 * k ≥ sc.length → k ≤ 513 → q < f → Inv k h → mSc h = sc → ∃ h', itr (fun self (q : Int × MH) => F_La_law_23_b (fun v4 h => self (v4, h)) q.1 q.2) f (((4 * k : Nat) : Int), h) = some (.inl 1, h') := by
  intro q
  induction q with
  | zero =>
    intro f k h hq hk hf I es
    obtain ⟨f, rfl⟩ : ∃ g, f = g + 1 := ⟨f - 1, by omega⟩
    refine ⟨h, ?_⟩
    rw [itr_s]
    dsimp only
    rw [F_La_law_23_b, es, gd_t (by omega), gd_rg (by omega) (by omega), if_pos (by omega)]
  | succ q ih =>
    intro f k h hq hk hf I es
    obtain ⟨f, rfl⟩ : ∃ g, f = g + 1 := ⟨f - 1, by omega⟩
    have ins : ∀ j : Nat, inR (sc.getD j 0) := fun j => by
      rw [List.getD_eq_getElem?_getD]
      cases e : sc[j]? with
      | none => exact inR_0
      | some x => exact hs x (List.mem_of_getElem? e)
    rw [itr_s]
    dsimp only
    rw [F_La_law_23_b, es, gd_t (by omega), gd_rg (by omega) (by omega)]
    by_cases c0 : (sc.length : Int) - 4 < ((4 * k : Nat) : Int)
    · rw [if_pos c0]; exact ⟨h, rfl⟩
    rw [if_neg c0, gd_t ⟨by omega, by omega, by omega⟩]
    have next : ∀ h2, Inv (k + 1) h2 → mSc h2 = sc → ∃ h', F_La_law_339 (fun v4 h => itr (fun self (q : Int × MH) => F_La_law_23_b (fun v4 h => self (v4, h)) q.1 q.2) f (v4, h)) ((4 * k : Nat) : Int) h2 = some (.inl 1, h') := by
      intro h2 I2 e2
      unfold F_La_law_339
      rw [gd_rg (by omega) (by omega), show ((4 * k : Nat) : Int) + 4 = ((4 * (k + 1) : Nat) : Int) by omega]
      exact ih f (k + 1) h2 (by omega) (by omega) (by omega) I2 e2
    by_cases d0 : iAnd (sc.getD ((4 * k : Nat) : Int).toNat 0) 7 = 0
    · rw [if_pos d0, gd_rg (by omega) (by omega), gd_t ⟨by omega, by omega, by omega⟩, gd_rg (by omega) (by omega), gd_t ⟨by omega, by omega, by omega⟩, gd_rg (by omega) (by omega), gd_t ⟨by omega, by omega, by omega⟩]
      obtain ⟨x, h1, b, h2, e1, e2, e3, e4, I2, e5, e6⟩ := type_e (v := (((Int32.ofInt (sc.getD (((4 * k : Nat) : Int) + (1 : Int)).toNat 0)).toInt64) <<< ((Int32.ofInt (32 : Int)).toInt64 &&& 63)) ||| (((Int32.ofInt (sc.getD (((4 * k : Nat) : Int) + (2 : Int)).toNat 0)).toInt64) &&& (4294967295 : Int64))) (n := sc.getD (((4 * k : Nat) : Int) + (3 : Int)).toNat 0) I (by omega) (ins _)
      rw [e1, bnd_l, e5, es, gd_t ⟨by omega, by omega, by omega⟩, gd_t ⟨by omega, by omega, by omega⟩, gd_t ⟨by omega, by omega, by omega⟩, e2, bnd_l]
      unfold F_M_thrown
      rw [bnd_l, e3, if_pos rfl]
      unfold F_La_law_173
      by_cases cx : x = 0
      · rw [if_pos cx, gd_b (by decide) (by decide), show (0 : Int).toNat = 0 from rfl, if_pos (lg_eq.mpr (e4 cx))]
        exact next h2 I2 (e6.trans es)
      · rw [if_neg cx]
        exact next h2 I2 (e6.trans es)
    rw [if_neg d0]
    by_cases d1 : iAnd (sc.getD ((4 * k : Nat) : Int).toNat 0) 7 = 1
    · obtain ⟨x, h1, h2, e1, e2, I2⟩ := clear_e I
      have E1 := ((S_T_clear (d := 96) (by decide) I.lay) _ _ e1).1
      have E2 := ((S_M_clear (d := 96) (by decide) (I.lay.ext E1)) _ _ e2).1
      rw [if_pos d1, e1, bnd_l, e2, bnd_l, if_pos rfl]
      exact next h2 I2 (E2.2.2.1.trans (E1.2.2.1.trans es))
    rw [if_neg d1]
    by_cases d2 : iAnd (sc.getD ((4 * k : Nat) : Int).toNat 0) 7 = 2
    · obtain ⟨x, h1, b, h2, e1, e2, e3, e4, I2, e5, e6⟩ := first_e I (by omega)
      rw [if_pos d2, e1, bnd_l, e2, bnd_l]
      unfold F_M_thrown
      rw [bnd_l, e3, if_pos rfl]
      unfold F_La_law_230
      by_cases cx : x = 0
      · rw [if_pos cx, gd_b (by decide) (by decide), show (0 : Int).toNat = 0 from rfl, if_pos (lg_eq.mpr (e4 cx))]
        exact next h2 I2 (e5.trans es)
      · rw [if_neg cx]
        exact next h2 I2 (e5.trans es)
    rw [if_neg d2]
    by_cases d3 : iAnd (sc.getD ((4 * k : Nat) : Int).toNat 0) 7 = 3
    · obtain ⟨x, h1, b, h2, e1, e2, e3, e4, I2, e5, e6⟩ := H k h I (by omega)
      rw [if_pos d3, e1, bnd_l, e2, bnd_l]
      unfold F_M_thrown
      rw [bnd_l, e3, if_pos rfl]
      unfold F_La_law_274
      by_cases cx : x = 0
      · rw [if_pos cx, gd_b (by decide) (by decide), show (0 : Int).toNat = 0 from rfl, if_pos (lg_eq.mpr (e4 cx))]
        exact next h2 I2 (e6.trans es)
      · rw [if_neg cx]
        exact next h2 I2 (e6.trans es)
    rw [if_neg d3]
    by_cases d4 : iAnd (sc.getD ((4 * k : Nat) : Int).toNat 0) 7 = 4
    · obtain ⟨x, h2, e1, e2, I2⟩ := state_e (w := sc.getD (((4 * k : Nat) : Int) + (1 : Int)).toNat 0) I
      have E2 := ((S_M_state (d := 96) (by decide) I.lay (ins _)) _ _ e2).1
      rw [if_pos d4, gd_rg (by omega) (by omega), gd_t ⟨by omega, by omega, by omega⟩, e1, bnd_l, es, gd_t ⟨by omega, by omega, by omega⟩, e2, bnd_l, if_pos rfl]
      exact next h2 I2 (E2.2.2.1.trans es)
    rw [if_neg d4]
    by_cases d5 : iAnd (sc.getD ((4 * k : Nat) : Int).toNat 0) 7 = 5
    · obtain ⟨x, h2, e1, e2, I2⟩ := char_e (w := sc.getD (((4 * k : Nat) : Int) + (1 : Int)).toNat 0) (j := sc.getD (((4 * k : Nat) : Int) + (2 : Int)).toNat 0) I
      have E2 := ((S_M_character (d := 96) (by decide) I.lay (ins _) (ins _)) _ _ e2).1
      rw [if_pos d5, gd_rg (by omega) (by omega), gd_t ⟨by omega, by omega, by omega⟩, gd_rg (by omega) (by omega), gd_t ⟨by omega, by omega, by omega⟩, e1, bnd_l, es, gd_t ⟨by omega, by omega, by omega⟩, gd_t ⟨by omega, by omega, by omega⟩, e2, bnd_l, if_pos rfl]
      exact next h2 I2 (E2.2.2.1.trans es)
    rw [if_neg d5]
    refine next h (I.text (S := []) ⟨Ext.rf, fun _ _ _ _ => rfl, fun _ _ _ => rfl, fun _ _ _ => rfl⟩ (by simp) (fun _ _ _ => rfl) I.2.1 (by omega) (by omega)) es
set_option maxRecDepth 200000 in
theorem hF_sc (sc : List Int) : mSc (hF sc) = sc := rfl
theorem hx_of (H : H2) : lw_HX := by
  intro sc hN hs
  unfold lawN at hN
  refine law_entry ?_
  obtain ⟨h', e⟩ := law_l H hN hs 513 FU 0 (hF sc) (by omega) (by omega) (by unfold FU; omega) (inv_0 hs) (hF_sc sc)
  have q := (S_La_law_23 (d := 100) (by decide) (hF_lay hs) (v4 := 0) inR_0) _ _ e
  refine q.2.2 _ fun o' z => ?_
  cases o' with
  | inl v =>
    obtain ⟨x, hx, hv, -⟩ := z
    cases hx
    rw [hv]
    rfl
  | inr a =>
    obtain ⟨te, hx, -⟩ := z
    cases hx
end Type3
