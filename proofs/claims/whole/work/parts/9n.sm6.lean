/-! the class's second mill, the whole run -/
section Sm6
variable {B h h' h0 : MH} {k0 : Nat} {tx : List Int} {n : Int} {s : S2}
/-- what a run comes to -/
def MO2 (B : MH) (k0 : Nat) (tx : List Int) (x : RS Int) (q : S2 × Nat × Int) : Prop :=
  (q.2.1 = 0 → ∃ h', x = some (.inl 0, h') ∧ SC B k0 tx q.2.2 h' q.1) ∧ (q.2.1 ≠ 0 → ∃ h0, x = some (.inl (q.2.1 : Int), mNew (mPi h0 87 2 (q.2.1 : Int)) 13 6) ∧ SX B k0 q.2.2 h0 q.1)
noncomputable def miL (f : Nat) (v1 v1n : Nat) (v2 v3 : Int) (h : MH) : RS Int := itr (fun self (q : Nat × Nat × Int × Int × MH) => F_Sm_mill_44_b (fun v1 v1n v2 v3 h => self (v1, v1n, v2, v3, h)) q.1 q.2.1 q.2.2.1 q.2.2.2.1 q.2.2.2.2) f (v1, v1n, v2, v3, h)
theorem miL_s {f v1 v1n : Nat} {v2 v3 : Int} : miL (f + 1) v1 v1n v2 v3 h = F_Sm_mill_44_b (miL f) v1 v1n v2 v3 h := rfl
theorem m119 {why : Nat} (hl : 150 ≤ h0.1.length) : F_Sm_mill_119 (mNew (mPi h0 87 2 (why : Int)) 13 6) = some (.inl (why : Int), mNew (mPi h0 87 2 (why : Int)) 13 6) := by
  unfold F_Sm_mill_119
  rw [gi_nw, if_neg (by show ¬ 87 = h0.1.length; omega), gi_s]
theorem SO.mill {x : RS Unit} {q : S2 × Nat} {K : MH → RS Int} {y : S2 × Nat × Int} (z : SO B k0 tx n x q) (h1 : q.2 = 0 → ∀ h', SC B k0 tx n h' q.1 → MO2 B k0 tx (K h') y) (h2 : q.2 ≠ 0 → y = (q.1, q.2, n)) : MO2 B k0 tx (bndC x (fun _ h => K h) (fun te hh => gd (te = 13) (F_Sm_mill_119 hh))) y := by
  by_cases e : q.2 = 0
  · obtain ⟨h', a, b⟩ := z.1 e
    rw [a, bndC_l]
    exact h1 e h' b
  · obtain ⟨h0, a, b⟩ := z.2 e
    rw [a, bndC_r, gd_t rfl, m119 b.2.2.1, h2 e]
    exact ⟨fun q => absurd q e, fun _ => ⟨h0, rfl, b⟩⟩
theorem SC.num {x : Int} (z : SC B k0 tx n h s) : SC B k0 tx x (mPi h 86 7 x) s := by
  have f : FW (fun b i => b = 86 ∧ i = 7) noQ h (mPi h 86 7 x) := FW.pi FW.rf ⟨rfl, rfl⟩
  obtain ⟨l1, l2, l3⟩ := z.2.2.2.1
  obtain ⟨⟨r1, r2, r3⟩, r4⟩ := z.2.2.2.2.1
  have q := z.fwn f (fun b i q => .inl q.1) (fun b i q => q.elim) (lv := s.2.1) (res := s.2.2.1) ⟨by rw [gi_pi, if_neg (by omega)]; exact l1, l2, LvC.cg (h := h) (fun b j hb _ => by rw [gi_pi, if_neg (by omega)]) l3⟩ ⟨⟨by rw [gi_pi, if_neg (by omega)]; exact r1, Seg.cg (h := h) (fun j _ _ => by rw [gi_pi, if_neg (by omega)]) r2, by rw [gi_pi, if_neg (by omega)]; exact r3⟩, r4⟩
  rw [gi_s] at q
  exact q
theorem mi_l {t : List Int} (ht : t.length ≤ 400) (ok : ∀ c ∈ t, lgl c) (e4 : mGi B 4 1 = (t.length : Int)) : ∀ (rest : List Int) (f a : Nat) (cu : List Int) (n : Nat) (h : MH) (s : S2), rest.length + 2 < f → a + cu.length + rest.length = t.length → t.drop a = cu ++ rest → n ≤ a → SC B k0 t ((n : Int) - 1) h s → MO2 B k0 t (miL f 4 400 (a : Int) ((a + cu.length : Nat) : Int) h) (run2 (lns a cu rest) ((n : Int) - 1) s) := by
  have stop : ∀ (f a : Nat) (m : Int) (h : MH) (s : S2), SC B k0 t m h s → MO2 B k0 t (miL (f + 1) 4 400 (a : Int) ((t.length + 1 : Nat) : Int) h) (run2 [] m s) := by
    intro f a m h s z
    have g4 : mGi h 4 1 = (t.length : Int) := (z.1.1 4 1 (by omega)).trans e4
    rw [miL_s, F_Sm_mill_44_b, g4, if_pos (by omega), run2]
    have l1 := z.2.2.2.1.1
    unfold F_Sm_requireNoLevel
    by_cases c : s.2.1 = []
    · rw [if_pos c, l1, if_pos (by rw [c]; decide), bndC_l]
      exact ⟨fun _ => ⟨h, rfl, z⟩, fun q => absurd rfl q⟩
    · have hl : s.2.1.length ≠ 0 := fun q => c (List.eq_nil_of_length_eq_zero q)
      rw [if_neg c, l1, if_neg (by omega)]
      have tf := to_fail (h := h) (why := 10) z.2.1.rm.1 (fun (_ : Unit) h => (some (.inl (), h) : RS Unit))
      rw [show ((10 : Nat) : Int) = 10 from rfl] at tf
      rw [tf, bndC_r, gd_t rfl]
      have := m119 (h0 := h) (why := 10) z.2.1.2.2.2.2.2.1
      rw [show ((10 : Nat) : Int) = 10 from rfl] at this
      rw [this]
      exact ⟨fun q => absurd q (by show ¬ (10 : Nat) = 0; decide), fun _ => ⟨h, rfl, z.sx⟩⟩
  -- a line is taken
  have line : ∀ (G : Nat → Nat → Int → Int → MH → RS Int) (a n : Nat) (cu : List Int) (h : MH) (s : S2) (R : List (Nat × List Int)), a + cu.length ≤ t.length → Seg h 88 a cu → (∀ c ∈ cu, lgl c) → n ≤ a → SC B k0 t ((n : Int) - 1) h s → (∀ h' s', SC B k0 t (n : Int) h' s' → MO2 B k0 t (G 4 400 ((a + cu.length + 1 : Nat) : Int) ((a + cu.length + 1 : Nat) : Int) h') (run2 R (n : Int) s')) → MO2 B k0 t (F_Sm_mill_82 G 4 400 (a : Int) ((a + cu.length : Nat) : Int) h) (run2 ((a, cu) :: R) ((n : Int) - 1) s) := by
    intro G a n cu h s R hl sg okc hn z go
    unfold F_Sm_mill_82 F_Sm_mill_106
    have z7 := z.2.2.2.2.2.2
    rw [z7, gd_rg (by omega) (by omega), show (n : Int) - 1 + 1 = (n : Int) by omega]
    simp only [sto_e]
    have z1 : SC B k0 t (n : Int) (mPi h 86 7 (n : Int)) s := z.num
    obtain ⟨h2, c1, c2, c3⟩ := sm_cut (h := mPi h 86 7 (n : Int)) (p := a) (x := cu) (by omega) (Seg.cg (h := h) (fun j _ _ => by rw [gi_pi, if_neg (by omega)]) sg) okc
    have z2 : SC B k0 t (n : Int) h2 s := z1.fw' c2 (fun b i q => by unfold pLn at q; omega) (fun b i q => .inr q)
    rw [c1, bndC_l]
    obtain ⟨nm, lv, res, rp, md⟩ := s
    have A := sm_line z2 c3
    rw [run2, show (n : Int) - 1 + 1 = (n : Int) by omega]
    refine A.mill (fun q h' z' => ?_) (fun q => if_neg q)
    rw [if_pos q, gd_rg (by omega) (by omega), gd_rg (by omega) (by omega), show ((a + cu.length : Nat) : Int) + 1 = ((a + cu.length + 1 : Nat) : Int) by omega]
    exact go h' _ z'
  intro rest
  induction rest with
  | nil =>
    intro f a cu n h s hf hl hd hn z
    rw [List.length_nil] at hl hf
    obtain ⟨f, rfl⟩ : ∃ g, f = g + 1 + 1 := ⟨f - 2, by omega⟩
    have g4 : mGi h 4 1 = (t.length : Int) := (z.1.1 4 1 (by omega)).trans e4
    have hat : a + cu.length = t.length := by omega
    rw [miL_s, F_Sm_mill_44_b, g4, if_neg (by omega), if_pos (by omega), lns]
    by_cases c : cu = []
    · subst c
      rw [if_pos (by simp), if_pos rfl]
      unfold F_Sm_mill_106
      rw [gd_rg (by omega) (by omega), show ((a + ([] : List Int).length : Nat) : Int) + 1 = ((t.length + 1 : Nat) : Int) by omega]
      exact stop f a _ h s z
    · have hc : cu.length ≠ 0 := fun q => c (List.eq_nil_of_length_eq_zero q)
      rw [if_neg (by omega), if_neg c]
      have hcu : t.drop a = cu := by rw [hd, List.append_nil]
      have sg : Seg h 88 a cu := by
        rw [← hcu]
        have := z.2.2.2.2.2.1.1.drop a (by omega)
        rw [Nat.zero_add] at this
        exact this
      refine line _ a n cu h s [] (by omega) sg (fun c hc => ok c (List.mem_of_mem_drop (by rw [hcu]; exact hc))) hn z (fun h' s' z' => ?_)
      have := stop f (a + cu.length + 1) (n : Int) h' s' z'
      rw [hat] at this ⊢
      exact this
  | cons c rest ih =>
    intro f a cu n h s hf hl hd hn z
    obtain ⟨f, rfl⟩ : ∃ g, f = g + 1 := ⟨f - 1, by omega⟩
    rw [List.length_cons] at hl hf
    have g4 : mGi h 4 1 = (t.length : Int) := (z.1.1 4 1 (by omega)).trans e4
    have hsg := z.2.2.2.2.2.1.1.drop a (by omega)
    rw [Nat.zero_add, hd, Seg.app] at hsg
    rw [miL_s, F_Sm_mill_44_b, g4, if_neg (by omega), if_neg (by omega), gd_b (by omega) (by omega), Int.toNat_natCast, hsg.2.1, lns]
    by_cases c10 : c = 10
    · rw [if_pos c10, if_pos c10]
      refine line _ a n cu h s _ (by omega) hsg.1 (fun c hc => ok c (List.mem_of_mem_drop (by rw [hd]; exact List.mem_append.mpr (.inl hc)))) hn z (fun h' s' z' => ?_)
      have hd' : t.drop (a + cu.length + 1) = [] ++ rest := by
        rw [show a + cu.length + 1 = a + (cu.length + 1) by omega, ← List.drop_drop, hd]
        rw [← List.drop_drop, List.drop_left]
        rfl
      have z'' : SC B k0 t (((n + 1 : Nat) : Int) - 1) h' s' := by rw [show ((n + 1 : Nat) : Int) - 1 = (n : Int) by omega]; exact z'
      have i := ih f (a + cu.length + 1) [] (n + 1) h' s' (by omega) (by rw [List.length_nil]; omega) hd' (by omega) z''
      rw [show ((n + 1 : Nat) : Int) - 1 = (n : Int) by omega] at i
      exact i
    · rw [if_neg c10, if_neg c10]
      unfold F_Sm_mill_106
      rw [gd_rg (by omega) (by omega)]
      have i := ih f a (cu ++ [c]) n h s (by omega) (by rw [List.length_append, List.length_singleton]; omega) (by rw [hd, List.append_assoc]; rfl) hn z
      rw [List.length_append, List.length_singleton, show ((a + (cu.length + 1) : Nat) : Int) = ((a + cu.length : Nat) : Int) + 1 by omega] at i
      exact i
theorem ne_l : ∀ (q f k : Nat) (h : MH), k + q = 8 → q < f → (∀ j, j < k → mGl h 90 j = 0) → ∃ h', itr (fun self (q : Int × MH) => F_Na_empty_2_b (fun v1 h => self (v1, h)) q.1 q.2) f ((k : Int), h) = some (.inl (), h') ∧ FW (fun _ _ => False) (fun b _ => b = 90) h h' ∧ ∀ j, j < 8 → mGl h' 90 j = 0 := by
  intro q
  induction q with
  | zero =>
    intro f k h hk hf z
    obtain ⟨f, rfl⟩ : ∃ g, f = g + 1 := ⟨f - 1, by omega⟩
    refine ⟨h, ?_, FW.rf, fun j hj => z j (by omega)⟩
    rw [itr_s]
    dsimp only
    rw [F_Na_empty_2_b, if_pos (by omega)]
  | succ q ih =>
    intro f k h hk hf z
    obtain ⟨f, rfl⟩ : ∃ g, f = g + 1 := ⟨f - 1, by omega⟩
    obtain ⟨h1, e1, f1, y1⟩ := ih f (k + 1) (mPl h 90 k 0) (by omega) (by omega) (fun j hj => by
      rw [gl_pl]
      by_cases c : j = k
      · rw [if_pos ⟨rfl, c⟩]
      · rw [if_neg (by omega)]; exact z j (by omega))
    have f0 : FW (fun _ _ => False) (fun b _ => b = 90) h (mPl h 90 k 0) := FW.pl FW.rf rfl
    refine ⟨h1, ?_, f0.tr f1, y1⟩
    rw [itr_s]
    dsimp only
    rw [F_Na_empty_2_b, if_neg (by omega), gd_b (by omega) (by omega), Int.toNat_natCast]
    simp only [sto_e]
    rw [gd_rg (by omega) (by omega), show (k : Int) + 1 = ((k + 1 : Nat) : Int) by omega]
    exact e1
def s20 : S2 := (fun _ => none, [], [], 0, 0)
theorem mill2_e {t : List Int} (ht : t.length ≤ 400) (ok : ∀ c ∈ t, lgl c) (e4 : mGi B 4 1 = (t.length : Int)) (sg : Seg B 5 0 t) (rk : rowsOK B) (rm : Room k0 B) (hk : k0 ≤ 600) (hl : 150 ≤ B.1.length) : MO2 B k0 t (F_Sm_mill 4 400 B) (run2 (lns 0 [] t) (-1) s20) := by
  have f0 : FW (fun b _ => b = 87 ∨ b = 88) noQ B (mPi (mPi (mPi (mPi (mCpI B 5 88 0 0 t.length) 88 400 48) 88 401 49) 87 1 0) 87 2 0) := FW.pi (FW.pi (FW.pi (FW.pi (FW.cp FW.rf (fun j _ _ => .inr rfl)) (.inr rfl)) (.inr rfl)) (.inl rfl)) (.inl rfl)
  have e0 : F_To_begin 4 400 B = some (.inl (), mPi (mPi (mPi (mPi (mCpI B 5 88 0 0 t.length) 88 400 48) 88 401 49) 87 1 0) 87 2 0) := by
    unfold F_To_begin
    rw [e4, gd_cp (by decide) (by decide) (by omega) (by omega) (by omega)]
    simp only [sto_e]
    rw [gd_b (by decide) (by decide), gd_b (by decide) (by decide), Int.toNat_natCast]
    rfl
  have T0 : TxC (mPi (mPi (mPi (mPi (mCpI B 5 88 0 0 t.length) 88 400 48) 88 401 49) 87 1 0) 87 2 0) t := by
    refine ⟨Seg.pio (Seg.pio (Seg.pio (Seg.pio (Seg.cp sg) (.inr (.inl (by omega)))) (.inr (.inl (by omega)))) (.inl (by decide))) (.inl (by decide)), ht, ?_, ?_⟩
    · rw [gi_pi, if_neg (by omega), gi_pi, if_neg (by omega), gi_pi, if_neg (by omega), gi_s]
    · rw [gi_pi, if_neg (by omega), gi_pi, if_neg (by omega), gi_s]
  have p0 : mGi (mPi (mPi (mPi (mPi (mCpI B 5 88 0 0 t.length) 88 400 48) 88 401 49) 87 1 0) 87 2 0) 87 1 = 0 := by rw [gi_pi, if_neg (by omega), gi_s]
  generalize mPi (mPi (mPi (mPi (mCpI B 5 88 0 0 t.length) 88 400 48) 88 401 49) 87 1 0) 87 2 0 = h0 at *
  obtain ⟨h1, e1, f1, n1⟩ := ne_l 8 FU 0 h0 rfl (by unfold FU; omega) (fun j hj => absurd hj (Nat.not_lt_zero _))
  obtain ⟨h2, e2, f2, y2⟩ := let_empty (h := h1) (a := 101) (n := 600)
  have e1' : F_Na_empty h0 = some (.inl (), h1) := e1
  have f3 : FW (fun b i => (b = 95 ∧ i = 3) ∨ (b = 86 ∧ (i = 7 ∨ i = 11))) noQ h2 (mPi (mPi (mPi h2 95 3 0) 86 11 0) 86 7 (-1)) := FW.pi (FW.pi (FW.pi FW.rf (.inl ⟨rfl, rfl⟩)) (.inr ⟨rfl, .inr rfl⟩)) (.inr ⟨rfl, .inl rfl⟩)
  have g95 : mGi (mPi (mPi (mPi h2 95 3 0) 86 11 0) 86 7 (-1)) 95 3 = 0 := by rw [gi_pi, if_neg (by omega), gi_pi, if_neg (by omega), gi_s]
  have g11 : mGi (mPi (mPi (mPi h2 95 3 0) 86 11 0) 86 7 (-1)) 86 11 = 0 := by rw [gi_pi, if_neg (by omega), gi_s]
  have g7 : mGi (mPi (mPi (mPi h2 95 3 0) 86 11 0) 86 7 (-1)) 86 7 = -1 := gi_s
  unfold F_Sm_mill
  rw [e0, bnd_l, e1', bnd_l, e2, bnd_l]
  simp only [sto_e]
  generalize mPi (mPi (mPi h2 95 3 0) 86 11 0) 86 7 (-1) = h3 at *
  have F : FW (fun b i => b = 87 ∨ b = 88 ∨ b = 101 ∨ (b = 95 ∧ i = 3) ∨ (b = 86 ∧ (i = 7 ∨ i = 11))) (fun b _ => b = 90) B h3 := by
    refine (((f0.sub (fun b i q => ?_) (fun b i q => q.elim)).tr (f1.sub (fun b i q => q.elim) (fun b i q => q))).tr (f2.fw.sub (fun b i q => ?_) (fun b i q => q.elim))).tr (f3.sub (fun b i q => ?_) (fun b i q => q.elim))
    · omega
    · have := List.mem_singleton.mp q; omega
    · omega
  have gr : ∀ a i, mGr h3 a i = mGr B a i := fun a i => by show h3.2.2.2.1 a i = B.2.2.2.1 a i; rw [F.2.1]
  have hs : mSlt h3 = mSlt B := by unfold mSlt; rw [F.1]
  have g23 : ∀ b i, ¬ ((b = 95 ∧ i = 3) ∨ (b = 86 ∧ (i = 7 ∨ i = 11))) → b ≠ 101 → mGi h3 b i = mGi h0 b i := fun b i q1 q2 => (f3.2.2.1 b i q1).trans ((f2.2.2 b (by simp; exact q2) i).trans (f1.2.2.1 b i id))
  have gl90 : ∀ j, j < 8 → mGl h3 90 j = 0 := fun j hj => (f3.2.2.2 90 j id).trans ((f2.gl 90 j).trans (n1 j hj))
  have z : SC B k0 t (((0 : Nat) : Int) - 1) h3 s20 := by
    refine ⟨GF.rf.fw F (fun b i q => by omega) (fun b i q => by omega), ⟨fun k hk => gl90 k hk, ⟨(g23 87 1 (by omega) (by omega)).trans p0, Nat.zero_le _⟩, g95, ⟨fun j hj r hr => ?_, fun j j' hj hj' hne r r' hr hr' => ?_⟩, ?_, by rw [F.1]; exact hl, hk, Nat.zero_le _⟩, fun k hk q e => (by cases e), ⟨g11, Nat.zero_le _, trivial⟩, ⟨⟨?_, trivial, ?_⟩, Nat.zero_le _⟩, T0.cg (fun j _ => g23 88 j (by omega) (by omega)), g7⟩
    · rw [gr] at hr
      obtain ⟨⟨q1, q2, q3⟩, q4⟩ := rk.1 j hj r hr
      refine ⟨⟨by rw [F.1]; exact q1, ?_, by rw [F.1]; exact q3⟩, q4⟩
      rw [gr, gr, gr, gr]
      exact q2
    · rw [gr] at hr hr'
      exact rk.2 j j' hj hj' hne r r' hr hr'
    · unfold Room at rm ⊢
      rw [hs, F.1, nRows_c (fun i => gr 96 i)]
      exact rm
    · exact (f3.2.2.1 101 1 (by omega)).trans y2.1
    · exact (f3.2.2.1 101 2 (by omega)).trans y2.2.2
  exact mi_l ht ok e4 t FU 0 [] 0 h3 s20 (by unfold FU; omega) (by simp) (by simp) (Nat.le_refl _) z
end Sm6
