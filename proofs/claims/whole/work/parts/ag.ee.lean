/-! the reference's values: a row of tokens -/
section Ee
variable {h h' : MH} {M : Nat} {vs r : VS} {sg : List Int} {s st : Int} {a b v : Int64 × Bool} {u : Int64} {t : Tk} {m : Bool}
noncomputable def nbL (f : Nat) (v1 v3 : Int64) (v5 v6 : Int) (h : MH) : RS Int64 := itr (fun self (q : Int64 × Int64 × Int × Int × MH) => F_M_number_8_b (fun v1 v3 v5 v6 h => self (v1, v3, v5, v6, h)) q.1 q.2.1 q.2.2.1 q.2.2.2.1 q.2.2.2.2) f (v1, v3, v5, v6, h)
theorem nbL_s {f : Nat} {v1 v3 : Int64} {v5 v6 : Int} : nbL (f + 1) v1 v3 v5 v6 h = F_M_number_8_b (nbL f) v1 v3 v5 v6 h := rfl
theorem nb_0 {f n : Nat} {w : Int64} {j : Int} (e : F_M_sizeOf u h = some (.inl (n : Int), h)) : nbL (f + 1) u w 0 j h = bnd (F_M_fail 9 h) fun _ h2 => some (.inl w, h2) := by
  rw [nbL_s, F_M_number_8_b, e, bnd_l]
  unfold F_M_number_97
  split
  · rw [if_pos rfl]
  · rw [if_pos rfl, if_pos rfl]
theorem nb_l {s n g k mm : Nat} (z1 : isR u k s n g mm) (hs : s + n ≤ 1302) : ∀ (x : List Int) (f j : Nat) (a : Int), x.length + 1 < f → j + x.length = n → 0 ≤ a → a ≤ 9223372036854775807 → Seg h 121 (s + j) x → (∀ c ∈ x, lgl c) →
    (∀ w, numE a x = some w → nbL f u (Int64.ofInt a) 1 (j : Int) h = some (.inl (Int64.ofInt w), h)) ∧ (numE a x = none → ∃ w, nbL f u (Int64.ofInt a) 1 (j : Int) h = bnd (F_M_fail 9 h) fun _ h2 => some (.inl w, h2)) := by
  have hsz : F_M_sizeOf u h = some (.inl (n : Int), h) := by unfold F_M_sizeOf; rw [z1.len]
  intro x
  induction x with
  | nil =>
    intro f j a hf hj ha hb z ok
    obtain ⟨f, rfl⟩ : ∃ g, f = g + 1 := ⟨f - 1, by omega⟩
    rw [List.length_nil] at hj
    rw [nbL_s, F_M_number_8_b, hsz, bnd_l, if_pos (by omega), numE]
    unfold F_M_number_97
    rw [if_neg (by decide)]
    exact ⟨fun w e => by cases e; rfl, fun e => by cases e⟩
  | cons c x ih =>
    intro f j a hf hj ha hb z ok
    obtain ⟨f, rfl⟩ : ∃ g, f = g + 1 := ⟨f - 1, by omega⟩
    rw [List.length_cons] at hj hf
    obtain ⟨cn, hc, hc2⟩ := lgl_n (ok c List.mem_cons_self)
    rw [nbL_s, F_M_number_8_b, hsz, bnd_l, if_neg (by omega), if_neg (by decide)]
    unfold F_M_placeOf
    rw [z1.start, bnd_l, gd_rg (by omega) (by omega), gd_b (by omega) (by omega), show ((s : Int) + (j : Int)).toNat = s + j by omega, z.1, gd_rg (by omega) (by omega), numE]
    have bad : (∀ w, (none : Option Int) = some w → F_M_number_78 (nbL f) u (Int64.ofInt a) (j : Int) (c - 48) h = some (.inl (Int64.ofInt w), h)) ∧ ((none : Option Int) = none → ∃ w, F_M_number_78 (nbL f) u (Int64.ofInt a) (j : Int) (c - 48) h = bnd (F_M_fail 9 h) fun _ h2 => some (.inl w, h2)) := by
      refine ⟨fun w e => (by cases e), fun _ => ?_⟩
      unfold F_M_number_78 F_M_number_79
      rw [gd_rg (by omega) (by omega)]
      obtain ⟨f, rfl⟩ : ∃ g, f = g + 1 := ⟨f - 1, by omega⟩
      exact ⟨_, nb_0 hsz⟩
    by_cases d : cD c = true
    · have hd : 48 ≤ c ∧ c ≤ 57 := by unfold cD at d; exact of_decide_eq_true d
      rw [if_neg (show ¬ c - 48 < 0 by omega), if_neg (show ¬ (9 : Int) < c - 48 by omega)]
      have good : a * 10 + (c - 48) ≤ 9223372036854775807 → (∀ w, numE (a * 10 + (c - 48)) x = some w → F_M_number_74 (nbL f) u (Int64.ofInt a) (j : Int) (c - 48) h = some (.inl (Int64.ofInt w), h)) ∧ (numE (a * 10 + (c - 48)) x = none → ∃ w, F_M_number_74 (nbL f) u (Int64.ofInt a) (j : Int) (c - 48) h = bnd (F_M_fail 9 h) fun _ h2 => some (.inl w, h2)) := fun q => by
        unfold F_M_number_74 F_M_number_79
        rw [gd_rg (by omega) (by omega), stp_n (by omega) (by omega), show (j : Int) + 1 = ((j + 1 : Nat) : Int) by omega]
        exact ih f (j + 1) _ (by omega) (by omega) (by omega) q (by rw [show s + (j + 1) = s + j + 1 by omega]; exact z.2) (fun y hy => ok y (List.mem_cons_of_mem _ hy))
      have elt : (lgI (Int64.ofInt a) (922337203685477580 : Int64) < 0) ↔ a < 922337203685477580 := by
        rw [lg_lt]
        have := i64_le (a := 922337203685477580) (b := a) (by decide) (by decide) ha hb
        have e2 : (922337203685477580 : Int64) = Int64.ofInt 922337203685477580 := by decide
        rw [e2, ← Int64.not_le, this]
        omega
      have ele : (lgI (Int64.ofInt a) (922337203685477580 : Int64) ≤ 0) ↔ a ≤ 922337203685477580 := by
        rw [lg_le]
        have := i64_le (a := a) (b := 922337203685477580) ha hb (by decide) (by decide)
        have e2 : (922337203685477580 : Int64) = Int64.ofInt 922337203685477580 := by decide
        rw [e2, this]
      by_cases c1 : a < 922337203685477580
      · rw [if_pos (elt.mpr c1), if_pos ⟨d, by omega⟩]
        exact good (by omega)
      rw [if_neg (fun q => c1 (elt.mp q))]
      by_cases c2 : a = 922337203685477580
      · have e0 : lgI (Int64.ofInt a) (922337203685477580 : Int64) = 0 := by
          have q1 := ele.mpr (by omega)
          have q2 : ¬ lgI (Int64.ofInt a) (922337203685477580 : Int64) < 0 := fun q => c1 (elt.mp q)
          omega
        rw [if_pos e0]
        by_cases c3 : 8 ≤ c - 48
        · rw [if_pos c3, if_neg (fun q => by have := q.2; omega)]
          exact bad
        · rw [if_neg c3, if_pos ⟨d, by omega⟩]
          exact good (by omega)
      · have e0 : ¬ lgI (Int64.ofInt a) (922337203685477580 : Int64) = 0 := fun q => by
          have := ele.mp (by omega)
          omega
        rw [if_neg e0, if_neg (fun q => by have := q.2; omega)]
        exact bad
    · rw [if_neg (fun e => d e.1)]
      have hd : ¬ (48 ≤ c ∧ c ≤ 57) := fun q => d (by unfold cD; exact decide_eq_true q)
      by_cases c1 : c - 48 < 0
      · rw [if_pos c1]; exact bad
      · rw [if_neg c1, if_pos (by omega)]; exact bad
theorem numM_e (z : TR h M u t m) (ok : okT t) : (∀ w, numE 0 t.2.1 = some w → F_M_number u h = some (.inl (Int64.ofInt w), h)) ∧ (numE 0 t.2.1 = none → ∃ w, F_M_number u h = bnd (F_M_fail 9 h) fun _ h2 => some (.inl w, h2)) := by
  obtain ⟨s, g, z1, -, z3, z4, z5⟩ := z
  exact nb_l z1 (by omega) t.2.1 FU 0 0 (by unfold FU; omega) (by omega) (by decide) (by decide) z3 ok.1
theorem hold_e {n k : Nat} {x : Int} {fl : Bool} (e50 : mGi h 107 50 = (n : Int)) (e51 : mGi h 107 51 = (k : Int)) (hn : n < 239) (hk : k < 300) : ∃ h', F_M_hold x (bI fl) h = some (.inl (), h') ∧ FW (fun b i => (b = 107 ∧ (i = 50 ∨ i = 51)) ∨ ((b = 147 ∨ b = 148) ∧ i = n)) noQ h h' ∧ mGi h' 107 50 = ((n + 1 : Nat) : Int) ∧ mGi h' 107 51 = ((k + (if fl = true then 1 else 0) : Nat) : Int) ∧ mGi h' 147 n = x ∧ mGi h' 148 n = bI fl := by
  unfold F_M_hold F_M_hold_34
  rw [e50, gd_b (by omega) (by omega), Int.toNat_natCast, sto_e]
  have g1 : mGi (mPi h 147 n x) 107 50 = (n : Int) := by rw [gi_pi, if_neg (by omega)]; exact e50
  rw [g1, gd_b (by omega) (by omega), Int.toNat_natCast, sto_e]
  have g2 : mGi (mPi (mPi h 147 n x) 148 n (bI fl)) 107 51 = (k : Int) := by rw [gi_pi, if_neg (by omega), gi_pi, if_neg (by omega)]; exact e51
  rw [g2]
  have key : ∀ y : Nat, y ≤ 1 → ∃ h', (gd (inR ((k : Int) + (y : Int))) (sto (mPi (mPi (mPi h 147 n x) 148 n (bI fl)) 107 51 ((k : Int) + (y : Int))) fun h2 => gd (inR ((mGi h2 107 50) + (1 : Int))) (sto (mPi h2 107 50 ((mGi h2 107 50) + (1 : Int))) fun h6 => some (.inl (), h6))) : RS Unit) = some (.inl (), h') ∧ FW (fun b i => (b = 107 ∧ (i = 50 ∨ i = 51)) ∨ ((b = 147 ∨ b = 148) ∧ i = n)) noQ h h' ∧ mGi h' 107 50 = ((n + 1 : Nat) : Int) ∧ mGi h' 107 51 = ((k + y : Nat) : Int) ∧ mGi h' 147 n = x ∧ mGi h' 148 n = bI fl := fun y hy => by
    rw [gd_rg (by omega) (by omega), sto_e, gi_pi, if_neg (show ¬ ((107 : Nat) = 107 ∧ (50 : Nat) = 51) by omega), gi_pi, if_neg (by omega), g1, gd_rg (by omega) (by omega), sto_e]
    refine ⟨_, rfl, FW.pi (FW.pi (FW.pi (FW.pi FW.rf (by omega)) (by omega)) (by omega)) (by omega), ?_, ?_, ?_, ?_⟩
    · rw [gi_s]; omega
    · rw [gi_pi, if_neg (by omega), gi_s]; omega
    · rw [gi_pi, if_neg (by omega), gi_pi, if_neg (by omega), gi_pi, if_neg (by omega), gi_s]
    · rw [gi_pi, if_neg (by omega), gi_pi, if_neg (by omega), gi_s]
  cases fl with
  | false =>
    rw [if_pos (show bI false = 0 from rfl), if_neg (show ¬ false = true by decide)]
    exact key 0 (by decide)
  | true =>
    rw [if_neg (show ¬ bI true = 0 by decide), if_pos rfl]
    exact key 1 (by decide)
/-- a value is put on top -/
theorem pushT {x : Int64} (z : EsT h vs sg) (hv : vs.length < 119) : ∃ h', F_M_push x h = some (.inl (), h') ∧ FW pEr qEr h h' ∧ EsF h' (x, false) vs sg := by
  obtain ⟨z1, z2, z3, z4, z5, z6⟩ := z
  have gi : ∀ b i, ¬ (b = 107 ∧ i = 49) → mGi (mPi (mPl h 139 vs.length x) 107 49 ((vs.length + 1 : Nat) : Int)) b i = mGi h b i := fun b i hb => by rw [gi_pi, if_neg hb, gi_pl]
  refine ⟨_, push_e z1 (by omega), FW.pi (FW.pl FW.rf rfl) (by unfold pEr; omega), gi_s, (gi 107 50 (by omega)).trans z2, (gi 107 51 (by omega)).trans z3, ⟨?_, VsR.cg (fun j hj => ?_) z4⟩, SgR.cg (fun j _ => ⟨gi 147 j (by omega), gi 148 j (by omega)⟩) z5, ?_⟩
  · rw [gl_pi, gl_pl, if_pos ⟨rfl, rfl⟩]
  · rw [gl_pi, gl_pl, if_neg (by omega)]
  · have e1 := gi 107 1 (by omega)
    exact ⟨fun q => e1.trans (z6.1 q.2), fun q => e1.trans (z6.2 (fun y => q ⟨fun e => (by cases e), y⟩))⟩
/-- a sign that isn't between two values is held -/
theorem holdT {x : Int} (hu : ¬ (s < 65536 ∧ s ≠ 40)) (hx : x = enc s) (z : EsT h vs sg) (hs : sg.length < 200) : ∃ h', F_M_hold x 0 h = some (.inl (), h') ∧ FW pEr qEr h h' ∧ EsT h' vs (s :: sg) := by
  obtain ⟨z1, z2, z3, z4, z5, z6⟩ := z
  have hns := nS_le sg vs
  obtain ⟨h', a1, a2, a3, a4, a5, a6⟩ := hold_e (x := x) (fl := false) z2 z3 (by omega) (by omega)
  have e1 := a2.2.2.1 107 1 (by omega)
  refine ⟨h', a1, a2.sub (fun b i q => by unfold pEr; omega) (fun _ _ q => q.elim), (a2.2.2.1 107 49 (by omega)).trans z1, a3, by rw [a4, nS_u hu, if_neg (show ¬ false = true by decide)]; rfl, VsR.cg (fun j _ => a2.2.2.2 139 j id) z4, (SgR_u hu).mpr ⟨a5.trans hx, SgR.cg (fun j hj => ⟨a2.2.2.1 147 j (by omega), a2.2.2.1 148 j (by omega)⟩) z5⟩, fun q => e1.trans (z6.1 ((fin_u hu).mp q)), fun q => e1.trans (z6.2 (fun y => q ((fin_u hu).mpr y)))⟩
theorem beg_v (y : TR h M u t m) (z : EsT h vs sg) (hv : vs.length < 119) (k1 : t.1 = 1) : ∃ h', F_M_begins u h = some (.inl 0, h') ∧ FW pEr qEr h h' ∧ EsF h' (0, false) vs sg := by
  have hk : ((rk t.1 : Nat) : Int) = 1 := by rw [k1]; rfl
  obtain ⟨h', a1, a2, a3⟩ := pushT (x := 0) z hv
  refine ⟨h', ?_, a2, a3⟩
  unfold F_M_begins F_M_begins_13 F_M_begins_26 F_M_begins_40
  rw [mk_e y, bnd_l, if_pos hk, if_neg (by decide), if_neg (by decide), a1, bnd_l]
theorem beg_n (y : TR h M u t m) (ok : okT t) (z : EsT h vs sg) (hv : vs.length < 119) (k2 : t.1 = 2) :
    (∀ n, numE 0 t.2.1 = some n → ∃ h', F_M_begins u h = some (.inl 0, h') ∧ FW pEr qEr h h' ∧ EsF h' (Int64.ofInt n, false) vs sg) ∧ (numE 0 t.2.1 = none → ∃ h', F_M_begins u h = some (.inl 0, h') ∧ FW pEr qEr h h' ∧ mGi h' 107 1 = 9) := by
  have hk : ((rk t.1 : Nat) : Int) = 2 := by rw [k2]; rfl
  obtain ⟨n1, n2⟩ := numM_e y ok
  unfold F_M_begins F_M_begins_13 F_M_begins_26 F_M_begins_40
  rw [mk_e y, bnd_l, if_neg (by omega), if_pos rfl, mk_e y, bnd_l, if_pos hk, if_pos rfl]
  refine ⟨fun n e => ?_, fun e => ?_⟩
  · obtain ⟨h', a1, a2, a3⟩ := pushT (x := Int64.ofInt n) z hv
    rw [n1 n e, bnd_l, a1, bnd_l]
    exact ⟨h', rfl, a2, a3⟩
  · obtain ⟨w, ew⟩ := n2 e
    obtain ⟨h1, b1, b2, b3⟩ := fail_e z.2.2.2.2.2 (Q := False) (fun q => q.elim)
    rw [ew, b1, bnd_l, bnd_l, push_e ((b2.2.2.1 107 49 (by omega)).trans z.1) (by omega), bnd_l]
    exact ⟨_, rfl, FW.pi (FW.pl (b2.sub (fun b i q => by unfold pEr; omega) (fun _ _ q => q.elim)) rfl) (by unfold pEr; omega), by rw [gi_pi, if_neg (by omega), gi_pl]; exact b3⟩
theorem tkW.sg4 (w : tkW t) (ne : t.2.1 ≠ []) : t.1 = 4 → t.2.1.length = 1 ∨ t.2.1.length = 2 := fun k4 => by
  rcases w with q | ⟨-, -, q⟩
  · exact absurd (by rw [q]; rfl) ne
  · rcases q with q | q | q | q
    · omega
    · omega
    · omega
    · rcases q.2.2 with q | q
      · exact .inl q
      · exact .inr q.1
theorem need9 {x : Int} {P : Prop} (hx : p01 x) (z : rE h P) : ∃ h' y, F_M_need x 9 h = some (.inl y, h') ∧ FW (fun b i => b = 107 ∧ i = 1) noQ h h' ∧ (P → x = 1 → y = 1 ∧ h' = h) ∧ (¬ (P ∧ x = 1) → y = 0 ∧ mGi h' 107 1 = 9) := by
  by_cases c : mGi h 107 1 = 0
  · rcases hx with rfl | rfl
    · exact ⟨_, _, need_0 c (by decide), FW.pi FW.rf ⟨rfl, rfl⟩, fun _ q => absurd q (by decide), fun _ => ⟨rfl, gi_s⟩⟩
    · have hP : P := Classical.byContradiction (fun q => by have := z.2 q; omega)
      exact ⟨_, _, need_1 c, FW.rf, fun _ _ => ⟨rfl, rfl⟩, fun q => absurd ⟨hP, rfl⟩ q⟩
  · obtain ⟨h1, a1, a2⟩ := need_x (v := 9) (x := x) rfl c
    have nP : ¬ P := fun q => c (z.1 q)
    exact ⟨h1, 0, a1, ⟨a2.1, by rw [a2.2.1], fun b i _ => a2.2.2 b i id, fun b i _ => a2.gl b i⟩, fun q => absurd q nP, fun _ => ⟨rfl, (a2.2.2 107 1 id).trans (z.2 nP)⟩⟩
theorem beg_s (y : TR h M u t m) (w : tkW t) (ne : t.2.1 ≠ []) (z : EsT h vs sg) (hf : fin' sg vs) (hs : sg.length < 200) (k1 : t.1 ≠ 1) (k2 : t.1 ≠ 2) :
    ((sgOf t.1 t.2.1 = 45 ∨ sgOf t.1 t.2.1 = 33 ∨ sgOf t.1 t.2.1 = 126) → ∃ h', F_M_begins u h = some (.inl 1, h') ∧ FW pEr qEr h h' ∧ EsT h' vs ((sgOf t.1 t.2.1 + 65536) :: sg)) ∧
    (sgOf t.1 t.2.1 = 40 → ∃ h', F_M_begins u h = some (.inl 1, h') ∧ FW pEr qEr h h' ∧ EsT h' vs (40 :: sg)) ∧
    (¬ (sgOf t.1 t.2.1 = 45 ∨ sgOf t.1 t.2.1 = 33 ∨ sgOf t.1 t.2.1 = 126) → sgOf t.1 t.2.1 ≠ 40 → ∃ h', F_M_begins u h = some (.inl 1, h') ∧ FW pEr qEr h h' ∧ mGi h' 107 1 = 9) := by
  have hk1 : ¬ ((rk t.1 : Nat) : Int) = 1 := fun q => k1 ((rk_i (k := t.1) (j := 1) (by decide) (by decide)).mp (by omega))
  have hk2 : ¬ ((rk t.1 : Nat) : Int) = 2 := fun q => k2 ((rk_i (k := t.1) (j := 2) (by decide) (by decide)).mp (by omega))
  have hl := List.length_pos_iff.mpr ne
  have hc0 : ∃ c0, c0 = t.2.1.getD 0 0 := ⟨_, rfl⟩
  obtain ⟨c0, hc0⟩ := hc0
  have e0 : F_M_begins u h = if bI (isSg t c0) = 0 then F_M_begins_99 c0 h else if c0 = (45 : Int) then F_M_begins_95 c0 h else if c0 = (33 : Int) then F_M_begins_95 c0 h else if c0 = (126 : Int) then F_M_begins_95 c0 h else if c0 = (40 : Int) then F_M_begins_95 c0 h else F_M_begins_99 c0 h := by
    unfold F_M_begins F_M_begins_13
    rw [mk_e y, bnd_l, if_neg hk1, if_pos rfl, mk_e y, bnd_l, if_neg hk2]
    have y' := y
    obtain ⟨s, g, z1, -, z3, z4, z5⟩ := y
    unfold F_M_placeOf
    have e121 : mGi h 121 s = c0 := by
      have := z3.get 0 (by omega)
      rw [Nat.add_zero] at this
      rw [this, hc0]
    rw [z1.start, bnd_l, gd_b (by omega) (by omega), Int.toNat_natCast, e121, m_sign2 y', bnd_l]
  have e99 : ∃ h', F_M_begins_99 c0 h = some (.inl 1, h') ∧ FW pEr qEr h h' ∧ mGi h' 107 1 = 9 := by
    obtain ⟨h', y, a1, a2, -, a4⟩ := need9 (x := 0) (.inl rfl) z.2.2.2.2.2
    obtain ⟨q1, q2⟩ := a4 (fun q => absurd q.2 (by decide))
    unfold F_M_begins_99 F_M_begins_100
    rw [gd_01a, a1, bnd_l, if_pos q1]
    exact ⟨h', rfl, a2.sub (fun b i q => by unfold pEr; omega) (fun _ _ q => q.elim), q2⟩
  rw [e0]
  by_cases cs : isSg t c0 = true
  · have cs' : t.1 = 4 ∧ t.2.1 = [c0] := of_decide_eq_true cs
    have hsg : sgOf t.1 t.2.1 = c0 := by
      unfold sgOf
      rw [if_pos cs'.1, cs'.2, if_neg (by simp)]
      show c0 + 0 = c0
      omega
    rw [hsg, cs, if_neg (show ¬ bI true = 0 by decide)]
    have e95 : F_M_begins_95 c0 h = if c0 = 40 then F_M_begins_124 c0 h else gd (inR (-c0)) (F_M_begins_124 (-c0) h) := by
      unfold F_M_begins_95 F_M_begins_100
      rw [gd_01b, need_1 (z.2.2.2.2.2.1 hf), bnd_l, if_neg (by decide)]
    refine ⟨fun q => ?_, fun q => ?_, fun q1 q2 => ?_⟩
    · obtain ⟨h', a1, a2, a3⟩ := holdT (s := c0 + 65536) (x := -c0) (by omega) (by unfold enc; rw [if_neg (by omega)]; omega) z hs
      have : (if c0 = (45 : Int) then F_M_begins_95 c0 h else if c0 = (33 : Int) then F_M_begins_95 c0 h else if c0 = (126 : Int) then F_M_begins_95 c0 h else if c0 = (40 : Int) then F_M_begins_95 c0 h else F_M_begins_99 c0 h) = F_M_begins_95 c0 h := by
        rcases q with q | q | q <;> subst q <;> rfl
      rw [this, e95, if_neg (by omega), gd_rg (by omega) (by omega)]
      unfold F_M_begins_124
      rw [a1, bnd_l]
      exact ⟨h', rfl, a2, a3⟩
    · obtain ⟨h', a1, a2, a3⟩ := holdT (s := 40) (x := 40) (by omega) (by decide) z hs
      rw [q, if_neg (by decide), if_neg (by decide), if_neg (by decide), if_pos rfl]
      rw [q] at e95
      rw [e95, if_pos rfl]
      unfold F_M_begins_124
      rw [a1, bnd_l]
      exact ⟨h', rfl, a2, a3⟩
    · rw [if_neg (by omega), if_neg (by omega), if_neg (by omega), if_neg q2]
      exact e99
  · rw [Bool.eq_false_iff.mpr cs, if_pos (show bI false = 0 from rfl)]
    have no : ∀ x : Int, x = 45 ∨ x = 33 ∨ x = 126 ∨ x = 40 → sgOf t.1 t.2.1 ≠ x := fun x hx q => by
      unfold sgOf at q
      by_cases c4 : t.1 = 4
      · rw [if_pos c4] at q
        rcases w.sg4 ne c4 with l1 | l2
        · apply cs
          refine decide_eq_true ⟨c4, ?_⟩
          match hq : t.2.1, l1 with
          | [z0], _ => rw [hc0, hq]; rfl
        · rw [if_pos l2] at q
          have b0 := w.ok.1 _ (getD_m (l := t.2.1) (i := 0) (by omega))
          have b1 := w.ok.1 _ (getD_m (l := t.2.1) (i := 1) (by omega))
          unfold lgl at b0 b1
          omega
      · rw [if_neg c4] at q
        omega
    refine ⟨fun q => ?_, fun q => absurd q (no 40 (by omega)), fun _ _ => e99⟩
    rcases q with q | q | q
    · exact absurd q (no 45 (by omega))
    · exact absurd q (no 33 (by omega))
    · exact absurd q (no 126 (by omega))
/-! behind a value -/
theorem go_0 (y : TR h M u t m) (w : tkW t) (ne : t.2.1 ≠ []) : F_M_goesOn u h = F_M_goesOn_53 (sgOf t.1 t.2.1) h := by
  have hl := List.length_pos_iff.mpr ne
  have hk : ((rk t.1 : Nat) : Int) = 4 ↔ t.1 = 4 := by rw [← rk_i (k := t.1) (j := 4) (by decide) (by decide)]; omega
  have y' := y
  obtain ⟨s, g, z1, -, z3, z4, z5⟩ := y
  have e121 : mGi h 121 s = t.2.1.getD 0 0 := by
    have := z3.get 0 (by omega)
    rw [Nat.add_zero] at this
    exact this
  unfold F_M_goesOn F_M_placeOf sgOf
  rw [z1.start, bnd_l, mk_e y', bnd_l]
  by_cases c4 : t.1 = 4
  · rw [if_pos (hk.mpr c4), if_pos c4, ms_e y', bnd_l]
    have b0 := w.ok.1 _ (getD_m (l := t.2.1) (i := 0) (by omega))
    unfold lgl at b0
    rcases w.sg4 ne c4 with l1 | l2
    · rw [if_neg (by omega), if_neg (by omega), gd_b (by omega) (by omega), Int.toNat_natCast, e121, Int.add_zero]
    · have b1 := w.ok.1 _ (getD_m (l := t.2.1) (i := 1) (by omega))
      unfold lgl at b1
      have e2 := z3.get 1 (by omega)
      rw [if_pos (by omega), if_pos l2, gd_b (by omega) (by omega), gd_rg (by omega) (by omega), gd_b (by omega) (by omega), Int.toNat_natCast, show ((s : Int) + 1).toNat = s + 1 by omega, e121, e2, gd_rg (by omega) (by omega), gd_rg (by omega) (by omega), Int.mul_comm]
  · rw [if_neg (fun q => c4 (hk.mp q)), if_neg c4]
theorem go_x {x : Int} (h1 : x < 65536) (c41 : x ≠ 41) (c0 : strn x = 0) {P : Prop} (z : rE h P) : ∃ h', F_M_goesOn_53 x h = some (.inl 0, h') ∧ FW pEr qEr h h' ∧ mGi h' 107 1 = 9 := by
  obtain ⟨h', y, a1, a2, -, a4⟩ := need9 (x := 0) (.inl rfl) z
  obtain ⟨q1, q2⟩ := a4 (fun q => absurd q.2 (by decide))
  unfold F_M_goesOn_53 F_M_goesOn_80
  rw [strM_e h1, bnd_l, if_neg c41, c0, if_pos (by decide), gd_01a, a1, bnd_l, if_pos q1]
  exact ⟨h', rfl, a2.sub (fun b i q => by unfold pEr; omega) (fun _ _ q => q.elim), q2⟩
theorem go_104 {x : Int} (h1 : x < 65536) (hh : x = 41 ∨ strn x ≠ 0) (er : mGi h 107 1 = 0) : F_M_goesOn_53 x h = F_M_goesOn_104 x (strn x) (if x = 41 then 1 else strn x) h := by
  have hb := strn_b h1
  have e75 : F_M_goesOn_75 x (strn x) h = F_M_goesOn_104 x (strn x) (if x = 41 then 1 else strn x) h := by
    unfold F_M_goesOn_75 F_M_goesOn_80
    rw [gd_01b, need_1 er, bnd_l, if_neg (by decide)]
    split <;> rfl
  unfold F_M_goesOn_53
  rw [strM_e h1, bnd_l]
  by_cases c : x = 41
  · rw [if_pos c]; exact e75
  · rw [if_neg c, if_neg (by rcases hh with q | q; exact absurd q c; omega)]; exact e75
end Ee
