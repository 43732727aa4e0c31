/-! the class's values: a row of tokens -/
section Ev
variable {h h' : MH} {M : Nat} {vs : VS} {sg : List Int}
theorem bin_c {s : Int} {r : List Int} (h1 : s < 65536) (h2 : s ≠ 40) : bin (s :: r) = bin r + 1 := by
  rw [bin, if_pos ⟨h1, h2⟩]; omega
theorem bin_u {s : Int} {r : List Int} (h1 : ¬ (s < 65536 ∧ s ≠ 40)) : bin (s :: r) = bin r := by
  rw [bin, if_neg h1]; omega
noncomputable def adL (f : Nat) (v1 : Int) (h : MH) : RS Unit := itr (fun self (q : Int × MH) => F_Es_applyDownTo_0_b (fun v1 h => self (v1, h)) q.1 q.2) f (v1, h)
theorem adL_s {f : Nat} {v1 : Int} : adL (f + 1) v1 h = F_Es_applyDownTo_0_b (adL f) v1 h := rfl
theorem strn_u {s : Int} (h1 : s = 65581 ∨ s = 65569 ∨ s = 65662) : strn s = 11 := by
  rcases h1 with rfl | rfl | rfl <;> decide
theorem apd_u {st s : Int} {v : Int64 × Bool} {r : VS} (c : st ≤ strn s) (c2 : 65536 ≤ s) : apd st (s :: sg) (v :: r) = apd st sg ((apA (s - 65536) v.1, v.2) :: r) := by
  rw [apd.eq_def]
  dsimp only
  rw [if_pos c, if_pos c2]
theorem apd_b {st s : Int} {a b : Int64 × Bool} {r : VS} (c : st ≤ strn s) (c2 : ¬ 65536 ≤ s) : apd st (s :: sg) (b :: a :: r) = apd st sg (apB s a b :: r) := by
  rw [apd.eq_def]
  dsimp only
  rw [if_pos c, if_neg c2]
theorem apd_n {st s : Int} (c : ¬ st ≤ strn s) : apd st (s :: sg) vs = (vs, s :: sg) := by
  rw [apd.eq_def]
  dsimp only
  rw [if_neg c]
def sgP (s : Int) : Prop := sgW s ∧ (strn s = 0 → s = 40)
theorem apd_e {st : Int} (h1 : 1 ≤ st) (h10 : st ≤ 10) : ∀ (sg : List Int) (f : Nat) (vs : VS) (h : MH), sg.length < f → EsC h vs sg → (∀ s ∈ sg, sgP s) → vs.length = bin sg + 1 → vs.length ≤ 100 → sg.length ≤ 100 →
    ∃ h', adL f st h = some (.inl (), h') ∧ FW pE qE h h' ∧ EsC h' (apd st sg vs).1 (apd st sg vs).2 ∧ (apd st sg vs).1.length = bin (apd st sg vs).2 + 1 ∧ (∀ s ∈ (apd st sg vs).2, sgP s) ∧ (apd st sg vs).1.length ≤ vs.length ∧ (apd st sg vs).2.length ≤ sg.length ∧ ∀ x r, (apd st sg vs).2 = x :: r → strn x < st := by
  intro sg
  induction sg with
  | nil =>
    intro f vs h hf z w hb hv hs
    obtain ⟨f, rfl⟩ : ∃ g, f = g + 1 := ⟨f - 1, by omega⟩
    refine ⟨h, ?_, FW.rf, z, hb, w, Nat.le_refl _, Nat.le_refl _, fun x r e => (by cases e)⟩
    rw [adL_s, F_Es_applyDownTo_0_b, z.2.1, if_pos (by decide)]
  | cons s sg ih =>
    intro f vs h hf z w hb hv hs
    obtain ⟨f, rfl⟩ : ∃ g, f = g + 1 := ⟨f - 1, by omega⟩
    rw [List.length_cons] at hf hs
    have ws := (w s List.mem_cons_self).1
    have w' : ∀ x ∈ sg, sgP x := fun x hx => w x (List.mem_cons_of_mem _ hx)
    obtain ⟨z1, z2, z3, z4, z5⟩ := id z
    rw [List.length_cons] at z2
    rw [adL_s, F_Es_applyDownTo_0_b, z2, if_neg (by omega), gd_rg (by omega) (by omega), show ((sg.length + 1 : Nat) : Int) - 1 = (sg.length : Int) by omega, gd_b (by omega) (by omega), Int.toNat_natCast, z4, str_e ws, bnd_l, z2]
    by_cases c : st ≤ strn s
    · rw [if_neg (by omega), show ((sg.length + 1 : Nat) : Int) - 1 = (sg.length : Int) by omega, gd_rg (by omega) (by omega)]
      simp only [sto_e]
      have f1 : FW pE qE h (mPi h 97 5 (sg.length : Int)) := FW.pi FW.rf (by unfold pE; omega)
      have z' : EsC (mPi h 97 5 (sg.length : Int)) vs sg := ⟨by rw [gi_pi, if_neg (by omega)]; exact z1, gi_s, VsC.cg (h := h) (fun j _ => ⟨rfl, by rw [gi_pi, if_neg (by omega)]⟩) z3, SgC.cg (fun j _ => by rw [gi_pi, if_neg (by omega)]) z5⟩
      rw [gi_s, gd_b (by omega) (by omega), Int.toNat_natCast, gi_pi, if_neg (show ¬ ((100 : Nat) = 97 ∧ sg.length = 5) by omega), z4]
      by_cases c2 : 65536 ≤ s
      · have hu : s = 65581 ∨ s = 65569 ∨ s = 65662 := by rcases ws with q | q; omega; exact q
        have hbu := bin_u (s := s) (r := sg) (by omega)
        rw [if_neg (fun q => absurd (ws.and.mp q) (by omega))]
        match vs, hb, hv, z' with
        | [], hb, hv, z' => rw [List.length_nil] at hb; omega
        | v :: r, hb, hv, z' =>
          rw [List.length_cons] at hb hv
          have es : iAnd s (-65537) = s - 65536 := by rcases hu with rfl | rfl | rfl <;> decide
          obtain ⟨h2, e2, f2, y2⟩ := ahead_e (s := s - 65536) z' (by omega)
          rw [es, e2, bnd_l, apd_u c c2]
          obtain ⟨h3, e3, f3, y3, y4, y5, y6, y7, y8⟩ := ih f ((apA (s - 65536) v.1, v.2) :: r) h2 (by omega) y2 w' (by rw [List.length_cons]; omega) (by rw [List.length_cons]; omega) (by omega)
          rw [List.length_cons] at y6
          exact ⟨h3, e3, (f1.tr f2).tr f3, y3, y4, y5, by rw [List.length_cons]; omega, by rw [List.length_cons]; omega, y8⟩
      · have h40 : s ≠ 40 := fun q => by rw [q, strn_40] at c; omega
        have hbc := bin_c (r := sg) (show s < 65536 by omega) h40
        rw [if_pos (ws.and.mpr (by omega))]
        match vs, hb, hv, z' with
        | [], hb, hv, z' => rw [List.length_nil] at hb; omega
        | [v], hb, hv, z' => rw [List.length_singleton] at hb; omega
        | b :: a :: r, hb, hv, z' =>
          rw [List.length_cons, List.length_cons] at hb hv
          obtain ⟨h2, e2, f2, y2⟩ := btw_e (s := s) z' (by omega)
          rw [e2, bnd_l, apd_b c c2]
          obtain ⟨h3, e3, f3, y3, y4, y5, y6, y7, y8⟩ := ih f (apB s a b :: r) h2 (by omega) y2 w' (by rw [List.length_cons]; omega) (by rw [List.length_cons]; omega) (by omega)
          rw [List.length_cons] at y6
          exact ⟨h3, e3, (f1.tr f2).tr f3, y3, y4, y5, by rw [List.length_cons, List.length_cons]; omega, by rw [List.length_cons]; omega, y8⟩
    · rw [apd_n c, if_pos (by omega)]
      exact ⟨h, rfl, FW.rf, z, hb, w, Nat.le_refl _, Nat.le_refl _, fun x r e => by cases e; omega⟩
theorem iShl8 {y : Nat} (hy : y < 256) : iShl (y : Int) 8 = ((y * 256 : Nat) : Int) := by
  unfold iShl
  refine i32_i ?_ (by omega)
  have e : (Int32.ofInt (8 : Int) &&& 31).toBitVec.smod 32 = BitVec.ofNat 32 8 := by decide
  rw [Int32.toBitVec_shiftLeft, e, BitVec.shiftLeft_eq', BitVec.toNat_shiftLeft, BitVec.toNat_ofNat, Nat.mod_eq_of_lt (show 8 < 2 ^ 32 by decide), i32_n (by omega), Nat.shiftLeft_eq, Nat.mod_eq_of_lt (by omega)]
theorem iOr_hi {x y : Nat} (hx : x < 256) (hy : y < 256) : iOr (x : Int) ((y * 256 : Nat) : Int) = ((x + y * 256 : Nat) : Int) := by
  unfold iOr
  refine i32_i ?_ (by omega)
  rw [Int32.toBitVec_or, BitVec.toNat_or, i32_n (by omega), i32_n (by omega), Nat.or_comm, show y * 256 = 2 ^ 8 * y by omega, ← Nat.two_pow_add_eq_or_of_lt (by omega)]
  omega
theorem lgl_n {c : Int} (z : lgl c) : ∃ n : Nat, c = (n : Int) ∧ n < 127 := by
  unfold lgl at z
  exact ⟨c.toNat, by omega, by omega⟩
theorem getD_m {l : List Int} {i : Nat} (hi : i < l.length) : l.getD i 0 ∈ l := by
  rw [List.getD_eq_getElem?_getD, List.getElem?_eq_getElem hi]
  exact List.getElem_mem _
theorem sgOf_r {t : Tk} (ok : okT t) : 0 ≤ sgOf t.1 t.2.1 ∧ sgOf t.1 t.2.1 < 65536 := by
  unfold sgOf
  by_cases c : t.1 = 4
  · rw [if_pos c]
    by_cases e : t.2.1 = []
    · have := ok.2 e
      rw [this] at c
      cases c
    · have hl : 0 < t.2.1.length := List.length_pos_iff.mpr e
      obtain ⟨n, hn, hn2⟩ := lgl_n (ok.1 _ (getD_m hl))
      rw [hn]
      by_cases c2 : t.2.1.length = 2
      · rw [if_pos c2]
        obtain ⟨m, hm, hm2⟩ := lgl_n (ok.1 _ (getD_m (i := 1) (l := t.2.1) (by omega)))
        rw [hm]
        omega
      · rw [if_neg c2]; omega
  · rw [if_neg c]; decide
theorem sgn_e {v : Int64} {t : Tk} {m : Bool} (z : TC h M v t m) (ok : okT t) : F_Es_signOf v h = some (.inl (sgOf t.1 t.2.1), h) := by
  unfold F_Es_signOf sgOf
  rw [to_kind z, bnd_l]
  by_cases c : t.1 = 4
  · have tl := to_len z
    rw [if_pos (by omega), if_pos c]
    obtain ⟨s, g, z1, -, z3, z4, z5⟩ := z
    have hne : t.2.1 ≠ [] := fun e => by
      have := ok.2 e
      rw [this] at c
      cases c
    have hl : 0 < t.2.1.length := List.length_pos_iff.mpr hne
    obtain ⟨n, hn, hn2⟩ := lgl_n (ok.1 _ (getD_m hl))
    have e0 := z3.get 0 hl
    rw [Nat.add_zero] at e0
    unfold F_To_start
    rw [z1.start, bnd_l, gd_b (by omega) (by omega), tl, bnd_l, Int.toNat_natCast, e0, hn]
    by_cases c2 : t.2.1.length = 2
    · obtain ⟨k, hk, hk2⟩ := lgl_n (ok.1 _ (getD_m (i := 1) (l := t.2.1) (by omega)))
      have e1 := z3.get 1 (by omega)
      rw [if_pos (by omega), if_pos c2, gd_rg (by omega) (by omega), gd_b (by omega) (by omega), show ((s : Int) + 1).toNat = s + 1 by omega, e1, hk, iShl8 (by omega), iOr_hi (by omega) (by omega)]
      have : ((n + k * 256 : Nat) : Int) = (n : Int) + (k : Int) * 256 := by omega
      rw [this]
    · rw [if_neg (by omega), if_neg c2]
      have q := iOr_n (x := n) (y := 0) (by omega) (by decide)
      rw [Nat.or_zero] at q
      have q' : iOr (n : Int) 0 = (n : Int) := q
      rw [q', Int.add_zero]
  · rw [if_neg (by omega), if_neg c]
/-! numbers -/
noncomputable def nuL (f : Nat) (v1 v3 : Int64) (v5 v6 : Int) (h : MH) : RS Int64 := itr (fun self (q : Int64 × Int64 × Int × Int × MH) => F_Es_numberOf_12_b (fun v1 v3 v5 v6 h => self (v1, v3, v5, v6, h)) q.1 q.2.1 q.2.2.1 q.2.2.2.1 q.2.2.2.2) f (v1, v3, v5, v6, h)
theorem nuL_s {f : Nat} {v1 v3 : Int64} {v5 v6 : Int} : nuL (f + 1) v1 v3 v5 v6 h = F_Es_numberOf_12_b (nuL f) v1 v3 v5 v6 h := rfl
theorem i64_le {a b : Int} (ha : 0 ≤ a) (ha2 : a ≤ 9223372036854775807) (hb : 0 ≤ b) (hb2 : b ≤ 9223372036854775807) : Int64.ofInt a ≤ Int64.ofInt b ↔ a ≤ b := by
  rw [Int64.le_iff_toInt_le, Int64.toInt_ofInt_of_le (by show (-9223372036854775808 : Int) ≤ _; omega) (by show _ < (9223372036854775808 : Int); omega), Int64.toInt_ofInt_of_le (by show (-9223372036854775808 : Int) ≤ _; omega) (by show _ < (9223372036854775808 : Int); omega)]
theorem dig_n {d : Int} (h0 : 0 ≤ d) (h1 : d ≤ 9) : (Int32.ofInt d).toInt64 = Int64.ofInt d := by
  have : d = 0 ∨ d = 1 ∨ d = 2 ∨ d = 3 ∨ d = 4 ∨ d = 5 ∨ d = 6 ∨ d = 7 ∨ d = 8 ∨ d = 9 := by omega
  rcases this with rfl | rfl | rfl | rfl | rfl | rfl | rfl | rfl | rfl | rfl <;> decide
theorem dig_q {d : Int} (h0 : 0 ≤ d) (h1 : d ≤ 9) : ((9223372036854775807 : Int64) - (Int32.ofInt d).toInt64) / (10 : Int64) = Int64.ofInt (if d ≤ 7 then 922337203685477580 else 922337203685477579) := by
  have : d = 0 ∨ d = 1 ∨ d = 2 ∨ d = 3 ∨ d = 4 ∨ d = 5 ∨ d = 6 ∨ d = 7 ∨ d = 8 ∨ d = 9 := by omega
  rcases this with rfl | rfl | rfl | rfl | rfl | rfl | rfl | rfl | rfl | rfl <;> decide +kernel
theorem stp_n {n d : Int} (h0 : 0 ≤ d) (h1 : d ≤ 9) : (Int64.ofInt n * (10 : Int64)) + (Int32.ofInt d).toInt64 = Int64.ofInt (n * 10 + d) := by
  rw [dig_n h0 h1, Int64.ofInt_add, Int64.ofInt_mul]
  rfl
theorem nu_l {v : Int64} {s n : Nat} {m g : Nat} {k : Nat} (z1 : isC v k s n g m) (hn : s + n ≤ 1302) (R : rmE h) : ∀ (x : List Int) (f j : Nat) (a : Int), x.length < f → j + x.length = s + n → s ≤ j → 0 ≤ a → a ≤ 9223372036854775807 → Seg h 88 j x → (∀ c ∈ x, lgl c) →
    (∀ w, numE a x = some w → nuL f v (Int64.ofInt a) (s : Int) (j : Int) h = some (.inl (Int64.ofInt w), h)) ∧ (numE a x = none → nuL f v (Int64.ofInt a) (s : Int) (j : Int) h = some (.inr 13, mNew (mPi h 87 2 ((9 : Nat) : Int)) 13 6)) := by
  intro x
  induction x with
  | nil =>
    intro f j a hf hj hs ha hb z ok
    obtain ⟨f, rfl⟩ : ∃ g, f = g + 1 := ⟨f - 1, by omega⟩
    rw [List.length_nil] at hj
    rw [nuL_s, F_Es_numberOf_12_b]
    unfold F_To_length
    rw [z1.len, bnd_l, gd_rg (by omega) (by omega), if_pos (by omega), numE]
    exact ⟨fun w e => by cases e; rfl, fun e => by cases e⟩
  | cons c x ih =>
    intro f j a hf hj hs ha hb z ok
    obtain ⟨f, rfl⟩ : ∃ g, f = g + 1 := ⟨f - 1, by omega⟩
    rw [List.length_cons] at hj hf
    obtain ⟨cn, hc, hc2⟩ := lgl_n (ok c List.mem_cons_self)
    rw [nuL_s, F_Es_numberOf_12_b]
    unfold F_To_length F_Es_numberOf_71 F_Es_numberOf_80
    rw [z1.len, bnd_l, gd_rg (by omega) (by omega), if_neg (by omega), gd_b (by omega) (by omega), Int.toNat_natCast, z.1, gd_rg (by omega) (by omega), isDg_e, bnd_l, numE]
    have tf : ∀ K : Unit → MH → RS Int64, bnd (F_To_fail 9 h) K = some (.inr 13, mNew (mPi h 87 2 ((9 : Nat) : Int)) 13 6) := fun K => to_fail (why := 9) R K
    by_cases d : cD c = true
    · have hd : 48 ≤ c ∧ c ≤ 57 := by unfold cD at d; exact of_decide_eq_true d
      rw [d, if_neg (show ¬ bI true = 0 by decide), gd_t (by decide), dig_q (by omega) (by omega)]
      have hle : (lgI (Int64.ofInt a) (Int64.ofInt (if c - 48 ≤ 7 then 922337203685477580 else 922337203685477579)) ≤ 0) ↔ a * 10 + (c - 48) ≤ 9223372036854775807 := by
        rw [lg_le]
        by_cases c7 : c - 48 ≤ 7
        · rw [if_pos c7, i64_le ha hb (by decide) (by decide)]; omega
        · rw [if_neg c7, i64_le ha hb (by decide) (by decide)]; omega
      by_cases q : a * 10 + (c - 48) ≤ 9223372036854775807
      · rw [if_pos (hle.mpr q), if_pos ⟨rfl, q⟩, gd_rg (by omega) (by omega), stp_n (by omega) (by omega), show (j : Int) + 1 = ((j + 1 : Nat) : Int) by omega]
        exact ih f (j + 1) _ (by omega) (by omega) (by omega) (by omega) q z.2 (fun y hy => ok y (List.mem_cons_of_mem _ hy))
      · rw [if_neg (fun e => q (hle.mp e)), if_neg (fun e => q e.2), tf]
        exact ⟨fun w e => (by cases e), fun _ => rfl⟩
    · rw [Bool.eq_false_iff.mpr d, if_pos (show bI false = 0 from rfl), if_neg (fun e => absurd e.1 (by decide)), tf]
      exact ⟨fun w e => (by cases e), fun _ => rfl⟩
theorem num_e {v : Int64} {t : Tk} {m : Bool} (R : rmE h) (z : TC h M v t m) (ok : okT t) : (∀ w, numE 0 t.2.1 = some w → F_Es_numberOf v h = some (.inl (Int64.ofInt w), h)) ∧ (numE 0 t.2.1 = none → F_Es_numberOf v h = some (.inr 13, mNew (mPi h 87 2 ((9 : Nat) : Int)) 13 6)) := by
  obtain ⟨s, g, z1, -, z3, z4, z5⟩ := z
  have q := nu_l z1 (by omega) R t.2.1 FU s 0 (by unfold FU; omega) rfl (Nat.le_refl _) (by decide) (by decide) z3 ok.1
  have hd : F_Es_numberOf v h = nuL FU v (Int64.ofInt 0) (s : Int) (s : Int) h := by
    unfold F_Es_numberOf F_To_start
    rw [z1.start, bnd_l]
    rfl
  rw [hd]
  exact q
end Ev
