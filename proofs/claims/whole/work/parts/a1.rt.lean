/-! the reference's tokens -/
section Rt
def rk (k : Nat) : Nat := if k = 0 then 5 else k
def hR (g : Nat) (H : Hd) : Prop := g < 256 ∧ ∀ k, k < 8 → g.testBit (7 - k) = H k
def TR (h : MH) (M : Nat) (v : Int64) (t : Tk) (m : Bool) : Prop := ∃ s g, isR v (rk t.1) s t.2.1.length g (mB m) ∧ hR g t.2.2 ∧ Seg h 121 s t.2.1 ∧ s + t.2.1.length ≤ M ∧ M ≤ 1302
variable {h h' : MH} {M M' : Nat} {v v' : Int64} {t t' : Tk} {m m' : Bool}
theorem TR.cg (z : TR h M v t m) (e : ∀ j, j < M → mGi h' 121 j = mGi h 121 j) (h1 : M ≤ M') (h2 : M' ≤ 1302) : TR h' M' v t m := by
  obtain ⟨s, g, z1, z2, z3, z4, z5⟩ := z
  exact ⟨s, g, z1, z2, Seg.cg (fun j _ hj => e j (by omega)) z3, by omega, h2⟩
theorem rk_i {k j : Nat} (h0 : j ≠ 0) (h5 : j ≠ 5) : rk k = j ↔ k = j := by
  unfold rk
  split <;> omega
theorem mk_e (z : TR h M v t m) : F_M_kindOf v h' = some (.inl (rk t.1 : Int), h') := by
  obtain ⟨s, g, z1, -⟩ := z
  unfold F_M_kindOf
  rw [z1.kind]
theorem ms_e (z : TR h M v t m) : F_M_sizeOf v h' = some (.inl (t.2.1.length : Int), h') := by
  obtain ⟨s, g, z1, -⟩ := z
  unfold F_M_sizeOf
  rw [z1.len]
theorem m_sign2 {c : Int} (z : TR h M v t m) : F_M_isSign v c h = some (.inl (bI (isSg t c)), h) := by
  unfold F_M_isSign F_M_isSign_33
  rw [mk_e z, bnd_l, ms_e z, bnd_l]
  obtain ⟨s, g, z1, -, z3, z4, z5⟩ := z
  unfold F_M_placeOf
  rw [z1.start, bnd_l]
  unfold isSg
  have hk : ((rk t.1 : Nat) : Int) = 4 ↔ t.1 = 4 := by rw [← rk_i (k := t.1) (j := 4) (by decide) (by decide)]; omega
  by_cases c1 : t.1 = 4
  · rw [if_pos (hk.mpr c1)]
    by_cases c2 : t.2.1.length = 1
    · rw [if_pos (by omega), gd_b (by omega) (by omega), Int.toNat_natCast]
      obtain ⟨x, hx⟩ : ∃ x, t.2.1 = [x] := by
        cases hq : t.2.1 with
        | nil => rw [hq] at c2; cases c2
        | cons a l =>
          rw [hq] at c2
          have : l = [] := List.eq_nil_of_length_eq_zero (by simpa using c2)
          exact ⟨a, by rw [this]⟩
      rw [hx] at z3
      rw [z3.1]
      by_cases c3 : x = c
      · rw [if_pos c3, decide_eq_true ⟨c1, by rw [hx, c3]⟩]; rfl
      · rw [if_neg c3, decide_eq_false (fun q => c3 (by rw [hx] at q; simpa using q.2))]; rfl
    · rw [if_neg (by omega), decide_eq_false (fun q => c2 (by rw [q.2]; rfl))]; rfl
  · rw [if_neg (fun q => c1 (hk.mp q)), decide_eq_false (fun q => c1 q.1)]; rfl
theorem m_join2 (z : TR h M v t m) (w : tkW t) : F_M_isJoin v h = some (.inl (bI (isJn t.1 t.2.1)), h) := by
  unfold F_M_isJoin F_M_isJoin_34
  rw [mk_e z, bnd_l, ms_e z, bnd_l]
  obtain ⟨s, g, z1, -, z3, z4, z5⟩ := z
  unfold F_M_placeOf
  rw [z1.start, bnd_l]
  unfold isJn
  have hk : ((rk t.1 : Nat) : Int) = 4 ↔ t.1 = 4 := by rw [← rk_i (k := t.1) (j := 4) (by decide) (by decide)]; omega
  by_cases c1 : t.1 = 4
  · rw [if_pos (hk.mpr c1)]
    by_cases c2 : t.2.1.length = 2
    · rw [if_pos (by omega), gd_b (by omega) (by omega), Int.toNat_natCast]
      obtain ⟨x, y, hx⟩ : ∃ x y, t.2.1 = [x, y] := by
        match hq : t.2.1, c2 with
        | [x, y], _ => exact ⟨x, y, rfl⟩
      rw [hx] at z3
      rw [z3.1]
      have hp : prB x y = true := by
        rcases w with e | ⟨-, -, q | q | q | q⟩
        · rw [e] at c1; cases c1
        · omega
        · omega
        · omega
        · rw [hx] at q
          rcases q.2.2 with q | q
          · cases q
          · exact q.2
      by_cases c3 : x = 35
      · have : y = 35 := by
          unfold prB at hp
          rw [c3] at hp
          split at hp
          · exact absurd (of_decide_eq_true hp) (by decide)
          · exact (of_decide_eq_true hp).1.symm
        rw [if_pos c3, decide_eq_true ⟨c1, by rw [hx, c3, this]⟩]; rfl
      · rw [if_neg c3, decide_eq_false (fun q => c3 (by rw [hx] at q; exact (List.cons.inj q.2).1))]; rfl
    · rw [if_neg (by omega), decide_eq_false (fun q => c2 (by rw [q.2]; rfl))]; rfl
  · rw [if_neg (fun q => c1 (hk.mp q)), decide_eq_false (fun q => c1 q.1)]; rfl
/-! the same characters -/
noncomputable def smL (f : Nat) (v1 v3 : Int64) (v5 v6 : Int) (h : MH) : RS Int := itr (fun self (q : Int64 × Int64 × Int × Int × MH) => F_M_isSame_21_b (fun v1 v3 v5 v6 h => self (v1, v3, v5, v6, h)) q.1 q.2.1 q.2.2.1 q.2.2.2.1 q.2.2.2.2) f (v1, v3, v5, v6, h)
theorem smL_s {f : Nat} {v1 v3 : Int64} {v5 v6 : Int} : smL (f + 1) v1 v3 v5 v6 h = F_M_isSame_21_b (smL f) v1 v3 v5 v6 h := rfl
theorem sm0 {n : Nat} {f : Nat} {j : Int} (hs : F_M_sizeOf v h = some (.inl (n : Int), h)) : smL (f + 1) v v' 0 j h = some (.inl 0, h) := by
  rw [smL_s, F_M_isSame_21_b, hs, bnd_l]
  split
  · rw [gd_01a]
  · rw [if_pos rfl, gd_01a]
theorem sm_l {n s s' g g' k k' m m' : Nat} (z1 : isR v k s n g m) (z2 : isR v' k' s' n g' m') (hs : s + n ≤ 1302) (hs' : s' + n ≤ 1302) : ∀ (x y : List Int) (f j : Nat), x.length + 1 < f → x.length = y.length → j + x.length = n → Seg h 121 (s + j) x → Seg h 121 (s' + j) y → smL f v v' 1 (j : Int) h = some (.inl (if x = y then 1 else 0), h) := by
  intro x
  have hsz : F_M_sizeOf v h = some (.inl (n : Int), h) := by unfold F_M_sizeOf; rw [z1.len]
  induction x with
  | nil =>
    intro y f j hf hl hj sx sy
    obtain ⟨f, rfl⟩ : ∃ g, f = g + 1 := ⟨f - 1, by omega⟩
    have : y = [] := List.eq_nil_of_length_eq_zero (by rw [List.length_nil] at hl; omega)
    subst this
    rw [List.length_nil] at hj
    rw [smL_s, F_M_isSame_21_b, hsz, bnd_l, if_pos (by omega), gd_01b, if_pos rfl]
  | cons a x ih =>
    intro y f j hf hl hj sx sy
    obtain ⟨f, rfl⟩ : ∃ g, f = g + 1 := ⟨f - 1, by omega⟩
    cases y with
    | nil => cases hl
    | cons b y =>
      rw [List.length_cons] at hl hj hf
      rw [List.length_cons] at hl
      rw [smL_s, F_M_isSame_21_b, hsz, bnd_l, if_neg (by omega), if_neg (by decide)]
      unfold F_M_placeOf F_M_isSame_67
      rw [z1.start, bnd_l, gd_rg (by omega) (by omega), gd_b (by omega) (by omega), z2.start, bnd_l, gd_rg (by omega) (by omega), gd_b (by omega) (by omega), show ((s : Int) + (j : Int)).toNat = s + j by omega, show ((s' : Int) + (j : Int)).toNat = s' + j by omega, sx.1, sy.1, gd_rg (by omega) (by omega), gd_rg (by omega) (by omega), show (j : Int) + 1 = ((j + 1 : Nat) : Int) by omega]
      by_cases c : a = b
      · rw [if_pos c]
        have i := ih y f (j + 1) (by omega) (by omega) (by omega) (by rw [show s + (j + 1) = s + j + 1 by omega]; exact sx.2) (by rw [show s' + (j + 1) = s' + j + 1 by omega]; exact sy.2)
        rw [i]
        by_cases d : x = y
        · rw [if_pos d, if_pos (by rw [c, d])]
        · rw [if_neg d, if_neg (fun q => d (List.cons.inj q).2)]
      · rw [if_neg c, if_neg (fun q => c (List.cons.inj q).1)]
        obtain ⟨f, rfl⟩ : ∃ g, f = g + 1 := ⟨f - 1, by omega⟩
        exact sm0 hsz
theorem m_same2 (z : TR h M v t m) (z' : TR h M v' t' m') : F_M_isSame v v' h = some (.inl (if t.2.1 = t'.2.1 then 1 else 0), h) := by
  unfold F_M_isSame F_M_isSame_16
  rw [ms_e z, bnd_l, ms_e z', bnd_l]
  have hs := ms_e (h' := h) z
  obtain ⟨s, g, z1, -, z3, z4, z5⟩ := z
  obtain ⟨s', g', z1', -, z3', z4', z5'⟩ := z'
  by_cases c : t.2.1.length = t'.2.1.length
  · rw [if_pos (by omega)]
    rw [← c] at z1'
    exact sm_l z1 z1' (by omega) (by omega) t.2.1 t'.2.1 FU 0 (by unfold FU; omega) c (by omega) z3 z3'
  · rw [if_neg (by omega), if_neg (fun q => c (by rw [q]))]
    exact sm0 (f := 99999999) hs
/-! a word against eight characters in a long -/
noncomputable def isL2 (f : Nat) (v1 v3 : Int64) (v5 v6 : Int) (h : MH) : RS Int := itr (fun self (q : Int64 × Int64 × Int × Int × MH) => F_M_is_27_b (fun v1 v3 v5 v6 h => self (v1, v3, v5, v6, h)) q.1 q.2.1 q.2.2.1 q.2.2.2.1 q.2.2.2.2) f (v1, v3, v5, v6, h)
theorem isL2_s {f : Nat} {v1 v3 : Int64} {v5 v6 : Int} : isL2 (f + 1) v1 v3 v5 v6 h = F_M_is_27_b (isL2 f) v1 v3 v5 v6 h := rfl
def byW (w : Int64) (S : List Int) : Prop := S.length ≤ 8 ∧ (∀ c ∈ S, 0 < c ∧ c < 256) ∧ ∀ j : Nat, j < 8 → (w >>> ((Int32.ofInt ((8 : Int) * (j : Int))).toInt64 &&& 63)) &&& (255 : Int64) = Int64.ofInt (S.getD j 0)
theorem is0 {w : Int64} {f : Nat} {j : Int} : isL2 (f + 1) v w 0 j h = some (.inl 0, h) := by
  rw [isL2_s, F_M_is_27_b]
  split
  · rw [gd_01a]
  · rw [if_pos rfl, gd_01a]
theorem c64_j {c : Int} (h0 : 0 ≤ c) (h1 : c < 256) : (Int32.ofInt c).toInt64 = Int64.ofInt c := by
  have e : (Int32.ofInt c).toInt = c := Int32.toInt_ofInt_of_le (by show (-2147483648 : Int) ≤ c; omega) (by show c < 2147483648; omega)
  have : (Int32.ofInt c).toInt64.toInt = (Int64.ofInt c).toInt := by
    rw [Int32.toInt_toInt64, e, Int64.toInt_ofInt_of_le (by show (-9223372036854775808 : Int) ≤ _; omega) (by show _ < (9223372036854775808 : Int); omega)]
  exact Int64.toInt_inj.mp this
theorem i64_inj {a b : Int} (h0 : 0 ≤ a) (h1 : a < 256) (h2 : 0 ≤ b) (h3 : b < 256) : Int64.ofInt a = Int64.ofInt b ↔ a = b := by
  constructor
  · intro q
    have := congrArg Int64.toInt q
    rw [Int64.toInt_ofInt_of_le (by show (-9223372036854775808 : Int) ≤ _; omega) (by show _ < (9223372036854775808 : Int); omega), Int64.toInt_ofInt_of_le (by show (-9223372036854775808 : Int) ≤ _; omega) (by show _ < (9223372036854775808 : Int); omega)] at this
    exact this
  · intro q; rw [q]
theorem is_l2 {w : Int64} {S x : List Int} {n s g k m : Nat} (W : byW w S) (z1 : isR v k s n g m) (hn : n = x.length) (hx : ∀ c ∈ x, 0 < c ∧ c < 256) (hs : s + n ≤ 1302) (sx : Seg h 121 s x) : ∀ (q f j : Nat), j + q = 8 → q + 1 < f → ((∀ i, j ≤ i → i < 8 → x.getD i 0 = S.getD i 0) → isL2 f v w 1 (j : Int) h = some (.inl 1, h)) ∧ ((¬ ∀ i, j ≤ i → i < 8 → x.getD i 0 = S.getD i 0) → isL2 f v w 1 (j : Int) h = some (.inl 0, h)) := by
  have gx : ∀ i, 0 ≤ x.getD i 0 ∧ x.getD i 0 < 256 := fun i => by
    rw [List.getD_eq_getElem?_getD]
    cases e : x[i]? with
    | none => exact ⟨by decide, by decide⟩
    | some c => have := hx c (List.mem_of_getElem? e); exact ⟨by show (0 : Int) ≤ c; omega, by show c < 256; omega⟩
  have gS : ∀ i, 0 ≤ S.getD i 0 ∧ S.getD i 0 < 256 := fun i => by
    rw [List.getD_eq_getElem?_getD]
    cases e : S[i]? with
    | none => exact ⟨by decide, by decide⟩
    | some c => have := W.2.1 c (List.mem_of_getElem? e); exact ⟨by show (0 : Int) ≤ c; omega, by show c < 256; omega⟩
  have hsz : F_M_sizeOf v h = some (.inl (n : Int), h) := by unfold F_M_sizeOf; rw [z1.len]
  intro q
  induction q with
  | zero =>
    intro f j hj hf
    obtain ⟨f, rfl⟩ : ∃ g, f = g + 1 := ⟨f - 1, by omega⟩
    refine ⟨fun _ => ?_, fun q => absurd (fun i h1 h2 => by omega) q⟩
    rw [isL2_s, F_M_is_27_b, if_pos (by omega), gd_01b]
  | succ q ih =>
    intro f j hj hf
    obtain ⟨f, rfl⟩ : ∃ g, f = g + 1 := ⟨f - 1, by omega⟩
    obtain ⟨i1, i2⟩ := ih f (j + 1) (by omega) (by omega)
    have key : ((∀ i, j ≤ i → i < 8 → x.getD i 0 = S.getD i 0) → F_M_is_64 (isL2 f) v w (j : Int) (x.getD j 0) h = some (.inl 1, h)) ∧ ((¬ ∀ i, j ≤ i → i < 8 → x.getD i 0 = S.getD i 0) → F_M_is_64 (isL2 f) v w (j : Int) (x.getD j 0) h = some (.inl 0, h)) := by
      unfold F_M_is_64 F_M_is_85
      rw [gd_rg (by omega) (by omega), W.2.2 j (by omega), c64_j (gx j).1 (gx j).2, gd_rg (by omega) (by omega), gd_rg (by omega) (by omega), show (j : Int) + 1 = ((j + 1 : Nat) : Int) by omega]
      by_cases c : x.getD j 0 = S.getD j 0
      · rw [if_pos (lg_eq.mpr (by rw [c]))]
        have : (∀ i, j + 1 ≤ i → i < 8 → x.getD i 0 = S.getD i 0) ↔ ∀ i, j ≤ i → i < 8 → x.getD i 0 = S.getD i 0 := ⟨fun a i h1 h2 => by by_cases e : i = j; rw [e]; exact c; exact a i (by omega) h2, fun a i h1 h2 => a i (by omega) h2⟩
        exact ⟨fun q => i1 (this.mpr q), fun q => i2 (fun z => q (this.mp z))⟩
      · rw [if_neg (fun q => c ((i64_inj (gx j).1 (gx j).2 (gS j).1 (gS j).2).mp (lg_eq.mp q)))]
        obtain ⟨f, rfl⟩ : ∃ g, f = g + 1 := ⟨f - 1, by omega⟩
        exact ⟨fun a => absurd (a j (Nat.le_refl _) (by omega)) c, fun _ => is0⟩
    rw [isL2_s, F_M_is_27_b, if_neg (by omega), if_neg (by decide), hsz, bnd_l]
    by_cases c : n ≤ j
    · have e0 : x.getD j 0 = 0 := by rw [List.getD_eq_getElem?_getD, List.getElem?_eq_none (by omega)]; rfl
      rw [e0] at key
      rw [if_pos (by omega)]
      exact key
    · rw [if_neg (by omega)]
      unfold F_M_placeOf
      rw [z1.start, bnd_l, gd_rg (by omega) (by omega), gd_b (by omega) (by omega), show ((s : Int) + (j : Int)).toNat = s + j by omega, sx.get j (by omega)]
      exact key
theorem getD_eq {x S : List Int} (hx : ∀ c ∈ x, 0 < c ∧ c < 256) (hS : ∀ c ∈ S, 0 < c ∧ c < 256) (lx : x.length ≤ 8) (lS : S.length ≤ 8) (e : ∀ i, 0 ≤ i → i < 8 → x.getD i 0 = S.getD i 0) : x = S := by
  have key : ∀ (x S : List Int), (∀ c ∈ x, 0 < c ∧ c < 256) → (∀ c ∈ S, 0 < c ∧ c < 256) → (∀ i, i < x.length ∨ i < S.length → x.getD i 0 = S.getD i 0) → x = S := by
    intro x
    induction x with
    | nil =>
      intro S hx hS e
      cases S with
      | nil => rfl
      | cons b S =>
        have := e 0 (.inr (by simp))
        have q := (hS b List.mem_cons_self).1
        have this' : (0 : Int) = b := this
        omega
    | cons a x ih =>
      intro S hx hS e
      cases S with
      | nil =>
        have := e 0 (.inl (by simp))
        have q := (hx a List.mem_cons_self).1
        have this' : a = (0 : Int) := this
        omega
      | cons b S =>
        have e0 : a = b := e 0 (.inl (by simp))
        rw [e0, ih S (fun c hc => hx c (List.mem_cons_of_mem _ hc)) (fun c hc => hS c (List.mem_cons_of_mem _ hc)) (fun i hi => e (i + 1) (by rw [List.length_cons, List.length_cons]; omega))]
  exact key x S hx hS (fun i hi => e i (Nat.zero_le _) (by omega))
theorem m_is2 {w : Int64} {S : List Int} (W : byW w S) (z : TR h M v t m) (ok : tkW t) : F_M_is v w h = some (.inl (bI (decide (t.1 = 1 ∧ t.2.1 = S))), h) := by
  have hx : ∀ c ∈ t.2.1, 0 < c ∧ c < 256 := fun c hc => by
    have := ok.ok.1 c hc
    unfold lgl at this
    omega
  have hk : ((rk t.1 : Nat) : Int) = 1 ↔ t.1 = 1 := by rw [← rk_i (k := t.1) (j := 1) (by decide) (by decide)]; omega
  unfold F_M_is F_M_is_21 F_M_is_22
  rw [mk_e z, bnd_l]
  have z0 : F_M_is_27 v w 0 0 h = some (.inl 0, h) := is0 (f := 99999999)
  by_cases c : t.1 = 1
  · rw [if_pos (hk.mpr c), ms_e z, bnd_l]
    by_cases c8 : 8 < t.2.1.length
    · rw [if_pos (by omega), z0, decide_eq_false (fun q => by have := W.1; rw [← q.2] at this; omega)]; rfl
    · rw [if_neg (by omega)]
      obtain ⟨s, g, z1, -, z3, z4, z5⟩ := z
      have i := is_l2 (h := h) W z1 rfl hx (by omega) z3 8 FU 0 rfl (by unfold FU; omega)
      have e0 : F_M_is_27 v w 1 0 h = isL2 FU v w 1 ((0 : Nat) : Int) h := rfl
      rw [e0]
      by_cases a : t.2.1 = S
      · rw [i.1 (fun i _ _ => by rw [a]), decide_eq_true ⟨c, a⟩]; rfl
      · rw [i.2 (fun q => a (getD_eq hx W.2.1 (by omega) W.1 q)), decide_eq_false (fun q => a q.2)]; rfl
  · rw [if_neg (fun q => c (hk.mp q)), z0, decide_eq_false (fun q => c q.1)]; rfl
/-! the token at a place -/
theorem two_e {a b : Int} : F_M_isTwo a b h = some (.inl (bI (prB a b)), h) := by
  by_cases c : b = 61
  · have e : prB a b = decide (a = 61 ∨ a = 33 ∨ a = 60 ∨ a = 62) := by unfold prB; rw [if_pos c]
    rw [e]
    simp only [F_M_isTwo, F_M_isTwo_41, F_M_isTwo_73, F_M_isTwo_77, bI, decide_eq_true_eq, if_pos c]
    (repeat' split) <;> first | rfl | (exfalso; omega)
  · have e : prB a b = decide (a = b ∧ (a = 35 ∨ a = 38 ∨ a = 124 ∨ a = 60 ∨ a = 62)) := by unfold prB; rw [if_neg c]
    rw [e]
    simp only [F_M_isTwo, F_M_isTwo_41, F_M_isTwo_73, F_M_isTwo_77, bI, decide_eq_true_eq, if_neg c]
    (repeat' split) <;> first | rfl | (exfalso; omega)
def pLk (b i : Nat) : Prop := b = 107 ∧ (i = 30 ∨ i = 31)
noncomputable def lkL (f : Nat) (v1 v2 v3 v4 : Int) (h : MH) : RS Unit := itr (fun self (q : Int × Int × Int × Int × MH) => F_M_look_12_b (fun v1 v2 v3 v4 h => self (v1, v2, v3, v4, h)) q.1 q.2.1 q.2.2.1 q.2.2.2.1 q.2.2.2.2) f (v1, v2, v3, v4, h)
theorem lkL_s {f : Nat} {v1 v2 v3 v4 : Int} : lkL (f + 1) v1 v2 v3 v4 h = F_M_look_12_b (lkL f) v1 v2 v3 v4 h := rfl
theorem lk_l {p e : Nat} {c : Int} (he : e ≤ 1302) (hc : cP c = true) : ∀ (x : List Int) (f q : Nat), x.length < f → q + x.length = e → Seg h 121 q x → lkL f (p : Int) (e : Int) c (q : Int) h = F_M_look_44 (p : Int) (e : Int) c ((q + (x.takeWhile cP).length : Nat) : Int) h := by
  intro x
  induction x with
  | nil =>
    intro f q hf hq s
    obtain ⟨f, rfl⟩ : ∃ g, f = g + 1 := ⟨f - 1, by omega⟩
    rw [List.length_nil] at hq
    rw [lkL_s, F_M_look_12_b, isPt_e, bnd_l, hc, if_neg (show ¬ bI true = 0 by decide), if_pos (by omega)]
    rfl
  | cons a x ih =>
    intro f q hf hq s
    obtain ⟨f, rfl⟩ : ∃ g, f = g + 1 := ⟨f - 1, by omega⟩
    rw [List.length_cons] at hq hf
    rw [lkL_s, F_M_look_12_b, isPt_e, bnd_l, hc, if_neg (show ¬ bI true = 0 by decide), if_neg (by omega), gd_b (by omega) (by omega), Int.toNat_natCast, s.1, isPt_e, bnd_l, List.takeWhile_cons]
    by_cases d : cP a = true
    · rw [d, if_neg (show ¬ bI true = 0 by decide), if_pos rfl, gd_rg (by omega) (by omega), List.length_cons, show q + ((x.takeWhile cP).length + 1) = q + 1 + (x.takeWhile cP).length by omega, show (q : Int) + 1 = ((q + 1 : Nat) : Int) by omega]
      exact ih f (q + 1) (by omega) (by omega) s.2
    · rw [Bool.eq_false_iff.mpr d, if_pos (show bI false = 0 from rfl), if_neg (by decide)]
      rfl
noncomputable def lqL (f : Nat) (v1 v2 v4 : Int) (h : MH) : RS Unit := itr (fun self (q : Int × Int × Int × MH) => F_M_look_77_b (fun v1 v2 v4 h => self (v1, v2, v4, h)) q.1 q.2.1 q.2.2.1 q.2.2.2) f (v1, v2, v4, h)
theorem lqL_s {f : Nat} {v1 v2 v4 : Int} : lqL (f + 1) v1 v2 v4 h = F_M_look_77_b (lqL f) v1 v2 v4 h := rfl
theorem lq_l {p e : Nat} (he : e ≤ 1302) : ∀ (x : List Int) (f q : Nat), x.length < f → q + x.length = e → Seg h 121 q x → lqL f (p : Int) (e : Int) (q : Int) h = F_M_look_101 (p : Int) (e : Int) ((q + (match qIdx x with | some k => k | none => x.length) : Nat) : Int) h := by
  intro x
  induction x with
  | nil =>
    intro f q hf hq s
    obtain ⟨f, rfl⟩ : ∃ g, f = g + 1 := ⟨f - 1, by omega⟩
    rw [List.length_nil] at hq
    rw [lqL_s, F_M_look_77_b, if_pos (by omega)]
    rfl
  | cons a x ih =>
    intro f q hf hq s
    obtain ⟨f, rfl⟩ : ∃ g, f = g + 1 := ⟨f - 1, by omega⟩
    rw [List.length_cons] at hq hf
    rw [lqL_s, F_M_look_77_b, if_neg (by omega), gd_b (by omega) (by omega), Int.toNat_natCast, s.1, qIdx]
    by_cases d : a = 34
    · rw [if_pos d, if_pos d]
      rfl
    · rw [if_neg d, if_neg d, gd_rg (by omega) (by omega), show (q : Int) + 1 = ((q + 1 : Nat) : Int) by omega, ih f (q + 1) (by omega) (by omega) s.2]
      cases qIdx x with
      | none => rw [Option.map_none, List.length_cons, show q + 1 + x.length = q + (x.length + 1) by omega]
      | some k => rw [Option.map_some]; show F_M_look_101 _ _ ((q + 1 + k : Nat) : Int) h = F_M_look_101 _ _ ((q + (k + 1) : Nat) : Int) h; rw [show q + 1 + k = q + (k + 1) by omega]
theorem m_look {p : Nat} {l : List Int} (hl : l ≠ []) (hp : p + l.length ≤ 1302) (s : Seg h 121 p l) : ∃ h', F_M_look (p : Int) ((p + l.length : Nat) : Int) h = some (.inl (), h') ∧ FW pLk noQ h h' ∧ mGi h' 107 30 = ((scn l).1 : Int) ∧ mGi h' 107 31 = ((scn l).2 : Int) := by
  have hl1 : 1 ≤ l.length := List.length_pos_iff.mpr hl
  cases l with
  | nil => exact absurd rfl hl
  | cons c t =>
    rw [List.length_cons] at hp hl1
    have hg : (c :: t).getD 0 0 = c := rfl
    -- the end
    have fin : ∀ (k n : Nat), n ≤ 1302 → k < 10 → ∃ h', F_M_look_168 (p : Int) ((p + n : Nat) : Int) (mPi h 107 30 (k : Int)) = some (.inl (), h') ∧ FW pLk noQ h h' ∧ mGi h' 107 30 = (k : Int) ∧ mGi h' 107 31 = (n : Int) := fun k n hn hk => by
      unfold F_M_look_168
      rw [gd_rg (by omega) (by omega)]
      refine ⟨_, rfl, FW.pi (FW.pi FW.rf ⟨rfl, .inl rfl⟩) ⟨rfl, .inr rfl⟩, ?_, ?_⟩
      · rw [gi_pi, if_neg (by omega), gi_s]
      · rw [gi_s]; omega
    unfold F_M_look
    rw [gd_b (by omega) (by omega), gd_rg (by omega) (by omega), Int.toNat_natCast, s.1, List.length_cons]
    have hL : F_M_look_12 (p : Int) ((p + (t.length + 1) : Nat) : Int) c ((p : Int) + 1) h = lkL FU (p : Int) ((p + (t.length + 1) : Nat) : Int) c ((p + 1 : Nat) : Int) h := rfl
    rw [hL]
    by_cases hc : cP c = true
    · rw [lk_l (by omega) hc t FU (p + 1) (by unfold FU; omega) (by omega) s.2]
      have htw : ((c :: t).takeWhile cP).length = (t.takeWhile cP).length + 1 := by rw [List.takeWhile_cons, if_pos hc, List.length_cons]
      have hle : (t.takeWhile cP).length ≤ t.length := List.Sublist.length_le (List.takeWhile_sublist _)
      have hs2 : (scn (c :: t)).2 = (t.takeWhile cP).length + 1 := by unfold scn; rw [if_pos (by rw [htw]; omega), ← htw]
      have hc34 : c ≠ 34 := fun q => by rw [q] at hc; exact absurd hc (by decide)
      unfold F_M_look_44 F_M_look_68
      rw [isMD_e, bnd_l, show p + 1 + (t.takeWhile cP).length = p + ((t.takeWhile cP).length + 1) by omega]
      by_cases d : cD c = true
      · have hs1 : (scn (c :: t)).1 = 2 := by unfold scn; rw [if_pos (by rw [htw]; omega)]; show (if cD c = true then 2 else 1) = 2; rw [if_pos d]
        rw [d, if_neg (show ¬ bI true = 0 by decide)]
        simp only [sto_e]
        rw [if_neg hc34, gi_s, if_neg (by decide), hs1, hs2]
        exact fin 2 _ (by omega) (by decide)
      · have hs1 : (scn (c :: t)).1 = 1 := by unfold scn; rw [if_pos (by rw [htw]; omega)]; show (if cD c = true then 2 else 1) = 1; rw [if_neg d]
        have hLt : cL c = true := by rcases cP_i.mp hc with q | q; exact q; exact absurd q d
        rw [Bool.eq_false_iff.mpr d, if_pos (show bI false = 0 from rfl), isLt_e, bnd_l, hLt, if_neg (show ¬ bI true = 0 by decide)]
        simp only [sto_e]
        rw [if_neg hc34, gi_s, if_neg (by decide), hs1, hs2]
        exact fin 1 _ (by omega) (by decide)
    · have hc' := Bool.eq_false_iff.mpr hc
      have hD : cD c = false := by cases q : cD c with | false => rfl | true => exact absurd (cP_i.mpr (.inr q)) hc
      have hLt : cL c = false := by cases q : cL c with | false => rfl | true => exact absurd (cP_i.mpr (.inl q)) hc
      have htw : ¬ 0 < ((c :: t).takeWhile cP).length := fun q => hc (tw_0.mp q).2
      rw [show FU = 99999999 + 1 from rfl, lkL_s, F_M_look_12_b, isPt_e, bnd_l, hc', if_pos (show bI false = 0 from rfl)]
      unfold F_M_look_44 F_M_look_68
      rw [isMD_e, bnd_l, hD, if_pos (show bI false = 0 from rfl), isLt_e, bnd_l, hLt, if_pos (show bI false = 0 from rfl)]
      simp only [sto_e]
      by_cases d : c = 34
      · have hse : scn (c :: t) = match qIdx t with | some k => (3, k + 2) | none => (4, sgn (c :: t)) := by
          unfold scn
          rw [if_neg htw, if_pos (show (c :: t).getD 0 0 = 34 from d)]
          rfl
        rw [if_pos d]
        have hQ : F_M_look_77 (p : Int) ((p + (t.length + 1) : Nat) : Int) ((p + 1 : Nat) : Int) (mPi h 107 30 4) = lqL FU (p : Int) ((p + (t.length + 1) : Nat) : Int) ((p + 1 : Nat) : Int) (mPi h 107 30 4) := rfl
        rw [hQ, lq_l (by omega) t FU (p + 1) (by unfold FU; omega) (by omega) (s.2.pio (.inl (by decide))), hse]
        unfold F_M_look_101 F_M_look_113 F_M_look_132
        have pp : ∀ a b : Int, ∀ x, mGi (mPi (mPi h 107 30 a) 107 30 b) 107 x = mGi (mPi h 107 30 b) 107 x := fun a b x => by
          rw [gi_pi, gi_pi, gi_pi]
          by_cases q : x = 30
          · rw [if_pos ⟨rfl, q⟩, if_pos ⟨rfl, q⟩]
          · rw [if_neg (fun z => q z.2), if_neg (fun z => q z.2), if_neg (fun z => q z.2)]
        have fin2 : ∀ (a : Int) (k n : Nat), n ≤ 1302 → k < 10 → ∃ h', F_M_look_168 (p : Int) ((p + n : Nat) : Int) (mPi (mPi h 107 30 a) 107 30 (k : Int)) = some (.inl (), h') ∧ FW pLk noQ h h' ∧ mGi h' 107 30 = (k : Int) ∧ mGi h' 107 31 = (n : Int) := fun a k n hn hk => by
          unfold F_M_look_168
          rw [gd_rg (by omega) (by omega)]
          refine ⟨_, rfl, FW.pi (FW.pi (FW.pi FW.rf ⟨rfl, .inl rfl⟩) ⟨rfl, .inl rfl⟩) ⟨rfl, .inr rfl⟩, ?_, ?_⟩
          · rw [gi_pi, if_neg (by omega), gi_s]
          · rw [gi_s]; omega
        cases hq : qIdx t with
        | some k =>
          have := qIdx_le hq
          dsimp only
          rw [if_neg (by omega)]
          simp only [sto_e]
          rw [if_neg (by omega), gd_rg (by omega) (by omega), show ((p + 1 + k : Nat) : Int) + 1 = ((p + (k + 2) : Nat) : Int) by omega]
          exact fin2 4 3 (k + 2) (by omega) (by decide)
        | none =>
          dsimp only
          have hsg : sgn (c :: t) = 1 := by
            unfold sgn
            rw [if_neg]
            intro q
            rw [hg, d, prB_34] at q
            exact absurd q.2 (by decide)
          rw [if_pos (by omega), hsg]
          simp only [sto_e]
          rw [if_pos (by omega), gd_rg (by omega) (by omega), show (p : Int) + 1 = ((p + 1 : Nat) : Int) by omega]
          exact fin2 4 4 1 (by omega) (by decide)
      · have hse : scn (c :: t) = (4, sgn (c :: t)) := by
          unfold scn
          rw [if_neg htw, if_neg (show ¬ (c :: t).getD 0 0 = 34 from d)]
        rw [if_neg d, gi_s, if_pos rfl, hse]
        by_cases e : t = []
        · subst e
          have hsg : sgn [c] = 1 := by
            unfold sgn
            rw [if_neg (fun q => absurd q.1 (by show ¬ 2 ≤ 1; decide))]
          rw [if_pos (by simp), hsg]
          exact fin 4 1 (by decide) (by decide)
        · have htl : 1 ≤ t.length := List.length_pos_iff.mpr e
          have e1 : mGi h 121 (p + 1) = (c :: t).getD 1 0 := s.get 1 (by rw [List.length_cons]; omega)
          rw [if_neg (by omega), gd_b (by omega) (by omega), Int.toNat_natCast, gi_pi, if_neg (by omega), e1, two_e, bnd_l]
          by_cases pr : prB c ((c :: t).getD 1 0) = true
          · have hsg : sgn (c :: t) = 2 := by
              unfold sgn
              rw [if_pos ⟨by rw [List.length_cons]; omega, pr⟩]
            rw [pr, if_neg (show ¬ bI true = 0 by decide), gd_rg (by omega) (by omega), hsg, show ((p + 1 : Nat) : Int) + 1 = ((p + 2 : Nat) : Int) by omega]
            exact fin 4 2 (by decide) (by decide)
          · have hsg : sgn (c :: t) = 1 := by
              unfold sgn
              rw [if_neg (fun q => pr q.2)]
            rw [Bool.eq_false_iff.mpr pr, if_pos (show bI false = 0 from rfl), hsg]
            exact fin 4 1 (by decide) (by decide)
end Rt
