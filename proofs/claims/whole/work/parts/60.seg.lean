/-! rows of a heap's cells as lists -/
section Seg
def Seg (h : MH) (c : Nat) : Nat → List Int → Prop
  | _, [] => True
  | p, x :: l => mGi h c p = x ∧ Seg h c (p + 1) l
theorem Seg.app {h : MH} {c : Nat} : ∀ {l1 : List Int} {p : Nat} {l2 : List Int}, Seg h c p (l1 ++ l2) ↔ Seg h c p l1 ∧ Seg h c (p + l1.length) l2
  | [], p, l2 => ⟨fun z => ⟨trivial, z⟩, fun z => z.2⟩
  | x :: l, p, l2 => by
    have z := Seg.app (h := h) (c := c) (l1 := l) (p := p + 1) (l2 := l2)
    rw [List.length_cons, show p + (l.length + 1) = p + 1 + l.length by omega]
    exact ⟨fun q => ⟨⟨q.1, (z.mp q.2).1⟩, (z.mp q.2).2⟩, fun q => ⟨q.1.1, z.mpr ⟨q.1.2, q.2⟩⟩⟩
theorem Seg.cg {h h' : MH} {c : Nat} : ∀ {l : List Int} {p : Nat}, (∀ j, p ≤ j → j < p + l.length → mGi h' c j = mGi h c j) → Seg h c p l → Seg h' c p l
  | [], _, _, _ => trivial
  | x :: l, p, e, z => by
    refine ⟨(e p (Nat.le_refl _) (by rw [List.length_cons]; omega)).trans z.1, Seg.cg (fun j h1 h2 => e j (by omega) (by rw [List.length_cons]; omega)) z.2⟩
theorem Seg.fr {S : List Nat} {h h' : MH} {c p : Nat} {l : List Int} (f : Fr S h h') (hc : c ∉ S) (z : Seg h c p l) : Seg h' c p l := Seg.cg (fun j _ _ => f.2.2 c hc j) z
theorem Seg.get {h : MH} {c : Nat} : ∀ {l : List Int} {p : Nat} (_ : Seg h c p l) (j : Nat), j < l.length → mGi h c (p + j) = l.getD j 0
  | [], _, _, j, hj => absurd hj (Nat.not_lt_zero _)
  | x :: l, p, z, 0, _ => z.1
  | x :: l, p, z, j + 1, hj => by
    have q := Seg.get z.2 j (by rw [List.length_cons] at hj; omega)
    rw [show p + (j + 1) = p + 1 + j by omega, q]
    rfl
theorem Seg.mk {h : MH} {c : Nat} : ∀ {l : List Int} {p : Nat}, (∀ j, j < l.length → mGi h c (p + j) = l.getD j 0) → Seg h c p l
  | [], _, _ => trivial
  | x :: l, p, e => by
    refine ⟨e 0 (by rw [List.length_cons]; omega), Seg.mk fun j hj => ?_⟩
    have q := e (j + 1) (by rw [List.length_cons]; omega)
    rw [show p + (j + 1) = p + 1 + j by omega] at q
    exact q
theorem Seg.take {h : MH} {c p : Nat} {l : List Int} (n : Nat) (z : Seg h c p l) : Seg h c p (l.take n) := by
  rw [← List.take_append_drop n l] at z
  exact (Seg.app.mp z).1
theorem Seg.drop {h : MH} {c p : Nat} {l : List Int} (n : Nat) (hn : n ≤ l.length) (z : Seg h c p l) : Seg h c (p + n) (l.drop n) := by
  rw [← List.take_append_drop n l] at z
  have q := (Seg.app.mp z).2
  rw [List.length_take, Nat.min_eq_left hn] at q
  exact q
theorem Seg.cp {h : MH} {a b sp dp : Nat} {l : List Int} (z : Seg h a sp l) : Seg (mCpI h a b sp dp l.length) b dp l := by
  refine Seg.mk fun j hj => ?_
  rw [gi_cp, if_pos ⟨rfl, by omega, by omega⟩, show sp + (dp + j - dp) = sp + j by omega]
  exact z.get j hj
theorem Seg.cpo {h : MH} {a b sp dp n c p : Nat} {l : List Int} (z : Seg h c p l) (hd : c ≠ b ∨ p + l.length ≤ dp ∨ dp + n ≤ p) : Seg (mCpI h a b sp dp n) c p l := by
  refine Seg.cg (fun j h1 h2 => ?_) z
  rw [gi_cp, if_neg (by omega)]
theorem Seg.pio {h : MH} {a i c p : Nat} {x : Int} {l : List Int} (z : Seg h c p l) (hd : c ≠ a ∨ p + l.length ≤ i ∨ i < p) : Seg (mPi h a i x) c p l := by
  refine Seg.cg (fun j h1 h2 => ?_) z
  rw [gi_pi, if_neg (by omega)]
theorem Seg.one {h : MH} {c p : Nat} {x : Int} (e : mGi h c p = x) : Seg h c p [x] := ⟨e, trivial⟩
theorem Fr.cp {S : List Nat} {h h' : MH} {a b sp dp n : Nat} (f : Fr S h h') (hb : b ∈ S) : Fr S h (mCpI h' a b sp dp n) := by
  refine ⟨f.1, f.2.1, fun c hc j => ?_⟩
  rw [gi_cp, if_neg (fun q : c = b ∧ dp ≤ j ∧ j < dp + n => hc (q.1 ▸ hb))]
  exact f.2.2 c hc j
/-! letters, digits -/
def bI (b : Bool) : Int := if b then 1 else 0
def cL (c : Int) : Bool := decide ((97 ≤ c ∧ c ≤ 122) ∨ (65 ≤ c ∧ c ≤ 90) ∨ c = 95)
def cD (c : Int) : Bool := decide (48 ≤ c ∧ c ≤ 57)
def cP (c : Int) : Bool := decide ((97 ≤ c ∧ c ≤ 122) ∨ (65 ≤ c ∧ c ≤ 90) ∨ c = 95 ∨ (48 ≤ c ∧ c ≤ 57))
variable {c : Int} {h : MH}
theorem isWS_e : F_T_isWordStart c h = some (.inl (bI (cL c)), h) := by
  simp only [F_T_isWordStart, F_T_isWordStart_12, F_T_isWordStart_24, F_T_isWordStart_30, bI, cL, decide_eq_true_eq]
  (repeat' split) <;> first | rfl | (exfalso; omega)
theorem isWP_e : F_T_isWordPart c h = some (.inl (bI (cP c)), h) := by
  simp only [F_T_isWordPart, F_T_isWordPart_12, F_T_isWordPart_24, F_T_isWordPart_42, F_T_isWordPart_46, bI, cP, decide_eq_true_eq]
  (repeat' split) <;> first | rfl | (exfalso; omega)
theorem isDg_e : F_T_isDigit c h = some (.inl (bI (cD c)), h) := by
  simp only [F_T_isDigit, F_T_isDigit_16, bI, cD, decide_eq_true_eq]
  (repeat' split) <;> first | rfl | (exfalso; omega)
theorem isLt_e : F_M_isLetter c h = some (.inl (bI (cL c)), h) := by
  simp only [F_M_isLetter, F_M_isLetter_12, F_M_isLetter_24, F_M_isLetter_30, bI, cL, decide_eq_true_eq]
  (repeat' split) <;> first | rfl | (exfalso; omega)
theorem isMD_e : F_M_isDigit c h = some (.inl (bI (cD c)), h) := by
  simp only [F_M_isDigit, F_M_isDigit_16, bI, cD, decide_eq_true_eq]
  (repeat' split) <;> first | rfl | (exfalso; omega)
theorem isPt_e : F_M_isPart c h = some (.inl (bI (cP c)), h) := by
  simp only [F_M_isPart, F_M_isPart_14, isLt_e, isMD_e, bnd_l, bI, cL, cD, cP, decide_eq_true_eq]
  (repeat' split) <;> first | rfl | (exfalso; omega)
theorem bI_0 {b : Bool} : bI b = 0 ↔ b = false := by cases b <;> decide
theorem bI_01 {b : Bool} : p01 (bI b) := by cases b; exact .inl rfl; exact .inr rfl
theorem cL_P (z : cL c = true) : cP c = true := by
  unfold cL at z; unfold cP
  rw [decide_eq_true_eq] at z ⊢
  omega
/-! a word's length -/
theorem wl_l {c cn : Nat} {v1 : Int} (hcn : cn < 100000) (h0 : 0 ≤ v1) (h1 : v1 < 100000) : ∀ (l : List Int) (f p : Nat), l.length < f → p + l.length ≤ cn → Seg h c p l →
    itr (fun self (q : Nat × Nat × Int × Int × Int × MH) => F_T_wordLength_2_b (fun v0 v0n v1 v2 v3 h => self (v0, v0n, v1, v2, v3, h)) q.1 q.2.1 q.2.2.1 q.2.2.2.1 q.2.2.2.2.1 q.2.2.2.2.2) f (c, cn, v1, ((p + l.length : Nat) : Int), (p : Int), h) = some (.inl (((p + (l.takeWhile cP).length : Nat) : Int) - v1), h) := by
  intro l
  induction l with
  | nil =>
    intro f p hf hp z
    obtain ⟨f, rfl⟩ : ∃ g, f = g + 1 := ⟨f - 1, by omega⟩
    rw [itr_s]
    dsimp only
    rw [F_T_wordLength_2_b, if_pos (by simp), gd_rg (by omega) (by omega)]
    rfl
  | cons x l ih =>
    intro f p hf hp z
    rw [List.length_cons] at hp hf
    obtain ⟨f, rfl⟩ : ∃ g, f = g + 1 := ⟨f - 1, by omega⟩
    rw [itr_s]
    dsimp only
    rw [F_T_wordLength_2_b, if_neg (by rw [List.length_cons]; omega), gd_b (by omega) (by omega), isWP_e, bnd_l, Int.toNat_natCast, z.1]
    by_cases c0 : cP x = true
    · rw [if_neg (by rw [bI_0, c0]; decide), gd_rg (by omega) (by omega)]
      have q := ih f (p + 1) (by omega) (by omega) z.2
      rw [List.takeWhile_cons, if_pos c0, List.length_cons, List.length_cons]
      rw [show p + 1 + l.length = p + (l.length + 1) by omega, show p + 1 + (l.takeWhile cP).length = p + ((l.takeWhile cP).length + 1) by omega] at q
      exact q
    · rw [if_pos (by rw [bI_0]; exact Bool.eq_false_iff.mpr c0), gd_rg (by omega) (by omega), List.takeWhile_cons, if_neg c0]
      rfl
theorem wl_e {c cn p : Nat} {l : List Int} (hcn : cn < 100000) (hp : p + l.length ≤ cn) (z : Seg h c p l) : F_T_wordLength c cn (p : Int) ((p + l.length : Nat) : Int) h = some (.inl ((l.takeWhile cP).length : Int), h) := by
  have q := wl_l (h := h) (c := c) (cn := cn) (v1 := (p : Int)) hcn (by omega) (by omega) l FU p (by unfold FU; omega) hp z
  rw [show (((p + (l.takeWhile cP).length : Nat) : Int) - (p : Int)) = ((l.takeWhile cP).length : Int) by omega] at q
  exact q
/-! two rows alike -/
theorem al_l {c cn d dn p q : Nat} {n : Int} (hcn : cn < 100000) (hdn : dn < 100000) : ∀ (l l' : List Int) (f k : Nat), l.length < f → l.length = l'.length → n = ((k + l.length : Nat) : Int) → p + k + l.length ≤ cn → q + k + l.length ≤ dn → Seg h c (p + k) l → Seg h d (q + k) l' →
    itr (fun self (q : Nat × Nat × Int × Nat × Nat × Int × Int × Int × MH) => F_T_alike_3_b (fun v0 v0n v1 v2 v2n v3 v4 v5 h => self (v0, v0n, v1, v2, v2n, v3, v4, v5, h)) q.1 q.2.1 q.2.2.1 q.2.2.2.1 q.2.2.2.2.1 q.2.2.2.2.2.1 q.2.2.2.2.2.2.1 q.2.2.2.2.2.2.2.1 q.2.2.2.2.2.2.2.2) f (c, cn, (p : Int), d, dn, (q : Int), n, (k : Int), h) = some (.inl (if l = l' then 1 else 0), h) := by
  intro l
  induction l with
  | nil =>
    intro l' f k hf hl hn hp hq z z'
    obtain ⟨f, rfl⟩ : ∃ g, f = g + 1 := ⟨f - 1, by omega⟩
    cases l' with
    | cons x t => simp at hl
    | nil =>
      rw [itr_s]
      dsimp only
      rw [F_T_alike_3_b, if_pos (by rw [hn]; simp)]
      rfl
  | cons x l ih =>
    intro l' f k hf hl hn hp hq z z'
    rw [List.length_cons] at hp hf hq hn
    obtain ⟨f, rfl⟩ : ∃ g, f = g + 1 := ⟨f - 1, by omega⟩
    cases l' with
    | nil => simp at hl
    | cons y t =>
      rw [itr_s]
      dsimp only
      rw [F_T_alike_3_b, if_neg (by omega), gd_rg (by omega) (by omega), gd_b (by omega) (by omega), gd_rg (by omega) (by omega), gd_b (by omega) (by omega)]
      rw [show ((p : Int) + (k : Int)).toNat = p + k by omega, show ((q : Int) + (k : Int)).toNat = q + k by omega, z.1, z'.1]
      by_cases c0 : x = y
      · rw [if_pos c0, gd_rg (by omega) (by omega)]
        have r := ih t f (k + 1) (by omega) (by simpa using hl) (by omega) (by omega) (by omega) (by have := z.2; rw [show p + k + 1 = p + (k + 1) by omega] at this; exact this) (by have := z'.2; rw [show q + k + 1 = q + (k + 1) by omega] at this; exact this)
        rw [show ((k + 1 : Nat) : Int) = (k : Int) + 1 by omega] at r
        rw [r]
        simp only [c0, List.cons.injEq, true_and]
      · rw [if_neg c0, if_neg (by simp [c0])]
theorem al_e {c cn d dn p q : Nat} {n : Int} {l l' : List Int} (hcn : cn < 100000) (hdn : dn < 100000) (hl : l.length = l'.length) (hn : n = (l.length : Int)) (hp : p + l.length ≤ cn) (hq : q + l.length ≤ dn) (z : Seg h c p l) (z' : Seg h d q l') :
    F_T_alike c cn (p : Int) d dn (q : Int) n h = some (.inl (if l = l' then 1 else 0), h) :=
  al_l hcn hdn l l' FU 0 (by unfold FU; omega) hl (by omega) (by omega) (by omega) z z'
/-! a word spelt -/
def strL (k : Nat) : List Int := (mSByt.getD k []).map fun b => b.toInt
theorem sp_l {c cn p k : Nat} {n : Int} (hcn : cn < 100000) (hk : mSLen.getD k 0 = (strL k).length) : ∀ (l l' : List Int) (f j : Nat), l.length < f → l.length = l'.length → n = ((j + l.length : Nat) : Int) → p + j + l.length ≤ cn → Seg h c (p + j) l → (strL k).drop j = l' →
    itr (fun self (q : Nat × Nat × Int × Int × Nat × Int × MH) => F_T_spells_13_b (fun v0 v0n v1 v2 v3 v4 h => self (v0, v0n, v1, v2, v3, v4, h)) q.1 q.2.1 q.2.2.1 q.2.2.2.1 q.2.2.2.2.1 q.2.2.2.2.2.1 q.2.2.2.2.2.2) f (c, cn, (p : Int), n, k, (j : Int), h) = some (.inl (if l = l' then 1 else 0), h) := by
  intro l
  induction l with
  | nil =>
    intro l' f j hf hl hn hp z z'
    obtain ⟨f, rfl⟩ : ∃ g, f = g + 1 := ⟨f - 1, by omega⟩
    cases l' with
    | cons x t => simp at hl
    | nil =>
      rw [itr_s]
      dsimp only
      rw [F_T_spells_13_b, if_pos (by rw [hn]; simp)]
      rfl
  | cons x l ih =>
    intro l' f j hf hl hn hp z z'
    rw [List.length_cons] at hp hf hn
    obtain ⟨f, rfl⟩ : ∃ g, f = g + 1 := ⟨f - 1, by omega⟩
    cases l' with
    | nil => simp at hl
    | cons y t =>
      have hj : j < (strL k).length := by
        have q := congrArg List.length z'
        rw [List.length_drop, List.length_cons] at q
        omega
      have hy : sCh k (j : Int) = y := by
        have q : (strL k)[j]? = some y := by
          have r := congrArg (fun l => l[0]?) z'
          simpa using r
        unfold strL at q
        unfold sCh
        rw [Int.toNat_natCast]
        rw [List.getElem?_map] at q
        rw [List.getD_eq_getElem?_getD (l := List.getD mSByt k [])]
        cases e : (mSByt.getD k [])[j]? with
        | none => rw [e] at q; cases q
        | some w => rw [e] at q; simpa using q
      rw [itr_s]
      dsimp only
      rw [F_T_spells_13_b, if_neg (by omega), gd_rg (by omega) (by omega), gd_b (by omega) (by omega), gd_b (by omega) (by rw [hk]; omega)]
      rw [show ((p : Int) + (j : Int)).toNat = p + j by omega, z.1, hy]
      by_cases c0 : x = y
      · rw [if_pos c0, gd_rg (by omega) (by omega)]
        have r := ih t f (j + 1) (by omega) (by simpa using hl) (by omega) (by omega) (by have := z.2; rw [show p + j + 1 = p + (j + 1) by omega] at this; exact this) (by rw [← List.drop_drop, z']; rfl)
        rw [show ((j + 1 : Nat) : Int) = (j : Int) + 1 by omega] at r
        rw [r]
        simp only [c0, List.cons.injEq, true_and]
      · rw [if_neg c0, if_neg (by simp [c0])]
theorem sp_e {c cn p k : Nat} {n : Int} {l : List Int} (hk : mSLen.getD k 0 = (strL k).length) (hcn : cn < 100000) (hn : n = (l.length : Int)) (hp : p + l.length ≤ cn) (z : Seg h c p l) :
    F_T_spells c cn (p : Int) n k h = some (.inl (if l = strL k then 1 else 0), h) := by
  unfold F_T_spells
  by_cases c0 : l.length = (strL k).length
  · rw [if_pos (by rw [hk]; omega)]
    exact sp_l hcn hk l (strL k) FU 0 (by unfold FU; omega) c0 (by omega) (by omega) z rfl
  · rw [if_neg (by rw [hk]; omega), if_neg (fun q => c0 (by rw [q]))]
end Seg
