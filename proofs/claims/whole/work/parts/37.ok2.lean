/-! more steps: a row that may be missing, two handlers, a quotient -/
section Ok2
variable {ρ : Type} {d : Nat} {k : MK} {pc : Nat} {ls st rest : List MV} {h : MH} {c : ρ → Option MV} {p : ρ → Prop}
def bR (o : Option Nat) (K : Nat → RS ρ) : RS ρ := match o with
  | none => none
  | some r => K r
theorem z_bR {o : Option Nat} {K : Nat → RS ρ} (hk : ∀ r, o = some r → OK d k pc ls st h c p (K r)) : OK d k pc ls st h c p (bR o K) := by
  cases o with
  | none => exact OK.none
  | some r => exact hk r rfl
theorem z_hand2 {H1 H2 : MH → RS ρ} {x1 x : ExceptionTableEntry} {rx : List ExceptionTableEntry} (htab : tableOf (kH k) = x1 :: x :: rx) (hcov1 : covers x1 pc = true) (h01 : x1.catchType ≠ 0) (hcov : covers x pc = true) (h0 : x.catchType ≠ 0)
    (hlk1 : Cond.classLink (kY k).cls x1.catchType "java/lang/IllegalArgumentException" ∈ mTs) (hlk : Cond.classLink (kY k).cls x.catchType "java/lang/IllegalStateException" ∈ mTs)
    (k1 : ∀ a h2, Ext h h2 → OK d k x1.handlerPc ls [mR a] h2 c p (H1 h2)) (k2 : ∀ a h2, Ext h h2 → OK d k x.handlerPc ls [mR a] h2 c p (H2 h2)) : ∀ te h2 o h', Ext h h2 → (if te = 14 then H1 h2 else gd (te = 15) (H2 h2)) = some (o, h') → Ext h2 h' ∧ (∀ x, o = .inl x → p x) ∧ ∀ a, h2.1[a]? = some (te, 6) → ∀ Q : MO → MH → Prop, (∀ o', rl c p o h' o' → Q o' h') → MT d k pc ls rest a h2 Q := by
  intro te h2 o h' e f
  by_cases ht : te = 14
  · rw [if_pos ht] at f
    subst ht
    exact ⟨(k1 0 h2 e o h' f).1, (k1 0 h2 e o h' f).2.1, fun a ha Q hq => MT.catch1 (te := 14) htab hcov1 h01 rfl (by decide) ha hlk1 ((k1 a h2 e o h' f).2.2 Q hq)⟩
  · rw [if_neg ht] at f
    obtain ⟨rfl, g⟩ := gd_some f
    exact ⟨(k2 0 h2 e o h' g).1, (k2 0 h2 e o h' g).2.1, fun a ha Q hq => MT.catch2 (te := 15) (t1 := 14) htab hcov1 h01 hcov h0 rfl hlk1 ⟨rfl, rfl⟩ rfl (by decide) ha hlk ((k2 a h2 e o h' g).2.2 Q hq)⟩
theorem ofI_tdiv {x y : Int} (hx : inR x) (hy : inR y) (h1 : 0 < y) : Int32.ofInt x / Int32.ofInt y = Int32.ofInt (x.tdiv y) := by
  apply Int32.toInt_inj.mp
  rw [Int32.toInt_div, ofI_toInt hx, ofI_toInt hy]
  have hr : inR (x.tdiv y) := by
    have a1 : (x.tdiv y).natAbs ≤ x.natAbs := by rw [Int.natAbs_tdiv]; exact Nat.div_le_self _ _
    have a2 : x = -2147483648 → 1 < y ∨ y = 1 := fun _ => by omega
    unfold inR at hx ⊢
    by_cases h0 : 0 ≤ x
    · have := Int.tdiv_nonneg h0 (Int.le_of_lt h1); omega
    · have : x.tdiv y ≤ 0 := by
        have z := Int.tdiv_nonneg (a := -x) (b := y) (by omega) (by omega)
        rw [Int.neg_tdiv] at z
        omega
      omega
  rw [ofI_toInt hr]
  exact Int.bmod_eq_of_le (by have := hr.1; omega) (by have := hr.2; omega)
theorem inR_tdiv {x y : Int} (hx : inR x) (hy : inR y) (h1 : 0 < y) : inR (x.tdiv y) := by
  have z := inR_32 (Int32.ofInt x / Int32.ofInt y)
  have a1 : (x.tdiv y).natAbs ≤ x.natAbs := by rw [Int.natAbs_tdiv]; exact Nat.div_le_self _ _
  unfold inR at hx ⊢
  by_cases h0 : 0 ≤ x
  · have := Int.tdiv_nonneg h0 (Int.le_of_lt h1); omega
  · have : x.tdiv y ≤ 0 := by
      have z := Int.tdiv_nonneg (a := -x) (b := y) (by omega) (by omega)
      rw [Int.neg_tdiv] at z
      omega
    omega
theorem x_idivT {Q : MO → MH → Prop} {x y : Int} (hd : decode (kB k) pc = .ok (.idiv, 1)) (hxr : inR x) (hyr : inR y) (h1 : 0 < y) (hx : MX d k (pc + 1) ls (mI (x.tdiv y) :: st) h Q) : MX d k pc ls (mI y :: mI x :: st) h Q :=
  MX.go (fun _ _ _ _ _ _ _ _ _ _ _ _ _ _ _ _ _ C L w => lv_idiv C.1 C.2.1 hd (ofI_ne0 hyr (by omega)) (by rw [ofI_tdiv hxr hyr h1]; exact w)) hx
theorem sLen_r {i : Nat} (hi : i < 16) : inR ((mSLen.getD i 0 : Nat) : Int) := inR_nat (by have := s_len i hi; omega)
theorem inR_s {i : Nat} {j : Int} (hi : i < 16) (g : 0 ≤ j ∧ j < ((mSLen.getD i 0 : Nat) : Int)) : inR (sCh i j) := by
  have z := sCh_r hi g.1 g.2
  exact ⟨by omega, by omega⟩
end Ok2
