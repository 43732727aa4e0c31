/-! pure steps -/
section Pure
variable {α ρ σ : Type} {h : MH}
theorem gd_rg {x : Int} {r : Option α} (h0 : -2147483648 ≤ x) (h1 : x < 2147483648) : gd (inR x) r = r := gd_t ⟨h0, h1⟩
theorem gd_b {x n : Int} {r : Option α} (h0 : 0 ≤ x) (h1 : x < n) : gd (0 ≤ x ∧ x < n) r = r := gd_t ⟨h0, h1⟩
theorem gd_0 {x : Int} {r : Option α} (h0 : 0 ≤ x) : gd (0 ≤ x) r = r := gd_t h0
theorem gd_p {x : Int} {r : Option α} (h0 : 0 < x) : gd (0 < x) r = r := gd_t h0
theorem gd_01a {r : Option α} : gd (p01 0) r = r := gd_t (.inl rfl)
theorem gd_01b {r : Option α} : gd (p01 1) r = r := gd_t (.inr rfl)
theorem gd_cp {a b c d e : Int} {na nb : Int} {r : Option α} (h0 : 0 ≤ a) (h1 : 0 ≤ b) (h2 : 0 ≤ c) (h3 : d ≤ na) (h4 : e ≤ nb) : gd (0 ≤ a ∧ 0 ≤ b ∧ 0 ≤ c ∧ d ≤ na ∧ e ≤ nb) r = r := gd_t ⟨h0, h1, h2, h3, h4⟩
theorem bnd_l {v : ρ} {K : ρ → MH → RS σ} : bnd (some (.inl v, h)) K = K v h := rfl
theorem bnd_r {te : Nat} {K : ρ → MH → RS σ} : bnd (some (.inr te, h)) K = some (.inr te, h) := rfl
theorem bndC_l {v : ρ} {K : ρ → MH → RS σ} {H : Nat → MH → RS σ} : bndC (some (.inl v, h)) K H = K v h := rfl
theorem bndC_r {te : Nat} {K : ρ → MH → RS σ} {H : Nat → MH → RS σ} : bndC (some (.inr te, h)) K H = H te h := rfl
theorem sto_e {K : MH → α} : sto h K = K h := rfl
theorem itr_s {β : Type} {B : (α → Option β) → α → Option β} {n : Nat} {x : α} : itr B (n + 1) x = B (itr B n) x := rfl
theorem gi_cp {a b sp dp n c j : Nat} : mGi (mCpI h a b sp dp n) c j = if c = b ∧ dp ≤ j ∧ j < dp + n then mGi h a (sp + (j - dp)) else mGi h c j := rfl
theorem gl_cp {a b sp dp n c j : Nat} : mGl (mCpI h a b sp dp n) c j = mGl h c j := rfl
theorem gr_cp {a b sp dp n c j : Nat} : mGr (mCpI h a b sp dp n) c j = mGr h c j := rfl
theorem gi_cl {a b sp dp n c j : Nat} : mGi (mCpL h a b sp dp n) c j = mGi h c j := rfl
theorem gr_cl {a b sp dp n c j : Nat} : mGr (mCpL h a b sp dp n) c j = mGr h c j := rfl
theorem gl_cl {a b sp dp n c j : Nat} : mGl (mCpL h a b sp dp n) c j = if c = b ∧ dp ≤ j ∧ j < dp + n then mGl h a (sp + (j - dp)) else mGl h c j := rfl
theorem sc_pi {a i : Nat} {x : Int} : mSc (mPi h a i x) = mSc h := rfl
theorem sc_pl {a i : Nat} {x : Int64} : mSc (mPl h a i x) = mSc h := rfl
theorem sc_pr {a i : Nat} {x : Option Nat} : mSc (mPr h a i x) = mSc h := rfl
theorem sc_nw {t n : Nat} : mSc (mNew h t n) = mSc h := rfl
theorem sc_cp {a b sp dp n : Nat} : mSc (mCpI h a b sp dp n) = mSc h := rfl
theorem sc_cl {a b sp dp n : Nat} : mSc (mCpL h a b sp dp n) = mSc h := rfl
theorem lg_eq {x y : Int64} : lgI x y = 0 ↔ x = y := by
  unfold lgI
  by_cases h1 : y < x
  · rw [if_pos h1]
    refine ⟨fun q => absurd q (by decide), fun q => ?_⟩
    subst q
    exact absurd h1 (Int64.lt_irrefl)
  · rw [if_neg h1]
    by_cases h2 : x = y
    · rw [if_pos h2]; exact ⟨fun _ => h2, fun _ => rfl⟩
    · rw [if_neg h2]; exact ⟨fun q => absurd q (by decide), fun q => absurd q h2⟩
theorem lg_lt {x y : Int64} : lgI x y < 0 ↔ x < y := by
  unfold lgI
  by_cases h1 : y < x
  · rw [if_pos h1]
    exact ⟨fun q => absurd q (by decide), fun q => absurd (Int64.lt_trans h1 q) (Int64.lt_irrefl)⟩
  · rw [if_neg h1]
    by_cases h2 : x = y
    · rw [if_pos h2]; exact ⟨fun q => absurd q (by decide), fun q => by subst h2; exact absurd q (Int64.lt_irrefl)⟩
    · rw [if_neg h2]
      refine ⟨fun _ => ?_, fun _ => by decide⟩
      rw [Int64.lt_iff_toInt_lt] at h1 ⊢
      have h3 : x.toInt ≠ y.toInt := fun q => h2 (Int64.toInt_inj.mp q)
      omega
theorem lg_gt {x y : Int64} : 0 < lgI x y ↔ y < x := by
  unfold lgI
  by_cases h1 : y < x
  · rw [if_pos h1]; exact ⟨fun _ => h1, fun _ => by decide⟩
  · rw [if_neg h1]
    by_cases h2 : x = y
    · rw [if_pos h2]; exact ⟨fun q => absurd q (by decide), fun q => absurd q h1⟩
    · rw [if_neg h2]; exact ⟨fun q => absurd q (by decide), fun q => absurd q h1⟩
theorem lg_le {x y : Int64} : lgI x y ≤ 0 ↔ x ≤ y := by
  have := lg_gt (x := x) (y := y)
  rw [Int64.le_iff_toInt_le]
  rw [Int64.lt_iff_toInt_lt] at this
  omega
theorem lg_ge {x y : Int64} : 0 ≤ lgI x y ↔ y ≤ x := by
  have := lg_lt (x := x) (y := y)
  rw [Int64.le_iff_toInt_le]
  rw [Int64.lt_iff_toInt_lt] at this
  omega
end Pure
