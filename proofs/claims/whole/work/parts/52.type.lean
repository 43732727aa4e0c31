/-! type -/
section Typ
theorem and255_le (y : Int64) : 0 ≤ (y &&& 255).toInt ∧ (y &&& 255).toInt ≤ 255 := by
  have h1 : (y &&& 255).toBitVec.toNat ≤ 255 := by
    rw [Int64.toBitVec_and, BitVec.toNat_and]
    exact Nat.and_le_right
  have h2 : (y &&& 255).toInt = (((y &&& 255).toBitVec.toNat : Nat) : Int) := by
    show (y &&& 255).toBitVec.toInt = _
    rw [BitVec.toInt_eq_toNat_cond, if_pos (by omega)]
  rw [h2]
  omega
theorem and255_i (y : Int64) : (y &&& 255).toInt32.toInt = (y &&& 255).toInt := by
  rw [Int64.toInt_toInt32]
  have := and255_le y
  exact Int.bmod_eq_of_le (by omega) (by omega)
/-- the k-th byte -/
def bt (v : Int64) (k : Int) : Int64 := (v >>> ((Int32.ofInt (8 * k)).toInt64 &&& 63)) &&& 255
def bi (v : Int64) (k : Int) : Int := (bt v k).toInt
theorem bi_r (v : Int64) (k : Int) : 0 ≤ bi v k ∧ bi v k ≤ 255 := and255_le _
def lgl (c : Int) : Prop := c = 10 ∨ (32 ≤ c ∧ c ≤ 126)
def lgs (v : Int64) (n k : Int) : Prop := ∀ j, k ≤ j → j < n → lgl (bi v j)
theorem lgs_s {v : Int64} {n k : Int} (hk : k < n) : lgs v n k ↔ lgl (bi v k) ∧ lgs v n (k + 1) := by
  constructor
  · exact fun z => ⟨z k (Int.le_refl _) hk, fun j h1 h2 => z j (by omega) h2⟩
  · rintro ⟨z1, z2⟩ j h1 h2
    by_cases e : j = k
    · rw [e]; exact z1
    · exact z2 j (by omega) h2
theorem byteOf_e {v : Int64} {k : Int} {h : MH} (h0 : 0 ≤ k) (h1 : k < 9) : F_T_byteOf v k h = some (.inl (bi v k), h) := by
  unfold F_T_byteOf
  rw [gd_rg (by omega) (by omega)]
  rw [show (((v >>> ((Int32.ofInt ((8 : Int) * k)).toInt64 &&& 63)) &&& (255 : Int64)).toInt32.toInt) = bi v k from and255_i _]
theorem areC_l {v : Int64} {n : Int} {h : MH} (hn : n ≤ 8) : ∀ (m : Nat) (f : Nat) (k : Int), m < f → n - k ≤ m → 0 ≤ k →
    (lgs v n k → itr (fun self (q : Int64 × Int × Int × MH) => F_T_areCharacters_2_b (fun v0 v2 v3 h => self (v0, v2, v3, h)) q.1 q.2.1 q.2.2.1 q.2.2.2) f (v, n, k, h) = some (.inl 1, h)) ∧
    (¬ lgs v n k → itr (fun self (q : Int64 × Int × Int × MH) => F_T_areCharacters_2_b (fun v0 v2 v3 h => self (v0, v2, v3, h)) q.1 q.2.1 q.2.2.1 q.2.2.2) f (v, n, k, h) = some (.inl 0, h)) := by
  intro m
  induction m with
  | zero =>
    intro f k hf hk h0
    obtain ⟨f, rfl⟩ : ∃ g, f = g + 1 := ⟨f - 1, by omega⟩
    have z : lgs v n k := fun j h1 h2 => by omega
    refine ⟨fun _ => ?_, fun q => absurd z q⟩
    rw [itr_s]
    dsimp only
    unfold F_T_areCharacters_2_b
    rw [if_pos (by omega)]
  | succ m ih =>
    intro f k hf hk h0
    obtain ⟨f, rfl⟩ : ∃ g, f = g + 1 := ⟨f - 1, by omega⟩
    rw [itr_s]
    dsimp only
    unfold F_T_areCharacters_2_b
    by_cases hc : n ≤ k
    · have z : lgs v n k := fun j h1 h2 => by omega
      refine ⟨fun _ => ?_, fun q => absurd z q⟩
      rw [if_pos hc]
    · have hs := lgs_s (v := v) (n := n) (k := k) (by omega)
      have hi := ih f (k + 1) (by omega) (by omega) (by omega)
      have hb : lgl (bi v k) ↔ (bi v k = 10 ∨ (32 ≤ bi v k ∧ bi v k ≤ 126)) := Iff.rfl
      simp only [F_T_areCharacters_37]
      rw [if_neg hc, byteOf_e h0 (by omega), bnd_l, gd_rg (by omega) (by omega)]
      by_cases c1 : bi v k = 10
      · rw [if_pos c1]
        exact ⟨fun q => hi.1 (hs.mp q).2, fun q => hi.2 (fun w => q (hs.mpr ⟨.inl c1, w⟩))⟩
      · rw [if_neg c1]
        by_cases c2 : bi v k < 32
        · rw [if_pos c2]
          exact ⟨fun q => absurd (hb.mp (hs.mp q).1) (by omega), fun _ => rfl⟩
        · rw [if_neg c2]
          by_cases c3 : bi v k ≤ 126
          · rw [if_pos c3]
            exact ⟨fun q => hi.1 (hs.mp q).2, fun q => hi.2 (fun w => q (hs.mpr ⟨.inr ⟨by omega, c3⟩, w⟩))⟩
          · rw [if_neg c3]
            exact ⟨fun q => absurd (hb.mp (hs.mp q).1) (by omega), fun _ => rfl⟩
end Typ
