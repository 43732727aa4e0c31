section Easy
/-! state -/
theorem cnt_l {h : MH} : ∀ (m f : Nat) (c : Int) (k : Nat), m < f → k + m = 8 → 0 ≤ c → c ≤ k → itr (fun self (q : Int × Int × MH) => F_Na_count_4_b (fun v1 v2 h => self (v1, v2, h)) q.1 q.2.1 q.2.2) f (c, (k : Int), h) = some (.inl (c + nmF h m k), h) := by
  intro m
  induction m with
  | zero =>
    intro f c k hf hk h0 h1
    obtain ⟨f, rfl⟩ : ∃ g, f = g + 1 := ⟨f - 1, by omega⟩
    rw [itr_s]
    dsimp only
    rw [F_Na_count_4_b, if_pos (by omega)]
    unfold nmF
    rw [Int.add_zero]
  | succ m ih =>
    intro f c k hf hk h0 h1
    obtain ⟨f, rfl⟩ : ∃ g, f = g + 1 := ⟨f - 1, by omega⟩
    rw [itr_s]
    dsimp only
    rw [F_Na_count_4_b, if_neg (by omega), gd_b (by omega) (by omega)]
    simp only [F_Na_count_27, lg_eq, Int.toNat_natCast]
    rw [show nmF h (m + 1) k = (if mGl h 90 k = 0 then 0 else 1) + nmF h m (k + 1) from rfl]
    by_cases c0 : mGl h 90 k = 0
    · rw [if_pos c0, if_pos c0, gd_rg (by omega) (by omega), gd_rg (by omega) (by omega)]
      have z := ih f (c + 0) (k + 1) (by omega) (by omega) (by omega) (by omega)
      rw [show ((k + 1 : Nat) : Int) = (k : Int) + 1 by omega] at z
      rw [z, Int.add_assoc]
    · rw [if_neg c0, if_neg c0, gd_rg (by omega) (by omega), gd_rg (by omega) (by omega)]
      have z := ih f (c + 1) (k + 1) (by omega) (by omega) (by omega) (by omega)
      rw [show ((k + 1 : Nat) : Int) = (k : Int) + 1 by omega] at z
      rw [z, Int.add_assoc]
theorem count_e {h : MH} : F_Na_count h = some (.inl (nmF h 8 0), h) := by
  have z := cnt_l (h := h) 8 FU 0 0 (by decide) rfl (by decide) (by decide)
  rw [Int.zero_add] at z
  exact z
theorem state_e {k : Nat} {w : Int} {h : MH} (I : Inv k h) : ∃ x h2, F_T_state w h = some (.inl x, h) ∧ F_M_state w h = some (.inl x, h2) ∧ Inv (k + 1) h2 := by
  obtain ⟨n1, n2, n3, n4, n5, n6⟩ := I.2.2.2.2.1
  have o := I.2.2.1.1
  have r := I.2.2.2.1.1
  have hM : ∃ x, F_T_state w h = some (.inl x, h) ∧ F_M_state w h = some (.inl x, mPi h 107 0 0) := by
    unfold F_T_state F_M_state
    simp only [sto_e, count_e, bnd_l]
    have g : ∀ i, i ≠ 0 → mGi (mPi h 107 0 0) 107 i = mGi h 107 i := fun i hi => by rw [gi_pi, if_neg (by omega)]
    rw [g 1 (by decide), g 27 (by decide), g 4 (by decide), g 28 (by decide), g 6 (by decide), g 32 (by decide), g 5 (by decide), g 26 (by decide), ← n1, ← n2, ← n3, ← n4, ← n5, ← n6, ← o, ← r]
    by_cases c0 : w = 0
    · rw [if_pos c0, if_pos c0]; exact ⟨_, rfl, rfl⟩
    rw [if_neg c0, if_neg c0]
    by_cases c1 : w = 1
    · rw [if_pos c1, if_pos c1]; exact ⟨_, rfl, rfl⟩
    rw [if_neg c1, if_neg c1]
    by_cases c2 : w = 2
    · rw [if_pos c2, if_pos c2]; exact ⟨_, rfl, rfl⟩
    rw [if_neg c2, if_neg c2]
    by_cases c3 : w = 3
    · rw [if_pos c3, if_pos c3]; exact ⟨_, rfl, rfl⟩
    rw [if_neg c3, if_neg c3]
    by_cases c4 : w = 4
    · rw [if_pos c4, if_pos c4]; exact ⟨_, rfl, rfl⟩
    rw [if_neg c4, if_neg c4]
    by_cases c5 : w = 5
    · rw [if_pos c5, if_pos c5]; exact ⟨_, rfl, rfl⟩
    rw [if_neg c5, if_neg c5]
    by_cases c6 : w = 6
    · rw [if_pos c6, if_pos c6]; exact ⟨_, rfl, rfl⟩
    rw [if_neg c6, if_neg c6]
    by_cases c7 : w = 7
    · rw [if_pos c7, if_pos c7]; exact ⟨_, rfl, rfl⟩
    rw [if_neg c7, if_neg c7]
    exact ⟨_, rfl, rfl⟩
  obtain ⟨x, hT, hM⟩ := hM
  refine ⟨x, _, hT, hM, ?_⟩
  obtain ⟨t1, t2, t3, t4⟩ := I.2.1
  have e : Ext h (mPi h 107 0 0) := Ext.pi (I.lay.sh (x := (12, 66)) rfl) (by decide) inR_0
  refine I.text (S := [107]) (Sm.fr e (Fr.pi Fr.rf (by decide))) (by decide) (fun i h1 h2 => ?_) ⟨?_, ?_, ?_, fun j hj => ?_⟩ ?_ ?_
  · rw [gi_pi, if_neg (by omega)]
  · rw [gi_pi, if_neg (by decide), gi_pi, if_neg (by decide)]; exact t1
  · rw [gi_pi, if_neg (by decide)]; exact t2
  · rw [gi_pi, if_neg (by decide)]; exact t3
  · rw [gi_pi, if_neg (by omega)] at hj
    rw [gi_pi, if_neg (by omega), gi_pi, if_neg (by omega)]
    exact t4 j hj
  · show h.1.length + 4 * k ≤ h.1.length + 4 * (k + 1); omega
  · show mSlt h + 24 * k ≤ mSlt h + 24 * (k + 1); omega
/-! character -/
theorem char_e {k : Nat} {w j : Int} {h : MH} (I : Inv k h) : ∃ x h2, F_T_character w j h = some (.inl x, h) ∧ F_M_character w j h = some (.inl x, h2) ∧ Inv (k + 1) h2 := by
  obtain ⟨o1, o2, o3, o4⟩ := I.2.2.1
  obtain ⟨r1, r2, r3, r4⟩ := I.2.2.2.1
  have hM : ∃ x, F_T_character w j h = some (.inl x, h) ∧ F_M_character w j h = some (.inl x, mPi h 107 0 0) := by
    unfold F_T_character F_M_character
    simp only [sto_e, F_Le_at, F_Le_at_21, F_M_character_37, F_M_character_34]
    have g : ∀ i, i ≠ 0 → mGi (mPi h 107 0 0) 107 i = mGi h 107 i := fun i hi => by rw [gi_pi, if_neg (by omega)]
    have g2 : ∀ i, mGi (mPi h 107 0 0) 110 i = mGi h 110 i := fun i => by rw [gi_pi, if_neg (by omega)]
    have g3 : ∀ i, mGi (mPi h 107 0 0) 122 i = mGi h 122 i := fun i => by rw [gi_pi, if_neg (by omega)]
    rw [g 5 (by decide), g 26 (by decide), g2, g3, ← o1, ← r1]
    by_cases j0 : j < 0
    · simp only [if_pos j0, bnd_l]
      by_cases c0 : w = 0
      · rw [if_pos c0]; exact ⟨_, rfl, rfl⟩
      · rw [if_neg c0]
        by_cases c1 : w = 1
        · rw [if_pos c1]; exact ⟨_, rfl, rfl⟩
        · rw [if_neg c1]; exact ⟨_, rfl, rfl⟩
    · simp only [if_neg j0]
      by_cases c0 : w = 0
      · rw [if_pos c0, if_neg (by omega : ¬ w < 0), if_neg (by omega : ¬ 1 < w), if_pos c0, if_pos c0]
        by_cases c : mGi h 4 1 ≤ j
        · rw [if_pos c, if_neg (by omega), bnd_l]; exact ⟨_, rfl, rfl⟩
        · rw [if_neg c, if_pos (by omega), gd_b (by omega) (by show j < 400; omega), gd_b (by omega) (by omega), bnd_l, ← (o4 j.toNat (by omega)).1]
          exact ⟨_, rfl, rfl⟩
      · rw [if_neg c0]
        by_cases c1 : w = 1
        · rw [if_pos c1, if_neg (by omega : ¬ w < 0), if_neg (by omega : ¬ 1 < w), if_neg c0, if_neg c0]
          by_cases c : mGi h 101 1 ≤ j
          · rw [if_pos c, if_neg (by omega), bnd_l]; exact ⟨_, rfl, rfl⟩
          · rw [if_neg c, if_pos (by omega), gd_b (by omega) (by show j < 600; omega), gd_b (by omega) (by omega), bnd_l, ← (r4 j.toNat (by omega)).1]
            exact ⟨_, rfl, rfl⟩
        · rw [if_neg c1]
          by_cases c2 : w < 0
          · rw [if_pos c2]; exact ⟨_, rfl, rfl⟩
          · rw [if_neg c2, if_pos (by omega)]; exact ⟨_, rfl, rfl⟩
  obtain ⟨x, hT, hM⟩ := hM
  refine ⟨x, _, hT, hM, ?_⟩
  obtain ⟨t1, t2, t3, t4⟩ := I.2.1
  have e : Ext h (mPi h 107 0 0) := Ext.pi (I.lay.sh (x := (12, 66)) rfl) (by decide) inR_0
  refine I.text (S := [107]) (Sm.fr e (Fr.pi Fr.rf (by decide))) (by decide) (fun i h1 h2 => ?_) ⟨?_, ?_, ?_, fun j hj => ?_⟩ ?_ ?_
  · rw [gi_pi, if_neg (by omega)]
  · rw [gi_pi, if_neg (by decide), gi_pi, if_neg (by decide)]; exact t1
  · rw [gi_pi, if_neg (by decide)]; exact t2
  · rw [gi_pi, if_neg (by decide)]; exact t3
  · rw [gi_pi, if_neg (by omega)] at hj
    rw [gi_pi, if_neg (by omega), gi_pi, if_neg (by omega)]
    exact t4 j hj
  · show h.1.length + 4 * k ≤ h.1.length + 4 * (k + 1); omega
  · show mSlt h + 24 * k ≤ mSlt h + 24 * (k + 1); omega
end Easy
