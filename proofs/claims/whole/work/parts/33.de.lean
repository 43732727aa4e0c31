/-! Definitions(): sixteen words, sixteen texts -/
section DeC
def deSt (g : MH) (k : Nat) : MH := mPi (mPr (mPr (mNw (mNw (mPr (mPr (mNw (mNw g (11 + 4 * k) 1 3) (12 + 4 * k) 101 8) (11 + 4 * k) 0 (some (12 + 4 * k))) 7 k (some (11 + 4 * k))) (13 + 4 * k) 1 3) (14 + 4 * k) 101 40) (13 + 4 * k) 0 (some (14 + 4 * k))) 8 k (some (13 + 4 * k))) 10 k (k : Int)
def deGo : Nat → Nat → MH → MH
  | 0, _, g => g
  | n + 1, k, g => deGo n (k + 1) (deSt g k)
def DeI (g : MH) (S k : Nat) : Prop := g.1.length = 11 + 4 * k ∧ mSlt g = S + 54 * k ∧ g.1[6]? = some (3, 5) ∧ g.1[7]? = some (110, 16) ∧ g.1[8]? = some (110, 16) ∧ g.1[10]? = some (100, 16) ∧ mGr g 6 0 = some 7 ∧ mGr g 6 1 = some 8 ∧ mGr g 6 3 = some 10
theorem de_gr {g : MH} {k j : Nat} : mGr (deSt g k) 6 j = mGr g 6 j := by
  unfold deSt
  rw [gr_pi, gr_pr, if_neg (by omega), gr_pr, if_neg (by omega), gr_nwL, if_neg (by omega), gr_nwL, if_neg (by omega), gr_pr, if_neg (by omega), gr_pr, if_neg (by omega), gr_nwL, if_neg (by omega), gr_nwL, if_neg (by omega)]
theorem de_sh {g : MH} {k a : Nat} {x : Nat × Nat} (ha : g.1[a]? = some x) : (deSt g k).1[a]? = some x := sh_nw (L := 14 + 4 * k) (sh_nw (L := 13 + 4 * k) (sh_nw (L := 12 + 4 * k) (sh_nw (L := 11 + 4 * k) ha)))
theorem de_len {g : MH} {k : Nat} (hl : g.1.length = 11 + 4 * k) : (deSt g k).1.length = 11 + 4 * (k + 1) := len_nw (len_nw (len_nw (len_nw hl)))
theorem de_slt {g : MH} {S k : Nat} (hs : mSlt g = S) : mSlt (deSt g k) = S + 3 + 8 + 3 + 40 := slt_nw (L := 14 + 4 * k) (slt_nw (L := 13 + 4 * k) (slt_nw (L := 12 + 4 * k) (slt_nw (L := 11 + 4 * k) hs)))
theorem de_inv {g : MH} {S k : Nat} (I : DeI g S k) : DeI (deSt g k) S (k + 1) := by
  obtain ⟨i1, i2, i3, i4, i5, i6, i7, i8, i9⟩ := I
  exact ⟨de_len i1, by rw [de_slt i2]; omega, de_sh i3, de_sh i4, de_sh i5, de_sh i6, by rw [de_gr]; exact i7, by rw [de_gr]; exact i8, by rw [de_gr]; exact i9⟩
theorem de_loop {S : Nat} (hS : S ≤ 1000000) {Q : MO → MH → Prop} : ∀ (n k : Nat) (g : MH), k + n = 16 → DeI g S k → Q (.inl none) (deGo n k g) → MX 2 k_De_init 40 [mR 6, mI (k : Int)] [] g Q := by
  intro n
  induction n with
  | zero =>
    intro k g hk I hQ
    refine x_iload_n (dA d_De_init 20 rfl) rfl rfl ?_
    refine x_bipush (dA d_De_init 21 rfl) (by decide) ?_
    refine x_icmp_ge (dA d_De_init 22 rfl) rfl (by unfold inR; omega) (by unfold inR; omega) (fun hc => ?_) (fun hc => ?_)
    · exact x_return (dA d_De_init 46 rfl) rfl hQ
    · exact absurd hk (by omega)
  | succ n ih =>
    intro k g hk I hQ
    obtain ⟨i1, i2, i3, i4, i5, i6, i7, i8, i9⟩ := id I
    have hm1 : 11 + 4 * k < mCM ∧ S + 54 * k + 3 ≤ mSM := by unfold mCM mSM; omega
    have hm2 : 12 + 4 * k < mCM ∧ S + 54 * k + 3 + 8 ≤ mSM := by unfold mCM mSM; omega
    have hm3 : 13 + 4 * k < mCM ∧ S + 54 * k + 3 + 8 + 3 ≤ mSM := by unfold mCM mSM; omega
    have hm4 : 14 + 4 * k < mCM ∧ S + 54 * k + 3 + 8 + 3 + 40 ≤ mSM := by unfold mCM mSM; omega
    have l1 : (mNw g (11 + 4 * k) 1 3).1.length = 12 + 4 * k := by rw [len_nw i1]; omega
    have l2 : (mNw (mNw g (11 + 4 * k) 1 3) (12 + 4 * k) 101 8).1.length = 13 + 4 * k := by rw [len_nw l1]; omega
    have l3 : (mNw (mNw (mNw g (11 + 4 * k) 1 3) (12 + 4 * k) 101 8) (13 + 4 * k) 1 3).1.length = 14 + 4 * k := by rw [len_nw l2]; omega
    refine x_iload_n (dA d_De_init 20 rfl) rfl rfl ?_
    refine x_bipush (dA d_De_init 21 rfl) (by decide) ?_
    refine x_icmp_ge (dA d_De_init 22 rfl) rfl (by unfold inR; omega) (by unfold inR; omega) (fun hc => ?_) (fun hc => ?_)
    · exact absurd hc (by omega)
    refine x_aload_n (dA d_De_init 23 rfl) rfl rfl ?_
    refine x_getR (dA d_De_init 24 rfl) f_De_13 i3 (by decide) (by decide) rfl i7 ?_
    refine x_iload_n (dA d_De_init 25 rfl) rfl rfl ?_
    refine y_new (L := 11 + 4 * k) (S := S + 54 * k) (dA d_De_init 26 rfl) n_De_11 (by decide) i1 i2 hm1 ?_
    refine x_dup (dA d_De_init 27 rfl) rfl ?_
    refine x_bipush (dA d_De_init 28 rfl) (by decide) ?_
    refine x_dI (as := [mI 8]) (rest := [mR (11 + 4 * k), mI (k : Int), mR 7]) (k' := k_Le_init) (dA d_De_init 29 rfl) o_Le_init rfl rfl rfl lk_De_27 im_Le_init (Nat.le_of_ble_eq_true rfl) (by decide) (Nat.le_of_ble_eq_true rfl) (c_LeA (N := 8) (L := 12 + 4 * k) (S := S + 54 * k + 3) (sh_nwl i1) (by decide) l1 (slt_nw (L := 11 + 4 * k) i2) hm2) ?_
    refine x_aast (dA d_De_init 30 rfl) (sh_nw (L := 12 + 4 * k) (sh_nw (L := 11 + 4 * k) i4)) (by decide) (sh_nw (L := 12 + 4 * k) (sh_nwl i1)) (by decide) rfl rfl (by omega) (by omega) (by decide) ?_
    refine x_aload_n (dA d_De_init 31 rfl) rfl rfl ?_
    refine x_getR (dA d_De_init 32 rfl) f_De_17 (sh_nw (L := 12 + 4 * k) (sh_nw (L := 11 + 4 * k) i3)) (by decide) (by decide) rfl (b := 8) ?_ ?_
    · rw [gr_pr, if_neg (by omega), gr_pr, if_neg (by omega), gr_nwL, if_neg (by omega), gr_nwL, if_neg (by omega)]
      exact i8
    refine x_iload_n (dA d_De_init 33 rfl) rfl rfl ?_
    refine y_new (L := 13 + 4 * k) (S := S + 54 * k + 3 + 8) (dA d_De_init 34 rfl) n_De_11 (by decide) l2 (slt_nw (L := 12 + 4 * k) (slt_nw (L := 11 + 4 * k) i2)) hm3 ?_
    refine x_dup (dA d_De_init 35 rfl) rfl ?_
    refine x_bipush (dA d_De_init 36 rfl) (by decide) ?_
    refine x_dI (as := [mI 40]) (rest := [mR (13 + 4 * k), mI (k : Int), mR 8]) (k' := k_Le_init) (dA d_De_init 37 rfl) o_Le_init rfl rfl rfl lk_De_27 im_Le_init (Nat.le_of_ble_eq_true rfl) (by decide) (Nat.le_of_ble_eq_true rfl) (c_LeA (N := 40) (L := 14 + 4 * k) (S := S + 54 * k + 3 + 8 + 3) (sh_nwl l2) (by decide) l3 (slt_nw (L := 13 + 4 * k) (slt_nw (L := 12 + 4 * k) (slt_nw (L := 11 + 4 * k) i2))) hm4) ?_
    refine x_aast (dA d_De_init 38 rfl) (sh_nw (L := 14 + 4 * k) (sh_nw (L := 13 + 4 * k) (sh_nw (L := 12 + 4 * k) (sh_nw (L := 11 + 4 * k) i5)))) (by decide) (sh_nw (L := 14 + 4 * k) (sh_nwl l2)) (by decide) rfl rfl (by omega) (by omega) (by decide) ?_
    refine x_aload_n (dA d_De_init 39 rfl) rfl rfl ?_
    refine x_getR (dA d_De_init 40 rfl) f_De_24 (sh_nw (L := 14 + 4 * k) (sh_nw (L := 13 + 4 * k) (sh_nw (L := 12 + 4 * k) (sh_nw (L := 11 + 4 * k) i3)))) (by decide) (by decide) rfl (b := 10) ?_ ?_
    · rw [gr_pr, if_neg (by omega), gr_pr, if_neg (by omega), gr_nwL, if_neg (by omega), gr_nwL, if_neg (by omega), gr_pr, if_neg (by omega), gr_pr, if_neg (by omega), gr_nwL, if_neg (by omega), gr_nwL, if_neg (by omega)]
      exact i9
    refine x_iload_n (dA d_De_init 41 rfl) rfl rfl ?_
    refine x_iload_n (dA d_De_init 42 rfl) rfl rfl ?_
    refine x_iast (dA d_De_init 43 rfl) (sh_nw (L := 14 + 4 * k) (sh_nw (L := 13 + 4 * k) (sh_nw (L := 12 + 4 * k) (sh_nw (L := 11 + 4 * k) i6)))) (by omega) (by omega) (by decide) ?_
    refine x_iinc (dA d_De_init 44 rfl) rfl (by decide) rfl ?_
    refine x_goto (dA d_De_init 45 rfl) rfl ?_
    exact ih (k + 1) (deSt g k) (by omega) (de_inv I) hQ
theorem de_go {S : Nat} : ∀ (n k : Nat) (g : MH), DeI g S k → DeI (deGo n k g) S (k + n) := by
  intro n
  induction n with
  | zero => intro k g I; exact I
  | succ n ih =>
    intro k g I
    have z := ih (k + 1) (deSt g k) (de_inv I)
    rw [show k + (n + 1) = k + 1 + n by omega]
    exact z
theorem de_go_sh : ∀ (n k : Nat) (g : MH) {a : Nat} {x : Nat × Nat}, g.1[a]? = some x → (deGo n k g).1[a]? = some x := by
  intro n
  induction n with
  | zero => intro k g a x ha; exact ha
  | succ n ih => intro k g a x ha; exact ih (k + 1) (deSt g k) (de_sh ha)
end DeC
