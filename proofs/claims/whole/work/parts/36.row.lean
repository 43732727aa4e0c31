/-! a new row of tokens -/
section Row
def rowH (h : MH) (L : Nat) : MH := mPr (mNw (mPr (mNw (mPr (mNw (mPi (mPr (mNw h (L + 1) 103 100) L 0 (some (L + 1))) L 1 100) (L + 2) 103 100) L 2 (some (L + 2))) (L + 3) 103 1200) L 4 (some (L + 3))) (L + 4) 100 4) L 6 (some (L + 4))
/-- a new row at L, held in place j of the rows -/
def mRow (h : MH) (j : Nat) : MH := mPr (rowH (mNw h h.1.length 9 8) h.1.length) 96 j (some h.1.length)
def rmR (h : MH) : Prop := h.1.length + 5 ≤ mCM ∧ mSlt h + 1412 ≤ mSM
theorem c_Ro_init {h : MH} {L S : Nat} (ha : h.1[L]? = some (9, 8)) (hl : h.1.length = L + 1) (hs : mSlt h = S) (hm : L + 5 ≤ mCM ∧ S + 1404 ≤ mSM) : CD 1 k_Ro_init [mR L] h none (rowH h L) := by
  intro Q hQ
  obtain ⟨m1, m2⟩ := hm
  refine x_aload_n (dA d_Ro_init 0 rfl) rfl rfl ?_
  refine x_objInit (dA d_Ro_init 1 rfl) lk_Ro_1 oi_im oi_co (by decide) ?_
  refine x_aload_n (dA d_Ro_init 2 rfl) rfl rfl ?_
  refine x_bipush (dA d_Ro_init 3 rfl) (by decide) ?_
  refine y_newaJ (N := 100) (L := L + 1) (S := S) (dA d_Ro_init 4 rfl) rfl rfl (by decide) hl hs ⟨by omega, by omega⟩ ?_
  refine x_putFR (dA d_Ro_init 5 rfl) p_Ro_9 rfl ⟨fun _ => rfl, fun _ => rfl⟩ (sh_nw ha) (by decide) cl_Ro rfl ?_
  refine x_aload_n (dA d_Ro_init 6 rfl) rfl rfl ?_
  refine x_bipush (dA d_Ro_init 7 rfl) (by decide) ?_
  refine x_putI (dA d_Ro_init 8 rfl) p_Ro_13 (sh_nw (L := L + 1) ha) (by decide) cl_Ro rfl ?_
  refine x_aload_n (dA d_Ro_init 9 rfl) rfl rfl ?_
  refine x_bipush (dA d_Ro_init 10 rfl) (by decide) ?_
  refine y_newaJ (N := 100) (L := L + 2) (S := S + 100) (dA d_Ro_init 11 rfl) rfl rfl (by decide) (len_nw hl) (slt_nw (L := L + 1) hs) ⟨by omega, by omega⟩ ?_
  refine x_putFR (dA d_Ro_init 12 rfl) p_Ro_17 rfl ⟨fun _ => rfl, fun _ => rfl⟩ (sh_nw (L := L + 2) (sh_nw (L := L + 1) ha)) (by decide) cl_Ro rfl ?_
  refine x_aload_n (dA d_Ro_init 13 rfl) rfl rfl ?_
  refine x_sipush (dA d_Ro_init 14 rfl) (by decide) ?_
  refine y_newaJ (N := 1200) (L := L + 3) (S := S + 100 + 100) (dA d_Ro_init 15 rfl) rfl rfl (by decide) (len_nw (L := L + 2) (len_nw hl)) (slt_nw (L := L + 2) (slt_nw (L := L + 1) hs)) ⟨by omega, by omega⟩ ?_
  refine x_putFR (dA d_Ro_init 16 rfl) p_Ro_22 rfl ⟨fun _ => rfl, fun _ => rfl⟩ (sh_nw (L := L + 3) (sh_nw (L := L + 2) (sh_nw (L := L + 1) ha))) (by decide) cl_Ro rfl ?_
  refine x_aload_n (dA d_Ro_init 17 rfl) rfl rfl ?_
  refine x_iconst (dA d_Ro_init 18 rfl) ?_
  refine y_newaI (N := 4) (L := L + 4) (S := S + 100 + 100 + 1200) (dA d_Ro_init 19 rfl) rfl rfl (by decide) (len_nw (L := L + 3) (len_nw (L := L + 2) (len_nw hl))) (slt_nw (L := L + 3) (slt_nw (L := L + 2) (slt_nw (L := L + 1) hs))) ⟨by omega, by omega⟩ ?_
  refine x_putFR (dA d_Ro_init 20 rfl) p_Ro_25 rfl ⟨fun _ => rfl, fun _ => rfl⟩ (sh_nw (L := L + 4) (sh_nw (L := L + 3) (sh_nw (L := L + 2) (sh_nw (L := L + 1) ha)))) (by decide) cl_Ro rfl ?_
  exact x_return (dA d_Ro_init 21 rfl) rfl hQ
variable {d : Nat} {ls st : List MV} {h : MH} {Q : MO → MH → Prop}
theorem x_rowN {j : Int} (hd : 2 ≤ d) (hm : rmR h) (ha : h.1[96]? = some (111, 8)) (hj : 0 ≤ j ∧ j < 8) (hcat : (st.map catM).sum ≤ 10) (hx : MX d k_Ex_expand 36 ls st (mRow h j.toNat) Q) : MX d k_Ex_expand 28 ls (mI j :: mR 96 :: st) h Q := by
  obtain ⟨m1, m2⟩ := hm
  have e0 : mNew h 9 8 = mNw h h.1.length 9 8 := mNw_eq rfl
  refine x_new (dA d_Ex_expand 15 rfl) n_Ex_11 (by decide) (by omega) (by omega) ?_
  refine x_dup (dA d_Ex_expand 16 rfl) rfl ?_
  rw [e0]
  refine x_dIN (as := []) (rest := mR h.1.length :: mI j :: mR 96 :: st) (k' := k_Ro_init) (dA d_Ex_expand 17 rfl) o_Ro_init rfl rfl rfl lk_Ex_31 im_Ro_init (Nat.le_of_ble_eq_true rfl) hd ?_ (c_Ro_init (S := mSlt h + 8) (sh_nwl rfl) (len_nw rfl) (slt_nw rfl) ⟨m1, by omega⟩) ?_
  · show 1 + (1 + (1 + (st.map catM).sum)) ≤ 16
    omega
  show MX d k_Ex_expand 35 ls (mR h.1.length :: mI j :: mR 96 :: st) (rowH (mNw h h.1.length 9 8) h.1.length) Q
  refine x_aast (t := 111) (dA d_Ex_expand 18 rfl) (sh_nw (L := h.1.length + 4) (sh_nw (L := h.1.length + 3) (sh_nw (L := h.1.length + 2) (sh_nw (L := h.1.length + 1) (sh_nw (L := h.1.length) ha))))) (.inr rfl) (v := h.1.length) (tv := 9) (nv := 8) (sh_nw (L := h.1.length + 4) (sh_nw (L := h.1.length + 3) (sh_nw (L := h.1.length + 2) (sh_nw (L := h.1.length + 1) (sh_nwl (L := h.1.length) rfl))))) (by decide) (r := ("TwoMills$Row", F_Ro, 8)) rfl rfl hj.1 hj.2 (by decide) ?_
  exact hx
theorem Ext.nw {L t n : Nat} (hl : h.1.length = L) : Ext h (mNw h L t n) := by rw [← mNw_eq hl]; exact Ext.new
theorem Ext.pr {a i : Nat} {x : Option Nat} (hn : mGr h a i = none) : Ext h (mPr h a i x) := by
  refine ⟨fun _ _ e => e, fun b j c hb e => ?_, rfl, id⟩
  show (if b = a ∧ j = i then x else mGr h b j) = some c
  split
  · rename_i z
    rw [z.1, z.2, hn] at e
    cases e
  · exact e
theorem Ext.row {j : Nat} (hl : 97 ≤ h.1.length) (hn : mGr h 96 j = none) : Ext h (mRow h j) := by
  unfold mRow rowH
  have hL : ∃ L, h.1.length = L := ⟨_, rfl⟩
  obtain ⟨L, hL⟩ := hL
  rw [hL]
  have hl' : 97 ≤ L := by omega
  have n1 : ¬ 96 = L := by omega
  have n2 : ¬ 96 = L + 1 := by omega
  have n3 : ¬ 96 = L + 2 := by omega
  have n4 : ¬ 96 = L + 3 := by omega
  have n5 : ¬ 96 = L + 4 := by omega
  have hn' : h.2.2.2.1 96 j = none := hn
  refine Ext.tr ?_ (Ext.pr (by simp [mGr, mNw, mPr, mPi, n1, n2, n3, n4, n5, hn']))
  refine Ext.tr ?_ (Ext.pr (by simp [mGr, mNw, mPr, mPi]))
  refine Ext.tr ?_ (Ext.nw (len_nw (L := L + 3) (len_nw (L := L + 2) (len_nw (L := L + 1) (len_nw hL)))))
  refine Ext.tr ?_ (Ext.pr (by simp [mGr, mNw, mPr, mPi]))
  refine Ext.tr ?_ (Ext.nw (len_nw (L := L + 2) (len_nw (L := L + 1) (len_nw hL))))
  refine Ext.tr ?_ (Ext.pr (by simp [mGr, mNw, mPr, mPi]))
  refine Ext.tr ?_ (Ext.nw (len_nw (L := L + 1) (len_nw hL)))
  refine Ext.tr ?_ (Ext.pi (t := 9) (n := 8) (sh_nw (L := L + 1) (sh_nwl hL)) (by decide) (inR_lit 100 rfl))
  refine Ext.tr ?_ (Ext.pr (by simp [mGr, mNw]))
  exact Ext.tr (Ext.nw hL) (Ext.nw (len_nw hL))
theorem RoO.row {j : Nat} (hl : 97 ≤ h.1.length) : RoO (mRow h j) h.1.length ∧ mGr (mRow h j) 96 j = some h.1.length := by
  unfold mRow rowH
  have hL : ∃ L, h.1.length = L := ⟨_, rfl⟩
  obtain ⟨L, hL⟩ := hL
  rw [hL]
  have n1 : ¬ L = 96 := by omega
  refine ⟨⟨?_, ?_, ?_, ?_, ?_, ?_⟩, ?_⟩
  · exact sh_nw (L := L + 4) (sh_nw (L := L + 3) (sh_nw (L := L + 2) (sh_nw (L := L + 1) (sh_nwl hL))))
  · simp [mGr, mNw, mPr, mPi, n1]
  · exact sh_nw (L := L + 4) (sh_nw (L := L + 3) (sh_nw (L := L + 2) (sh_nwl (len_nw hL))))
  · exact sh_nw (L := L + 4) (sh_nw (L := L + 3) (sh_nwl (len_nw (L := L + 1) (len_nw hL))))
  · exact sh_nw (L := L + 4) (sh_nwl (len_nw (L := L + 2) (len_nw (L := L + 1) (len_nw hL))))
  · exact sh_nwl (len_nw (L := L + 3) (len_nw (L := L + 2) (len_nw (L := L + 1) (len_nw hL))))
  · simp [mGr, mPr]
end Row
