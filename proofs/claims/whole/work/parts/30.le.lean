/-! class Letters: its constructor, empty, hasRoomFor, add, at -/
section LeC
variable {h : MH} {a N : Nat}
def hLe (h : MH) (a N : Nat) : MH := mPr (mNew h 101 N) a 0 (some h.1.length)
theorem c_Le_init (ha : h.1[a]? = some (1, 3)) (hN : N ≤ 60000) (hm : h.1.length < mCM) (hs : mSlt h + N ≤ mSM) : CD 1 k_Le_init [mR a, mI (N : Int)] h none (hLe h a N) := by
  intro Q hQ
  refine x_aload_n (dA d_Le_init 0 rfl) rfl rfl ?_
  refine x_objInit (dA d_Le_init 1 rfl) lk_Le_1 oi_im oi_co (by decide) ?_
  refine x_aload_n (dA d_Le_init 2 rfl) rfl rfl ?_
  refine x_iload_n (dA d_Le_init 3 rfl) rfl rfl ?_
  refine x_newaC (N := N) (dA d_Le_init 4 rfl) rfl ac_C rfl (by omega) hm hs ?_
  refine x_putFR (dA d_Le_init 5 rfl) p_Le_7 rfl ⟨fun _ => rfl, fun _ => rfl⟩ (sh_new ha) (by decide) cl_Le rfl ?_
  exact x_return (dA d_Le_init 6 rfl) rfl hQ
end LeC
