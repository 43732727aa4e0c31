/-! the law's entry: both objects are made -/
section Law0
def hE (sc : List Int) : MH := ([], fun _ _ => 0, fun _ _ => 0, fun _ _ => none, sc)
def hT (sc : List Int) : MH := h_T_init (mNw (hE sc) 0 0 5)
def hM (sc : List Int) : MH := h_M_init (mNw (hT sc) 107 12 66)
def hF (sc : List Int) : MH := mNw (hM sc) 149 103 1
theorem hT_len (sc : List Int) : (hT sc).1.length = 107 := len_T_init rfl rfl rfl
theorem hT_slt (sc : List Int) : mSlt (hT sc) = 5818 := slt_T_init rfl rfl rfl
theorem hM_len (sc : List Int) : (hM sc).1.length = 149 := len_M_init (sh_nwl (hT_len sc)) (len_nw (hT_len sc)) (slt_nw (hT_slt sc))
theorem hM_slt (sc : List Int) : mSlt (hM sc) = 24655 := slt_M_init (sh_nwl (hT_len sc)) (len_nw (hT_len sc)) (slt_nw (hT_slt sc))
theorem hF_len (sc : List Int) : (hF sc).1.length = 150 := len_nw (hM_len sc)
theorem hF_slt (sc : List Int) : mSlt (hF sc) = 24656 := slt_nw (hM_slt sc)
theorem law_entry {sc : List Int} {Q : MO → MH → Prop} (hx : MX 100 k_La_law 23 [mS 200, mR 0, mR 107, mR 149, mI 0, mN, mN] [] (hF sc) Q) : MX 100 k_La_law 0 [mS 200, mN, mN, mN, mN, mN, mN] [] ([], fun _ _ => 0, fun _ _ => 0, fun _ _ => none, sc) Q := by
  refine y_new (L := 0) (S := 0) (dA d_La_law 0 rfl) n_La_8 (by decide) rfl rfl (by decide) ?_
  refine x_dup (dA d_La_law 1 rfl) rfl ?_
  refine x_dI (as := []) (rest := [mR 0]) (k' := k_T_init) (dA d_La_law 2 rfl) o_T_init rfl rfl rfl lk_La_26 im_T_init (Nat.le_of_ble_eq_true rfl) (show 4 + 1 ≤ 100 by decide) (Nat.le_of_ble_eq_true rfl) (c_T_init rfl rfl rfl) ?_
  refine x_astore_n (dA d_La_law 3 rfl) rfl (by decide) rfl ?_
  refine y_new (L := 107) (S := 5818) (dA d_La_law 4 rfl) n_La_27 (by decide) (hT_len sc) (hT_slt sc) (by decide) ?_
  refine x_dup (dA d_La_law 5 rfl) rfl ?_
  refine x_dI (as := []) (rest := [mR 107]) (k' := k_M_init) (dA d_La_law 6 rfl) o_M_init rfl rfl rfl lk_La_29 im_M_init (Nat.le_of_ble_eq_true rfl) (show 1 + 1 ≤ 100 by decide) (Nat.le_of_ble_eq_true rfl) (c_M_init (sh_nwl (hT_len sc)) (len_nw (hT_len sc)) (slt_nw (hT_slt sc))) ?_
  refine x_astore_n (dA d_La_law 7 rfl) rfl (by decide) rfl ?_
  refine x_iconst (dA d_La_law 8 rfl) ?_
  refine y_newaJ (N := 1) (L := 149) (S := 24655) (dA d_La_law 9 rfl) rfl rfl (by decide) (hM_len sc) (hM_slt sc) (by decide) ?_
  refine x_astore_n (dA d_La_law 10 rfl) rfl (by decide) rfl ?_
  refine x_iconst (dA d_La_law 11 rfl) ?_
  refine x_istore (dA d_La_law 12 rfl) (by decide) rfl ?_
  exact hx
theorem f1_nw {h : MH} {L t n : Nat} : (mNw h L t n).1 = h.1 ++ [(t, n)] := rfl
theorem f1_pr {h : MH} {a i : Nat} {x : Option Nat} : (mPr h a i x).1 = h.1 := rfl
theorem f1_pi {h : MH} {a i : Nat} {x : Int} : (mPi h a i x).1 = h.1 := rfl
theorem f1_pl {h : MH} {a i : Nat} {x : Int64} : (mPl h a i x).1 = h.1 := rfl
theorem hE_1 {sc : List Int} : (hE sc).1 = [] := rfl
set_option maxRecDepth 200000 in
theorem hF_sh (sc : List Int) : (hF sc).1 = shpL := by
  simp only [hF, hM, hT, h_M_init, h_T_init, h_Sm_init, h_Es_init, h_Ex_init, h_Na_init, h_To_init, h_Fm_init, h_Ar_init, h_In_init, h_De_init, h_De0, deGo, deSt, f1_nw, f1_pr, f1_pi, hE_1]
  decide +kernel
set_option maxRecDepth 200000 in
theorem hF_rf (sc : List Int) : (refL.map fun q => mGr (hF sc) q.1 q.2.1) = refL.map fun q => some q.2.2 := rfl
/-- ints are small -/
def Bz (h : MH) : Prop := ∀ a i, (-1 ≤ mGi h a i ∧ mGi h a i ≤ 500) ∧ (a ≠ 77 → 0 ≤ mGi h a i)
theorem Bz.nw {h : MH} {L t n : Nat} (z : Bz h) : Bz (mNw h L t n) := by
  intro a i
  rw [gi_nwL]
  split
  · exact ⟨by omega, fun _ => by omega⟩
  · exact z a i
theorem Bz.pr {h : MH} {a i : Nat} {x : Option Nat} (z : Bz h) : Bz (mPr h a i x) := z
theorem Bz.pi {h : MH} {a i : Nat} {x : Int} (z : Bz h) (hx : (-1 ≤ x ∧ x ≤ 500) ∧ (a ≠ 77 → 0 ≤ x)) : Bz (mPi h a i x) := by
  intro b j
  rw [gi_pi]
  split
  · rename_i q
    rw [q.1]; exact hx
  · exact z b j
theorem Bz.de : ∀ (n k : Nat) (h : MH), Bz h → n + k ≤ 400 → Bz (deGo n k h)
  | 0, _, _, z, _ => z
  | n + 1, k, h, z, hk => by
    refine Bz.de n (k + 1) _ ?_ (by omega)
    exact Bz.pi (Bz.pr (Bz.pr (Bz.nw (Bz.nw (Bz.pr (Bz.pr (Bz.nw (Bz.nw z)))))))) ⟨⟨by omega, by omega⟩, fun _ => by omega⟩
theorem hF_B (sc : List Int) : Bz (hF sc) := by
  unfold hF hM h_M_init
  repeat (first | refine Bz.nw ?_ | refine Bz.pr ?_)
  refine Bz.pi ?_ ⟨by decide, fun q => absurd rfl q⟩
  repeat (first | refine Bz.nw ?_ | refine Bz.pr ?_)
  refine Bz.pi ?_ ⟨by decide, by decide⟩
  repeat (first | refine Bz.nw ?_ | refine Bz.pr ?_)
  unfold h_De_init
  refine Bz.de 16 0 _ ?_ (by decide)
  unfold h_De0
  repeat (first | refine Bz.nw ?_ | refine Bz.pr ?_)
  exact fun a i => ⟨⟨(by decide : (-1 : Int) ≤ 0), (by decide : (0 : Int) ≤ 500)⟩, fun _ => (by decide : (0 : Int) ≤ 0)⟩
set_option maxRecDepth 200000 in
theorem hF_lay {sc : List Int} (hs : ∀ x ∈ sc, inR x) : LayC (hF sc) := by
  refine ⟨fun a x z => by rw [hF_sh]; exact z, fun q hq => ?_, ⟨fun a i => ?_, fun a n i ha => ?_⟩, hs⟩
  · obtain ⟨j, hj⟩ := List.getElem?_of_mem hq
    have z := congrArg (fun l => l[j]?) (hF_rf sc)
    simp only [List.getElem?_map, hj, Option.map_some] at z
    exact Option.some.inj z
  · have z := (hF_B sc a i).1; exact ⟨by omega, by omega⟩
  · have z := hF_B sc a i
    have h77 : a ≠ 77 := fun q => by
      rw [hF_sh, q] at ha
      cases ha
    exact ⟨z.2 h77, by omega⟩
end Law0
