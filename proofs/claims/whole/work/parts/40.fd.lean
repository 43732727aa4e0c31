section Fns
/-! TwoMills$Expander.replace(ILTwoMills$Row;II)V -/
noncomputable def F_Ex_replace_18 (X : Int → Nat → Nat → Int → Int → MH → RS Nat) (v1 : Int) (v2 : Nat) (v3 : Int) (v4 : Int) (h : MH) : RS Unit := gd (inR ((mGi h 95 3) + (1 : Int))) (sto (mPi h 95 3 ((mGi h 95 3) + (1 : Int))) fun h2 => gd (0 ≤ (mGi h2 v2 1) ∧ (mGi h2 v2 1) < 100) (bnd (F_To_hides (mGl h2 (v2 + 1) (mGi h2 v2 1).toNat) h2) fun x8 h6 => gd (0 ≤ v4 ∧ v4 < 100) (bnd (F_To_hides (mGl h6 (v2 + 1) v4.toNat) h6) fun x14 h12 => bnd (F_Ex_substitute X v1 v2 v3 h12) fun x19 h17 => bnd (F_To_joinAll (v2 + 3) 1200 (mGi h17 v2 5) h17) fun x24 h22 => sto (mPi h22 v2 5 x24) fun h27 => bnd (F_Ex_hide v2 (iOr (iAnd x8 x14) (iShl (1 : Int) v3)) h27) fun x32 h30 => bnd (F_Ro_comeIn v2 v4 h30) fun x37 h35 => if x37 = 0 then bnd (F_To_fail (1 : Int) h35) fun x43 h41 => some (.inl (), h41) else some (.inl (), h35))))
theorem S_Ex_replace_18 {d dX : Nat} (hd : dX + 8 ≤ d) {X : Int → Nat → Nat → Int → Int → MH → RS Nat} (hX : ∀ (a1 : Int) (a2 a2n : Nat) (a3 a4 : Int) (h : MH), LayC h → inR a1 → ArO h a2 103 a2n → inR a3 → inR a4 → OK dX k_Ex_expand 0 [mR 95, mI a1, mR a2, mI a3, mI a4, mN, mN] [] h cA pT (X a1 a2 a2n a3 a4 h)) {v1 : Int} {v2 : Nat} {v3 : Int} {v4 : Int} {h : MH} (L : LayC h) (rv1 : inR v1) (ov2 : RoO h v2) (rv3 : inR v3) (rv4 : inR v4) : OK d k_Ex_replace 18 [mR 95, mI v1, mR v2, mI v3, mI v4, mN] [] h cV pT (F_Ex_replace_18 X  v1 v2 v3 v4 h) := by
  unfold F_Ex_replace_18
  refine z_go (fun Q hq => x_aload_n (dA d_Ex_replace 8 rfl) rfl rfl (x_dup (dA d_Ex_replace 9 rfl) rfl (x_getI (dA d_Ex_replace 10 rfl) f_Ex_91 (L.sh (x := (4, 4)) rfl) (by decide) (by decide) rfl (x_iconst (dA d_Ex_replace 11 rfl) hq)))) ?_
  refine z_gd (fun g1 => ?_)
  refine z_go (fun Q hq => x_iadd (dA d_Ex_replace 12 rfl) hq) ?_
  refine z_sto (Ext.pi (L.sh (x := (4, 4)) rfl) (by decide) g1) (fun Q hq => x_putI (dA d_Ex_replace 13 rfl) p_Ex_91 (L.sh (x := (4, 4)) rfl) (by decide) cl_Ex rfl hq) (fun h2 e3 => ?_)
  have L4 := L.ext e3
  refine z_go (fun Q hq => x_aload_n (dA d_Ex_replace 14 rfl) rfl rfl (x_getR (dA d_Ex_replace 15 rfl) f_Ex_94 (ov2.ext e3).1 (by decide) (by decide) rfl (ov2.ext e3).2.1.1 (x_aload_n (dA d_Ex_replace 16 rfl) rfl rfl (x_getI (dA d_Ex_replace 17 rfl) f_Ex_36 (ov2.ext e3).1 (by decide) (by decide) rfl hq)))) ?_
  refine z_gd (fun g5 => ?_)
  refine z_go (fun Q hq => x_lald (dA d_Ex_replace 18 rfl) (show ArO _ _ _ _ from ⟨(ov2.ext e3).2.2.1, by decide⟩).1 g5.1 g5.2 (show ArO _ _ _ _ from ⟨(ov2.ext e3).2.2.1, by decide⟩).2 hq) ?_
  refine z_bnd (rest := []) (st1 := fun v => mI v :: []) (S_To_hides (d := 0) (Nat.le_refl _) L4 ) (fun _ hx => absurd hx List.not_mem_nil) (fun _ => rfl) (fun Q' Q => x_callS (as := [mL (mGl h2 (v2 + 1) (mGi h2 v2 1).toNat)]) (rest := []) (k' := k_To_hides) (dA d_Ex_replace 19 rfl) o_To_hides lk_Ex_58 st_To_hides (Nat.le_of_ble_eq_true rfl) (by omega) (Nat.le_of_ble_eq_true rfl)) (fun x8 h6 e7 p9 => ?_)
  have L10 := L4.ext e7
  refine z_go (fun Q hq => x_aload_n (dA d_Ex_replace 20 rfl) rfl rfl (x_getR (dA d_Ex_replace 21 rfl) f_Ex_94 ((ov2.ext e3).ext e7).1 (by decide) (by decide) rfl ((ov2.ext e3).ext e7).2.1.1 (x_iload (dA d_Ex_replace 22 rfl) rfl hq))) ?_
  refine z_gd (fun g11 => ?_)
  refine z_go (fun Q hq => x_lald (dA d_Ex_replace 23 rfl) (show ArO _ _ _ _ from ⟨((ov2.ext e3).ext e7).2.2.1, by decide⟩).1 g11.1 g11.2 (show ArO _ _ _ _ from ⟨((ov2.ext e3).ext e7).2.2.1, by decide⟩).2 hq) ?_
  refine z_bnd (rest := [mI x8]) (st1 := fun v => mI v :: [mI x8]) (S_To_hides (d := 0) (Nat.le_refl _) L10 ) (fun _ hx => absurd hx List.not_mem_nil) (fun _ => rfl) (fun Q' Q => x_callS (as := [mL (mGl h6 (v2 + 1) v4.toNat)]) (rest := [mI x8]) (k' := k_To_hides) (dA d_Ex_replace 24 rfl) o_To_hides lk_Ex_58 st_To_hides (Nat.le_of_ble_eq_true rfl) (by omega) (Nat.le_of_ble_eq_true rfl)) (fun x14 h12 e13 p15 => ?_)
  have L16 := L10.ext e13
  refine z_go (fun Q hq => x_andI (dA d_Ex_replace 25 rfl) (x_istore (dA d_Ex_replace 26 rfl) (by decide) rfl (x_aload_n (dA d_Ex_replace 27 rfl) rfl rfl (x_iload_n (dA d_Ex_replace 28 rfl) rfl rfl (x_aload_n (dA d_Ex_replace 29 rfl) rfl rfl (x_iload_n (dA d_Ex_replace 30 rfl) rfl rfl hq)))))) ?_
  refine z_bnd (rest := []) (st1 := fun _ => []) (S_Ex_substitute (d := dX + 7) (Nat.le_refl _) hX L16 rv1 (((ov2.ext e3).ext e7).ext e13) rv3) (fun _ hx => absurd hx List.not_mem_nil) (fun _ => rfl) (fun Q' Q => x_callV (as := [mI v1, mR v2, mI v3]) (rest := []) (k' := k_Ex_substitute) (dA d_Ex_replace 31 rfl) o_Ex_substitute lk_Ex_98 im_Ex_substitute se_Ex_substitute rfl (L16.sh (x := (4, 4)) rfl) (by decide) (Nat.le_of_ble_eq_true rfl) (by omega) (Nat.le_of_ble_eq_true rfl)) (fun x19 h17 e18 p20 => ?_)
  have L21 := L16.ext e18
  refine z_go (fun Q hq => x_aload_n (dA d_Ex_replace 32 rfl) rfl rfl (x_aload_n (dA d_Ex_replace 33 rfl) rfl rfl (x_getR (dA d_Ex_replace 34 rfl) f_Ex_17 (L21.sh (x := (4, 4)) rfl) (by decide) (by decide) rfl (L21.rf 101 rfl) (x_aload_n (dA d_Ex_replace 35 rfl) rfl rfl (x_getR (dA d_Ex_replace 36 rfl) f_Ex_102 ((((ov2.ext e3).ext e7).ext e13).ext e18).1 (by decide) (by decide) rfl ((((ov2.ext e3).ext e7).ext e13).ext e18).2.1.2.2.1 (x_aload_n (dA d_Ex_replace 37 rfl) rfl rfl (x_getI (dA d_Ex_replace 38 rfl) f_Ex_105 ((((ov2.ext e3).ext e7).ext e13).ext e18).1 (by decide) (by decide) rfl hq))))))) ?_
  refine z_bnd (rest := [mR v2]) (st1 := fun v => mI v :: [mR v2]) (S_To_joinAll (d := 2) (Nat.le_refl _) L21 (show ArO _ _ _ _ from ⟨((((ov2.ext e3).ext e7).ext e13).ext e18).2.2.2.2.1, by decide⟩) (L21.rg _ _)) (fun _ hx => absurd hx List.not_mem_nil) (fun _ => rfl) (fun Q' Q => x_callV (as := [mR (v2 + 3), mI (mGi h17 v2 5)]) (rest := [mR v2]) (k' := k_To_joinAll) (dA d_Ex_replace 39 rfl) o_To_joinAll lk_Ex_108 im_To_joinAll se_To_joinAll rfl (L21.sh (x := (11, 3)) rfl) (by decide) (Nat.le_of_ble_eq_true rfl) (by omega) (Nat.le_of_ble_eq_true rfl)) (fun x24 h22 e23 p25 => ?_)
  have L26 := L21.ext e23
  refine z_sto (Ext.pi (((((ov2.ext e3).ext e7).ext e13).ext e18).ext e23).1 (by decide) p25) (fun Q hq => x_putI (dA d_Ex_replace 40 rfl) p_Ex_105 (((((ov2.ext e3).ext e7).ext e13).ext e18).ext e23).1 (by decide) cl_Ro rfl hq) (fun h27 e28 => ?_)
  have L29 := L26.ext e28
  refine z_go (fun Q hq => x_aload_n (dA d_Ex_replace 41 rfl) rfl rfl (x_aload_n (dA d_Ex_replace 42 rfl) rfl rfl (x_iload (dA d_Ex_replace 43 rfl) rfl (x_iconst (dA d_Ex_replace 44 rfl) (x_iload_n (dA d_Ex_replace 45 rfl) rfl rfl (x_shlI (dA d_Ex_replace 46 rfl) (x_orI (dA d_Ex_replace 47 rfl) hq))))))) ?_
  refine z_bnd (rest := []) (st1 := fun _ => []) (S_Ex_hide (d := 1) (Nat.le_refl _) L29 ((((((ov2.ext e3).ext e7).ext e13).ext e18).ext e23).ext e28) (inR_or _ _)) (fun _ hx => absurd hx List.not_mem_nil) (fun _ => rfl) (fun Q' Q => x_callV (as := [mR v2, mI (iOr (iAnd x8 x14) (iShl (1 : Int) v3))]) (rest := []) (k' := k_Ex_hide) (dA d_Ex_replace 48 rfl) o_Ex_hide lk_Ex_112 im_Ex_hide se_Ex_hide rfl (L29.sh (x := (4, 4)) rfl) (by decide) (Nat.le_of_ble_eq_true rfl) (by omega) (Nat.le_of_ble_eq_true rfl)) (fun x32 h30 e31 p33 => ?_)
  have L34 := L29.ext e31
  refine z_go (fun Q hq => x_aload_n (dA d_Ex_replace 49 rfl) rfl rfl (x_iload (dA d_Ex_replace 50 rfl) rfl hq)) ?_
  refine z_bnd (rest := []) (st1 := fun v => mI v :: []) (S_Ro_comeIn (d := 0) (Nat.le_refl _) L34 (((((((ov2.ext e3).ext e7).ext e13).ext e18).ext e23).ext e28).ext e31) rv4) (fun _ hx => absurd hx List.not_mem_nil) (fun _ => rfl) (fun Q' Q => x_callV (as := [mI v4]) (rest := []) (k' := k_Ro_comeIn) (dA d_Ex_replace 51 rfl) o_Ro_comeIn lk_Ex_116 im_Ro_comeIn se_Ro_comeIn rfl (((((((ov2.ext e3).ext e7).ext e13).ext e18).ext e23).ext e28).ext e31).1 (by decide) (Nat.le_of_ble_eq_true rfl) (by omega) (Nat.le_of_ble_eq_true rfl)) (fun x37 h35 e36 p38 => ?_)
  have L39 := L34.ext e36
  refine z_brn (fun Q => x_if_ne (dA d_Ex_replace 52 rfl) rfl p38.inR) (fun c40 => ?_) (fun c40 => ?_)
  · refine z_go (fun Q hq => x_aload_n (dA d_Ex_replace 53 rfl) rfl rfl (x_getR (dA d_Ex_replace 54 rfl) f_Ex_17 (L39.sh (x := (4, 4)) rfl) (by decide) (by decide) rfl (L39.rf 101 rfl) (x_iconst (dA d_Ex_replace 55 rfl) hq))) ?_
    refine z_bnd (rest := []) (st1 := fun _ => []) (S_To_fail (d := 0) (Nat.le_refl _) L39 (inR_lit (1 : Int) rfl)) (fun _ hx => absurd hx List.not_mem_nil) (fun _ => rfl) (fun Q' Q => x_callV (as := [mI (1 : Int)]) (rest := []) (k' := k_To_fail) (dA d_Ex_replace 56 rfl) o_To_fail lk_Ex_25 im_To_fail se_To_fail rfl (L39.sh (x := (11, 3)) rfl) (by decide) (Nat.le_of_ble_eq_true rfl) (by omega) (Nat.le_of_ble_eq_true rfl)) (fun x43 h41 e42 p44 => ?_)
    have L45 := L39.ext e42
    exact z_retv (dA d_Ex_replace 57 rfl) rfl
  · exact z_retv (dA d_Ex_replace 57 rfl) rfl
noncomputable def F_Ex_replace (X : Int → Nat → Nat → Int → Int → MH → RS Nat) (a1 : Int) (a2 : Nat) (a3 : Int) (a4 : Int) (h : MH) : RS Unit := if (mGi h 95 3) < (400 : Int) then F_Ex_replace_18 X a1 a2 a3 a4 h else bnd (F_To_fail (2 : Int) h) fun x49 h47 => F_Ex_replace_18 X a1 a2 a3 a4 h47
theorem S_Ex_replace {d dX : Nat} (hd : dX + 8 ≤ d) {X : Int → Nat → Nat → Int → Int → MH → RS Nat} (hX : ∀ (a1 : Int) (a2 a2n : Nat) (a3 a4 : Int) (h : MH), LayC h → inR a1 → ArO h a2 103 a2n → inR a3 → inR a4 → OK dX k_Ex_expand 0 [mR 95, mI a1, mR a2, mI a3, mI a4, mN, mN] [] h cA pT (X a1 a2 a2n a3 a4 h)) {a1 : Int} {a2 : Nat} {a3 : Int} {a4 : Int} {h : MH} (L : LayC h) (ra1 : inR a1) (oa2 : RoO h a2) (ra3 : inR a3) (ra4 : inR a4) : OK d k_Ex_replace 0 [mR 95, mI a1, mR a2, mI a3, mI a4, mN] [] h cV pT (F_Ex_replace X  a1 a2 a3 a4 h) := by
  unfold F_Ex_replace
  refine z_go (fun Q hq => x_aload_n (dA d_Ex_replace 0 rfl) rfl rfl (x_getI (dA d_Ex_replace 1 rfl) f_Ex_91 (L.sh (x := (4, 4)) rfl) (by decide) (by decide) rfl (x_sipush (dA d_Ex_replace 2 rfl) (by decide) hq))) ?_
  refine z_br (fun Q => x_icmp_lt (dA d_Ex_replace 3 rfl) rfl (L.rg _ _) (inR_lit (400 : Int) rfl)) (fun c46 => ?_) (fun c46 => ?_)
  · exact S_Ex_replace_18 hd hX  L ra1 oa2 ra3 ra4
  · refine z_go (fun Q hq => x_aload_n (dA d_Ex_replace 4 rfl) rfl rfl (x_getR (dA d_Ex_replace 5 rfl) f_Ex_17 (L.sh (x := (4, 4)) rfl) (by decide) (by decide) rfl (L.rf 101 rfl) (x_iconst (dA d_Ex_replace 6 rfl) hq))) ?_
    refine z_bnd (rest := []) (st1 := fun _ => []) (S_To_fail (d := 0) (Nat.le_refl _) L (inR_lit (2 : Int) rfl)) (fun _ hx => absurd hx List.not_mem_nil) (fun _ => rfl) (fun Q' Q => x_callV (as := [mI (2 : Int)]) (rest := []) (k' := k_To_fail) (dA d_Ex_replace 7 rfl) o_To_fail lk_Ex_25 im_To_fail se_To_fail rfl (L.sh (x := (11, 3)) rfl) (by decide) (Nat.le_of_ble_eq_true rfl) (by omega) (Nat.le_of_ble_eq_true rfl)) (fun x49 h47 e48 p50 => ?_)
    have L51 := L.ext e48
    exact S_Ex_replace_18 hd hX  L51 ra1 (oa2.ext e48) ra3 ra4
/-! TwoMills$Names.find(LTwoMills$Tokens;J)I -/
noncomputable def F_Na_find_40 (G3 : Int64 → Int → MH → RS Int) (v2 : Int64) (v4 : Int) (h : MH) : RS Int := gd (inR (v4 + (1 : Int))) (G3 v2 (v4 + (1 : Int)) h)
theorem S_Na_find_40 {d : Nat} (hd : 2 ≤ d) {G3 : Int64 → Int → MH → RS Int} (hG3 : ∀ (v2 : Int64) (v4 : Int) (h : MH), LayC h → inR v4 → OK d k_Na_find 3 [mR 89, mR 87, mL v2, mN, mI v4] [] h cI inR (G3 v2 v4 h)) {v2 : Int64} {v4 : Int} {h : MH} (L : LayC h) (rv4 : inR v4) : OK d k_Na_find 40 [mR 89, mR 87, mL v2, mN, mI v4] [] h cI inR (F_Na_find_40 G3 v2 v4 h) := by
  unfold F_Na_find_40
  refine z_gd (fun g1 => ?_)
  refine z_go (fun Q hq => x_iinc (dA d_Na_find 22 rfl) rfl (by decide) rfl (x_goto (dA d_Na_find 23 rfl) rfl hq)) ?_
  exact hG3 v2 (v4 + (1 : Int)) h L g1
noncomputable def F_Na_find_3_b (G3 : Int64 → Int → MH → RS Int) (v2 : Int64) (v4 : Int) (h : MH) : RS Int := if (8 : Int) ≤ v4 then some (.inl (-1 : Int), h) else gd (0 ≤ v4 ∧ v4 < 8) (if (lgI (mGl h 90 v4.toNat) (0 : Int64)) = 0 then F_Na_find_40 G3 v2 v4 h else bnd (F_To_same (mGl h 90 v4.toNat) v2 h) fun x7 h5 => if x7 = 0 then F_Na_find_40 G3 v2 v4 h5 else some (.inl v4, h5))
theorem S_Na_find_3_b {d : Nat} (hd : 2 ≤ d) {G3 : Int64 → Int → MH → RS Int} (hG3 : ∀ (v2 : Int64) (v4 : Int) (h : MH), LayC h → inR v4 → OK d k_Na_find 3 [mR 89, mR 87, mL v2, mN, mI v4] [] h cI inR (G3 v2 v4 h)) {v2 : Int64} {v4 : Int} {h : MH} (L : LayC h) (rv4 : inR v4) : OK d k_Na_find 3 [mR 89, mR 87, mL v2, mN, mI v4] [] h cI inR (F_Na_find_3_b G3 v2 v4 h) := by
  unfold F_Na_find_3_b
  refine z_go (fun Q hq => x_iload (dA d_Na_find 2 rfl) rfl (x_bipush (dA d_Na_find 3 rfl) (by decide) hq)) ?_
  refine z_br (fun Q => x_icmp_ge (dA d_Na_find 4 rfl) rfl rv4 (inR_lit (8 : Int) rfl)) (fun c2 => ?_) (fun c2 => ?_)
  · refine z_go (fun Q hq => x_iconst (dA d_Na_find 24 rfl) hq) ?_
    exact z_reti (dA d_Na_find 25 rfl) rfl (inR_lit (-1 : Int) rfl)
  · refine z_go (fun Q hq => x_aload_n (dA d_Na_find 5 rfl) rfl rfl (x_getR (dA d_Na_find 6 rfl) f_Na_9 (L.sh (x := (8, 5)) rfl) (by decide) (by decide) rfl (L.rf 96 rfl) (x_iload (dA d_Na_find 7 rfl) rfl hq))) ?_
    refine z_gd (fun g3 => ?_)
    refine z_go (fun Q hq => x_lald (dA d_Na_find 8 rfl) (L.sh (x := (103, 8)) rfl) g3.1 g3.2 (by decide) (x_lconst (v := 0) (dA d_Na_find 9 rfl) rfl (x_lcmp (dA d_Na_find 10 rfl) hq))) ?_
    refine z_br (fun Q => x_if_eq (dA d_Na_find 11 rfl) rfl (inR_lgI _ _)) (fun c4 => ?_) (fun c4 => ?_)
    · exact S_Na_find_40 hd hG3 L rv4
    · refine z_go (fun Q hq => x_aload_n (dA d_Na_find 12 rfl) rfl rfl (x_aload_n (dA d_Na_find 13 rfl) rfl rfl (x_getR (dA d_Na_find 14 rfl) f_Na_9 (L.sh (x := (8, 5)) rfl) (by decide) (by decide) rfl (L.rf 96 rfl) (x_iload (dA d_Na_find 15 rfl) rfl (x_lald (dA d_Na_find 16 rfl) (L.sh (x := (103, 8)) rfl) g3.1 g3.2 (by decide) (x_lload_n (dA d_Na_find 17 rfl) rfl rfl hq)))))) ?_
      refine z_bnd (rest := []) (st1 := fun v => mI v :: []) (S_To_same (d := 1) (Nat.le_refl _) L ) (fun _ hx => absurd hx List.not_mem_nil) (fun _ => rfl) (fun Q' Q => x_callV (as := [mL (mGl h 90 v4.toNat), mL v2]) (rest := []) (k' := k_To_same) (dA d_Na_find 18 rfl) o_To_same lk_Na_28 im_To_same se_To_same rfl (L.sh (x := (11, 3)) rfl) (by decide) (Nat.le_of_ble_eq_true rfl) (Nat.le_trans (Nat.le_of_ble_eq_true rfl) hd) (Nat.le_of_ble_eq_true rfl)) (fun x7 h5 e6 p8 => ?_)
      have L9 := L.ext e6
      refine z_br (fun Q => x_if_eq (dA d_Na_find 19 rfl) rfl p8.inR) (fun c10 => ?_) (fun c10 => ?_)
      · exact S_Na_find_40 hd hG3 L9 rv4
      · refine z_go (fun Q hq => x_iload (dA d_Na_find 20 rfl) rfl hq) ?_
        exact z_reti (dA d_Na_find 21 rfl) rfl rv4
noncomputable def F_Na_find_3 (v2 : Int64) (v4 : Int) (h : MH) : RS Int := itr (fun self (q : Int64 × Int × MH) => F_Na_find_3_b (fun v2 v4 h => self (v2, v4, h)) q.1 q.2.1 q.2.2) FU (v2, v4, h)
theorem S_Na_find_3 {d : Nat} (hd : 2 ≤ d) {v2 : Int64} {v4 : Int} {h : MH} (L : LayC h) (rv4 : inR v4) : OK d k_Na_find 3 [mR 89, mR 87, mL v2, mN, mI v4] [] h cI inR (F_Na_find_3  v2 v4 h) := by
  unfold F_Na_find_3
  refine z_itr (P := fun q : Int64 × Int × MH => LayC q.2.2 ∧ inR q.2.1 ∧ True) (ls := fun q : Int64 × Int × MH => [mR 89, mR 87, mL q.1, mN, mI q.2.1]) (hp := fun q : Int64 × Int × MH => q.2.2) (fun self hs q hq => ?_) FU (v2, v4, h) ⟨L, rv4, trivial⟩
  exact S_Na_find_3_b hd (fun v2 v4 h L rv4 => hs (v2, v4, h) ⟨L, rv4, trivial⟩) hq.1 hq.2.1
noncomputable def F_Na_find (a2 : Int64) (h : MH) : RS Int := F_Na_find_3 a2 (0 : Int) h
theorem S_Na_find {d : Nat} (hd : 2 ≤ d) {a2 : Int64} {h : MH} (L : LayC h) : OK d k_Na_find 0 [mR 89, mR 87, mL a2, mN, mN] [] h cI inR (F_Na_find  a2 h) := by
  unfold F_Na_find
  refine z_go (fun Q hq => x_iconst (dA d_Na_find 0 rfl) (x_istore (dA d_Na_find 1 rfl) (by decide) rfl hq)) ?_
  exact S_Na_find_3 hd  L (inR_lit (0 : Int) rfl)
/-! TwoMills$Row.cutArguments(LTwoMills$Tokens;)I -/
noncomputable def F_Ro_cutArguments_150 (G26 : Nat → Int → Int → MH → RS Int) (v0 : Nat) (v2 : Int) (v3 : Int) (h : MH) : RS Int := gd (inR (v3 + (1 : Int))) (G26 v0 v2 (v3 + (1 : Int)) h)
theorem S_Ro_cutArguments_150 {d : Nat} (hd : 2 ≤ d) {G26 : Nat → Int → Int → MH → RS Int} (hG26 : ∀ (v0 : Nat) (v2 : Int) (v3 : Int) (h : MH), LayC h → RoO h v0 → inR v2 → inR v3 → OK d k_Ro_cutArguments 26 [mR v0, mR 87, mI v2, mI v3, mN] [] h cI inR (G26 v0 v2 v3 h)) {v0 : Nat} {v2 : Int} {v3 : Int} {h : MH} (L : LayC h) (ov0 : RoO h v0) (rv2 : inR v2) (rv3 : inR v3) : OK d k_Ro_cutArguments 150 [mR v0, mR 87, mI v2, mI v3, mN] [] h cI inR (F_Ro_cutArguments_150 G26 v0 v2 v3 h) := by
  unfold F_Ro_cutArguments_150
  refine z_gd (fun g1 => ?_)
  refine z_go (fun Q hq => x_iinc (dA d_Ro_cutArguments 86 rfl) rfl (by decide) rfl (x_goto (dA d_Ro_cutArguments 87 rfl) rfl hq)) ?_
  exact hG26 v0 v2 (v3 + (1 : Int)) h L ov0 rv2 g1
noncomputable def F_Ro_cutArguments_139 (G26 : Nat → Int → Int → MH → RS Int) (v0 : Nat) (v2 : Int) (v3 : Int) (v4 : Int) (h : MH) : RS Int := if v4 = 0 then F_Ro_cutArguments_150 G26 v0 v2 v3 h else if v2 = 0 then some (.inl v3, h) else F_Ro_cutArguments_150 G26 v0 v2 v3 h
theorem S_Ro_cutArguments_139 {d : Nat} (hd : 2 ≤ d) {G26 : Nat → Int → Int → MH → RS Int} (hG26 : ∀ (v0 : Nat) (v2 : Int) (v3 : Int) (h : MH), LayC h → RoO h v0 → inR v2 → inR v3 → OK d k_Ro_cutArguments 26 [mR v0, mR 87, mI v2, mI v3, mN] [] h cI inR (G26 v0 v2 v3 h)) {v0 : Nat} {v2 : Int} {v3 : Int} {v4 : Int} {h : MH} (L : LayC h) (ov0 : RoO h v0) (rv2 : inR v2) (rv3 : inR v3) (rv4 : inR v4) : OK d k_Ro_cutArguments 139 [mR v0, mR 87, mI v2, mI v3, mI v4] [] h cI inR (F_Ro_cutArguments_139 G26 v0 v2 v3 v4 h) := by
  unfold F_Ro_cutArguments_139
  refine z_go (fun Q hq => x_iload (dA d_Ro_cutArguments 80 rfl) rfl hq) ?_
  refine z_br (fun Q => x_if_eq (dA d_Ro_cutArguments 81 rfl) rfl rv4) (fun c2 => ?_) (fun c2 => ?_)
  · refine z_fgt (ls' := [mR v0, mR 87, mI v2, mI v3, mN]) ⟨.inr rfl, .inr rfl, .inr rfl, .inr rfl, .inl rfl, trivial⟩ ?_
    exact S_Ro_cutArguments_150 hd hG26 L ov0 rv2 rv3
  · refine z_go (fun Q hq => x_iload_n (dA d_Ro_cutArguments 82 rfl) rfl rfl hq) ?_
    refine z_brn (fun Q => x_if_ne (dA d_Ro_cutArguments 83 rfl) rfl rv2) (fun c3 => ?_) (fun c3 => ?_)
    · refine z_go (fun Q hq => x_iload_n (dA d_Ro_cutArguments 84 rfl) rfl rfl hq) ?_
      exact z_reti (dA d_Ro_cutArguments 85 rfl) rfl rv3
    · refine z_fgt (ls' := [mR v0, mR 87, mI v2, mI v3, mN]) ⟨.inr rfl, .inr rfl, .inr rfl, .inr rfl, .inl rfl, trivial⟩ ?_
      exact S_Ro_cutArguments_150 hd hG26 L ov0 rv2 rv3
noncomputable def F_Ro_cutArguments_107 (G26 : Nat → Int → Int → MH → RS Int) (v0 : Nat) (v2 : Int) (v3 : Int) (v4 : Int) (h : MH) : RS Int := gd (inR ((mGi h v0 7) + (1 : Int))) (sto (mPi h v0 7 ((mGi h v0 7) + (1 : Int))) fun h5 => if ((4 : Nat) : Int) ≤ (mGi h5 v0 7) then F_Ro_cutArguments_139 G26 v0 v2 v3 v4 h5 else gd (0 ≤ (mGi h5 v0 7) ∧ (mGi h5 v0 7) < 4) (sto (mPi h5 (v0 + 4) (mGi h5 v0 7).toNat v3) fun h10 => F_Ro_cutArguments_139 G26 v0 v2 v3 v4 h10))
theorem S_Ro_cutArguments_107 {d : Nat} (hd : 2 ≤ d) {G26 : Nat → Int → Int → MH → RS Int} (hG26 : ∀ (v0 : Nat) (v2 : Int) (v3 : Int) (h : MH), LayC h → RoO h v0 → inR v2 → inR v3 → OK d k_Ro_cutArguments 26 [mR v0, mR 87, mI v2, mI v3, mN] [] h cI inR (G26 v0 v2 v3 h)) {v0 : Nat} {v2 : Int} {v3 : Int} {v4 : Int} {h : MH} (L : LayC h) (ov0 : RoO h v0) (rv2 : inR v2) (rv3 : inR v3) (rv4 : inR v4) : OK d k_Ro_cutArguments 107 [mR v0, mR 87, mI v2, mI v3, mI v4] [] h cI inR (F_Ro_cutArguments_107 G26 v0 v2 v3 v4 h) := by
  unfold F_Ro_cutArguments_107
  refine z_go (fun Q hq => x_aload_n (dA d_Ro_cutArguments 62 rfl) rfl rfl (x_dup (dA d_Ro_cutArguments 63 rfl) rfl (x_getI (dA d_Ro_cutArguments 64 rfl) f_Ro_47 ov0.1 (by decide) (by decide) rfl (x_iconst (dA d_Ro_cutArguments 65 rfl) hq)))) ?_
  refine z_gd (fun g4 => ?_)
  refine z_go (fun Q hq => x_iadd (dA d_Ro_cutArguments 66 rfl) hq) ?_
  refine z_sto (Ext.pi ov0.1 (by decide) g4) (fun Q hq => x_putI (dA d_Ro_cutArguments 67 rfl) p_Ro_47 ov0.1 (by decide) cl_Ro rfl hq) (fun h5 e6 => ?_)
  have L7 := L.ext e6
  refine z_go (fun Q hq => x_aload_n (dA d_Ro_cutArguments 68 rfl) rfl rfl (x_getI (dA d_Ro_cutArguments 69 rfl) f_Ro_47 (ov0.ext e6).1 (by decide) (by decide) rfl (x_aload_n (dA d_Ro_cutArguments 70 rfl) rfl rfl (x_getR (dA d_Ro_cutArguments 71 rfl) f_Ro_25 (ov0.ext e6).1 (by decide) (by decide) rfl (ov0.ext e6).2.1.2.2.2 (x_alen (dA d_Ro_cutArguments 72 rfl) (show ArO _ _ _ _ from ⟨(ov0.ext e6).2.2.2.2.2, by decide⟩).1 (by decide) hq))))) ?_
  refine z_br (fun Q => x_icmp_ge (dA d_Ro_cutArguments 73 rfl) rfl (L7.rg _ _) (inR_nat (show ArO _ _ _ _ from ⟨(ov0.ext e6).2.2.2.2.2, by decide⟩).2)) (fun c8 => ?_) (fun c8 => ?_)
  · exact S_Ro_cutArguments_139 hd hG26 L7 (ov0.ext e6) rv2 rv3 rv4
  · refine z_go (fun Q hq => x_aload_n (dA d_Ro_cutArguments 74 rfl) rfl rfl (x_getR (dA d_Ro_cutArguments 75 rfl) f_Ro_25 (ov0.ext e6).1 (by decide) (by decide) rfl (ov0.ext e6).2.1.2.2.2 (x_aload_n (dA d_Ro_cutArguments 76 rfl) rfl rfl (x_getI (dA d_Ro_cutArguments 77 rfl) f_Ro_47 (ov0.ext e6).1 (by decide) (by decide) rfl (x_iload_n (dA d_Ro_cutArguments 78 rfl) rfl rfl hq))))) ?_
    refine z_gd (fun g9 => ?_)
    refine z_sto (Ext.pi (show ArO _ _ _ _ from ⟨(ov0.ext e6).2.2.2.2.2, by decide⟩).1 (by decide) rv3) (fun Q hq => x_iast (dA d_Ro_cutArguments 79 rfl) (show ArO _ _ _ _ from ⟨(ov0.ext e6).2.2.2.2.2, by decide⟩).1 g9.1 g9.2 (show ArO _ _ _ _ from ⟨(ov0.ext e6).2.2.2.2.2, by decide⟩).2 hq) (fun h10 e11 => ?_)
    have L12 := L7.ext e11
    exact S_Ro_cutArguments_139 hd hG26 L12 ((ov0.ext e6).ext e11) rv2 rv3 rv4
noncomputable def F_Ro_cutArguments_87 (G26 : Nat → Int → Int → MH → RS Int) (v0 : Nat) (v2 : Int) (v3 : Int) (v4 : Int) (h : MH) : RS Int := if v2 = (1 : Int) then gd (0 ≤ v3 ∧ v3 < 100) (bnd (F_To_isSign (mGl h (v0 + 1) v3.toNat) (44 : Int) h) fun x17 h15 => if x17 = 0 then F_Ro_cutArguments_139 G26 v0 v2 v3 v4 h15 else F_Ro_cutArguments_107 G26 v0 v2 v3 v4 h15) else F_Ro_cutArguments_139 G26 v0 v2 v3 v4 h
theorem S_Ro_cutArguments_87 {d : Nat} (hd : 2 ≤ d) {G26 : Nat → Int → Int → MH → RS Int} (hG26 : ∀ (v0 : Nat) (v2 : Int) (v3 : Int) (h : MH), LayC h → RoO h v0 → inR v2 → inR v3 → OK d k_Ro_cutArguments 26 [mR v0, mR 87, mI v2, mI v3, mN] [] h cI inR (G26 v0 v2 v3 h)) {v0 : Nat} {v2 : Int} {v3 : Int} {v4 : Int} {h : MH} (L : LayC h) (ov0 : RoO h v0) (rv2 : inR v2) (rv3 : inR v3) (rv4 : inR v4) : OK d k_Ro_cutArguments 87 [mR v0, mR 87, mI v2, mI v3, mI v4] [] h cI inR (F_Ro_cutArguments_87 G26 v0 v2 v3 v4 h) := by
  unfold F_Ro_cutArguments_87
  refine z_go (fun Q hq => x_iload_n (dA d_Ro_cutArguments 51 rfl) rfl rfl (x_iconst (dA d_Ro_cutArguments 52 rfl) hq)) ?_
  refine z_brn (fun Q => x_icmp_ne (dA d_Ro_cutArguments 53 rfl) rfl rv2 (inR_lit (1 : Int) rfl)) (fun c13 => ?_) (fun c13 => ?_)
  · refine z_go (fun Q hq => x_aload_n (dA d_Ro_cutArguments 54 rfl) rfl rfl (x_aload_n (dA d_Ro_cutArguments 55 rfl) rfl rfl (x_getR (dA d_Ro_cutArguments 56 rfl) f_Ro_9 ov0.1 (by decide) (by decide) rfl ov0.2.1.1 (x_iload_n (dA d_Ro_cutArguments 57 rfl) rfl rfl hq)))) ?_
    refine z_gd (fun g14 => ?_)
    refine z_go (fun Q hq => x_lald (dA d_Ro_cutArguments 58 rfl) (show ArO _ _ _ _ from ⟨ov0.2.2.1, by decide⟩).1 g14.1 g14.2 (show ArO _ _ _ _ from ⟨ov0.2.2.1, by decide⟩).2 (x_bipush (dA d_Ro_cutArguments 59 rfl) (by decide) hq)) ?_
    refine z_bnd (rest := []) (st1 := fun v => mI v :: []) (S_To_isSign (d := 1) (Nat.le_refl _) L (ch_lit (44 : Int) rfl)) (fun _ hx => absurd hx List.not_mem_nil) (fun _ => rfl) (fun Q' Q => x_callV (as := [mL (mGl h (v0 + 1) v3.toNat), mI (44 : Int)]) (rest := []) (k' := k_To_isSign) (dA d_Ro_cutArguments 60 rfl) o_To_isSign lk_Ro_50 im_To_isSign se_To_isSign rfl (L.sh (x := (11, 3)) rfl) (by decide) (Nat.le_of_ble_eq_true rfl) (Nat.le_trans (Nat.le_of_ble_eq_true rfl) hd) (Nat.le_of_ble_eq_true rfl)) (fun x17 h15 e16 p18 => ?_)
    have L19 := L.ext e16
    refine z_br (fun Q => x_if_eq (dA d_Ro_cutArguments 61 rfl) rfl p18.inR) (fun c20 => ?_) (fun c20 => ?_)
    · exact S_Ro_cutArguments_139 hd hG26 L19 (ov0.ext e16) rv2 rv3 rv4
    · exact S_Ro_cutArguments_107 hd hG26 L19 (ov0.ext e16) rv2 rv3 rv4
  · exact S_Ro_cutArguments_139 hd hG26 L ov0 rv2 rv3 rv4
noncomputable def F_Ro_cutArguments_76 (G26 : Nat → Int → Int → MH → RS Int) (v0 : Nat) (v3 : Int) (v4 : Int) (s0 : Int) (s1 : Int) (h : MH) : RS Int := gd (inR (s0 + s1)) (if v4 = 0 then F_Ro_cutArguments_87 G26 v0 (s0 + s1) v3 v4 h else if (s0 + s1) = 0 then F_Ro_cutArguments_107 G26 v0 (s0 + s1) v3 v4 h else F_Ro_cutArguments_87 G26 v0 (s0 + s1) v3 v4 h)
theorem S_Ro_cutArguments_76 {d : Nat} (hd : 2 ≤ d) {G26 : Nat → Int → Int → MH → RS Int} (hG26 : ∀ (v0 : Nat) (v2 : Int) (v3 : Int) (h : MH), LayC h → RoO h v0 → inR v2 → inR v3 → OK d k_Ro_cutArguments 26 [mR v0, mR 87, mI v2, mI v3, mN] [] h cI inR (G26 v0 v2 v3 h)) {v0 : Nat} {v3 : Int} {v4 : Int} {s0 : Int} {s1 : Int} {h : MH} (L : LayC h) (ov0 : RoO h v0) (rv3 : inR v3) (rv4 : inR v4) (rs0 : inR s0) (rs1 : inR s1) : OK d k_Ro_cutArguments 76 [mR v0, mR 87, mN, mI v3, mI v4] [mI s1, mI s0] h cI inR (F_Ro_cutArguments_76 G26 v0 v3 v4 s0 s1 h) := by
  unfold F_Ro_cutArguments_76
  refine z_gd (fun g21 => ?_)
  refine z_go (fun Q hq => x_iadd (dA d_Ro_cutArguments 45 rfl) (x_istore_n (dA d_Ro_cutArguments 46 rfl) rfl (by decide) rfl (x_iload (dA d_Ro_cutArguments 47 rfl) rfl hq))) ?_
  refine z_br (fun Q => x_if_eq (dA d_Ro_cutArguments 48 rfl) rfl rv4) (fun c22 => ?_) (fun c22 => ?_)
  · exact S_Ro_cutArguments_87 hd hG26 L ov0 g21 rv3 rv4
  · refine z_go (fun Q hq => x_iload_n (dA d_Ro_cutArguments 49 rfl) rfl rfl hq) ?_
    refine z_br (fun Q => x_if_eq (dA d_Ro_cutArguments 50 rfl) rfl g21) (fun c23 => ?_) (fun c23 => ?_)
    · exact S_Ro_cutArguments_107 hd hG26 L ov0 g21 rv3 rv4
    · exact S_Ro_cutArguments_87 hd hG26 L ov0 g21 rv3 rv4
noncomputable def F_Ro_cutArguments_26_b (G26 : Nat → Int → Int → MH → RS Int) (v0 : Nat) (v2 : Int) (v3 : Int) (h : MH) : RS Int := if (100 : Int) ≤ v3 then some (.inl (-1 : Int), h) else gd (0 ≤ v3 ∧ v3 < 100) (bnd (F_To_isSign (mGl h (v0 + 1) v3.toNat) (41 : Int) h) fun x28 h26 => bnd (F_To_isSign (mGl h26 (v0 + 1) v3.toNat) (40 : Int) h26) fun x33 h31 => if x33 = 0 then if x28 = 0 then F_Ro_cutArguments_76 G26 v0 v3 x28 v2 (0 : Int) h31 else F_Ro_cutArguments_76 G26 v0 v3 x28 v2 (-1 : Int) h31 else F_Ro_cutArguments_76 G26 v0 v3 x28 v2 (1 : Int) h31)
theorem S_Ro_cutArguments_26_b {d : Nat} (hd : 2 ≤ d) {G26 : Nat → Int → Int → MH → RS Int} (hG26 : ∀ (v0 : Nat) (v2 : Int) (v3 : Int) (h : MH), LayC h → RoO h v0 → inR v2 → inR v3 → OK d k_Ro_cutArguments 26 [mR v0, mR 87, mI v2, mI v3, mN] [] h cI inR (G26 v0 v2 v3 h)) {v0 : Nat} {v2 : Int} {v3 : Int} {h : MH} (L : LayC h) (ov0 : RoO h v0) (rv2 : inR v2) (rv3 : inR v3) : OK d k_Ro_cutArguments 26 [mR v0, mR 87, mI v2, mI v3, mN] [] h cI inR (F_Ro_cutArguments_26_b G26 v0 v2 v3 h) := by
  unfold F_Ro_cutArguments_26_b
  refine z_go (fun Q hq => x_iload_n (dA d_Ro_cutArguments 18 rfl) rfl rfl (x_bipush (dA d_Ro_cutArguments 19 rfl) (by decide) hq)) ?_
  refine z_br (fun Q => x_icmp_ge (dA d_Ro_cutArguments 20 rfl) rfl rv3 (inR_lit (100 : Int) rfl)) (fun c24 => ?_) (fun c24 => ?_)
  · refine z_go (fun Q hq => x_iconst (dA d_Ro_cutArguments 88 rfl) hq) ?_
    exact z_reti (dA d_Ro_cutArguments 89 rfl) rfl (inR_lit (-1 : Int) rfl)
  · refine z_go (fun Q hq => x_aload_n (dA d_Ro_cutArguments 21 rfl) rfl rfl (x_aload_n (dA d_Ro_cutArguments 22 rfl) rfl rfl (x_getR (dA d_Ro_cutArguments 23 rfl) f_Ro_9 ov0.1 (by decide) (by decide) rfl ov0.2.1.1 (x_iload_n (dA d_Ro_cutArguments 24 rfl) rfl rfl hq)))) ?_
    refine z_gd (fun g25 => ?_)
    refine z_go (fun Q hq => x_lald (dA d_Ro_cutArguments 25 rfl) (show ArO _ _ _ _ from ⟨ov0.2.2.1, by decide⟩).1 g25.1 g25.2 (show ArO _ _ _ _ from ⟨ov0.2.2.1, by decide⟩).2 (x_bipush (dA d_Ro_cutArguments 26 rfl) (by decide) hq)) ?_
    refine z_bnd (rest := []) (st1 := fun v => mI v :: []) (S_To_isSign (d := 1) (Nat.le_refl _) L (ch_lit (41 : Int) rfl)) (fun _ hx => absurd hx List.not_mem_nil) (fun _ => rfl) (fun Q' Q => x_callV (as := [mL (mGl h (v0 + 1) v3.toNat), mI (41 : Int)]) (rest := []) (k' := k_To_isSign) (dA d_Ro_cutArguments 27 rfl) o_To_isSign lk_Ro_50 im_To_isSign se_To_isSign rfl (L.sh (x := (11, 3)) rfl) (by decide) (Nat.le_of_ble_eq_true rfl) (Nat.le_trans (Nat.le_of_ble_eq_true rfl) hd) (Nat.le_of_ble_eq_true rfl)) (fun x28 h26 e27 p29 => ?_)
    have L30 := L.ext e27
    refine z_go (fun Q hq => x_istore (dA d_Ro_cutArguments 28 rfl) (by decide) rfl (x_iload_n (dA d_Ro_cutArguments 29 rfl) rfl rfl (x_aload_n (dA d_Ro_cutArguments 30 rfl) rfl rfl (x_aload_n (dA d_Ro_cutArguments 31 rfl) rfl rfl (x_getR (dA d_Ro_cutArguments 32 rfl) f_Ro_9 (ov0.ext e27).1 (by decide) (by decide) rfl (ov0.ext e27).2.1.1 (x_iload_n (dA d_Ro_cutArguments 33 rfl) rfl rfl (x_lald (dA d_Ro_cutArguments 34 rfl) (show ArO _ _ _ _ from ⟨(ov0.ext e27).2.2.1, by decide⟩).1 g25.1 g25.2 (show ArO _ _ _ _ from ⟨(ov0.ext e27).2.2.1, by decide⟩).2 (x_bipush (dA d_Ro_cutArguments 35 rfl) (by decide) hq)))))))) ?_
    refine z_bnd (rest := [mI v2]) (st1 := fun v => mI v :: [mI v2]) (S_To_isSign (d := 1) (Nat.le_refl _) L30 (ch_lit (40 : Int) rfl)) (fun _ hx => absurd hx List.not_mem_nil) (fun _ => rfl) (fun Q' Q => x_callV (as := [mL (mGl h26 (v0 + 1) v3.toNat), mI (40 : Int)]) (rest := [mI v2]) (k' := k_To_isSign) (dA d_Ro_cutArguments 36 rfl) o_To_isSign lk_Ro_50 im_To_isSign se_To_isSign rfl (L30.sh (x := (11, 3)) rfl) (by decide) (Nat.le_of_ble_eq_true rfl) (Nat.le_trans (Nat.le_of_ble_eq_true rfl) hd) (Nat.le_of_ble_eq_true rfl)) (fun x33 h31 e32 p34 => ?_)
    have L35 := L30.ext e32
    refine z_br (fun Q => x_if_eq (dA d_Ro_cutArguments 37 rfl) rfl p34.inR) (fun c36 => ?_) (fun c36 => ?_)
    · refine z_go (fun Q hq => x_iload (dA d_Ro_cutArguments 40 rfl) rfl hq) ?_
      refine z_br (fun Q => x_if_eq (dA d_Ro_cutArguments 41 rfl) rfl p29.inR) (fun c37 => ?_) (fun c37 => ?_)
      · refine z_go (fun Q hq => x_iconst (dA d_Ro_cutArguments 44 rfl) hq) ?_
        refine z_fgt (ls' := [mR v0, mR 87, mN, mI v3, mI x28]) ⟨.inr rfl, .inr rfl, .inl rfl, .inr rfl, .inr rfl, trivial⟩ ?_
        exact S_Ro_cutArguments_76 hd hG26 L35 ((ov0.ext e27).ext e32) rv3 p29.inR rv2 (inR_lit (0 : Int) rfl)
      · refine z_go (fun Q hq => x_iconst (dA d_Ro_cutArguments 42 rfl) (x_goto (dA d_Ro_cutArguments 43 rfl) rfl hq)) ?_
        refine z_fgt (ls' := [mR v0, mR 87, mN, mI v3, mI x28]) ⟨.inr rfl, .inr rfl, .inl rfl, .inr rfl, .inr rfl, trivial⟩ ?_
        exact S_Ro_cutArguments_76 hd hG26 L35 ((ov0.ext e27).ext e32) rv3 p29.inR rv2 (inR_lit (-1 : Int) rfl)
    · refine z_go (fun Q hq => x_iconst (dA d_Ro_cutArguments 38 rfl) (x_goto (dA d_Ro_cutArguments 39 rfl) rfl hq)) ?_
      refine z_fgt (ls' := [mR v0, mR 87, mN, mI v3, mI x28]) ⟨.inr rfl, .inr rfl, .inl rfl, .inr rfl, .inr rfl, trivial⟩ ?_
      exact S_Ro_cutArguments_76 hd hG26 L35 ((ov0.ext e27).ext e32) rv3 p29.inR rv2 (inR_lit (1 : Int) rfl)
noncomputable def F_Ro_cutArguments_26 (v0 : Nat) (v2 : Int) (v3 : Int) (h : MH) : RS Int := itr (fun self (q : Nat × Int × Int × MH) => F_Ro_cutArguments_26_b (fun v0 v2 v3 h => self (v0, v2, v3, h)) q.1 q.2.1 q.2.2.1 q.2.2.2) FU (v0, v2, v3, h)
theorem S_Ro_cutArguments_26 {d : Nat} (hd : 2 ≤ d) {v0 : Nat} {v2 : Int} {v3 : Int} {h : MH} (L : LayC h) (ov0 : RoO h v0) (rv2 : inR v2) (rv3 : inR v3) : OK d k_Ro_cutArguments 26 [mR v0, mR 87, mI v2, mI v3, mN] [] h cI inR (F_Ro_cutArguments_26  v0 v2 v3 h) := by
  unfold F_Ro_cutArguments_26
  refine z_itr (P := fun q : Nat × Int × Int × MH => LayC q.2.2.2 ∧ RoO q.2.2.2 q.1 ∧ inR q.2.1 ∧ inR q.2.2.1 ∧ True) (ls := fun q : Nat × Int × Int × MH => [mR q.1, mR 87, mI q.2.1, mI q.2.2.1, mN]) (hp := fun q : Nat × Int × Int × MH => q.2.2.2) (fun self hs q hq => ?_) FU (v0, v2, v3, h) ⟨L, ov0, rv2, rv3, trivial⟩
  exact S_Ro_cutArguments_26_b hd (fun v0 v2 v3 h L ov0 rv2 rv3 => hs (v0, v2, v3, h) ⟨L, ov0, rv2, rv3, trivial⟩) hq.1 hq.2.1 hq.2.2.1 hq.2.2.2.1
noncomputable def F_Ro_cutArguments (r : Nat) (h : MH) : RS Int := sto (mPi h r 7 (0 : Int)) fun h38 => gd (inR ((mGi h38 r 1) + (1 : Int))) (gd (0 ≤ (0 : Int) ∧ (0 : Int) < 4) (sto (mPi h38 (r + 4) (0 : Int).toNat ((mGi h38 r 1) + (1 : Int))) fun h43 => gd (inR ((mGi h43 r 1) + (1 : Int))) (F_Ro_cutArguments_26 r (0 : Int) ((mGi h43 r 1) + (1 : Int)) h43)))
theorem S_Ro_cutArguments {d : Nat} (hd : 2 ≤ d) {r : Nat} {h : MH} (L : LayC h) (or : RoO h r) : OK d k_Ro_cutArguments 0 [mR r, mR 87, mN, mN, mN] [] h cI inR (F_Ro_cutArguments  r h) := by
  unfold F_Ro_cutArguments
  refine z_go (fun Q hq => x_iconst (dA d_Ro_cutArguments 0 rfl) (x_istore_n (dA d_Ro_cutArguments 1 rfl) rfl (by decide) rfl (x_aload_n (dA d_Ro_cutArguments 2 rfl) rfl rfl (x_iconst (dA d_Ro_cutArguments 3 rfl) hq)))) ?_
  refine z_sto (Ext.pi or.1 (by decide) (inR_lit (0 : Int) rfl)) (fun Q hq => x_putI (dA d_Ro_cutArguments 4 rfl) p_Ro_47 or.1 (by decide) cl_Ro rfl hq) (fun h38 e39 => ?_)
  have L40 := L.ext e39
  refine z_go (fun Q hq => x_aload_n (dA d_Ro_cutArguments 5 rfl) rfl rfl (x_getR (dA d_Ro_cutArguments 6 rfl) f_Ro_25 (or.ext e39).1 (by decide) (by decide) rfl (or.ext e39).2.1.2.2.2 (x_iconst (dA d_Ro_cutArguments 7 rfl) (x_aload_n (dA d_Ro_cutArguments 8 rfl) rfl rfl (x_getI (dA d_Ro_cutArguments 9 rfl) f_Ro_13 (or.ext e39).1 (by decide) (by decide) rfl (x_iconst (dA d_Ro_cutArguments 10 rfl) hq)))))) ?_
  refine z_gd (fun g41 => ?_)
  refine z_go (fun Q hq => x_iadd (dA d_Ro_cutArguments 11 rfl) hq) ?_
  refine z_gd (fun g42 => ?_)
  refine z_sto (Ext.pi (show ArO _ _ _ _ from ⟨(or.ext e39).2.2.2.2.2, by decide⟩).1 (by decide) g41) (fun Q hq => x_iast (dA d_Ro_cutArguments 12 rfl) (show ArO _ _ _ _ from ⟨(or.ext e39).2.2.2.2.2, by decide⟩).1 g42.1 g42.2 (show ArO _ _ _ _ from ⟨(or.ext e39).2.2.2.2.2, by decide⟩).2 hq) (fun h43 e44 => ?_)
  have L45 := L40.ext e44
  refine z_go (fun Q hq => x_aload_n (dA d_Ro_cutArguments 13 rfl) rfl rfl (x_getI (dA d_Ro_cutArguments 14 rfl) f_Ro_13 ((or.ext e39).ext e44).1 (by decide) (by decide) rfl (x_iconst (dA d_Ro_cutArguments 15 rfl) hq))) ?_
  refine z_gd (fun g46 => ?_)
  refine z_go (fun Q hq => x_iadd (dA d_Ro_cutArguments 16 rfl) (x_istore_n (dA d_Ro_cutArguments 17 rfl) rfl (by decide) rfl hq)) ?_
  exact S_Ro_cutArguments_26 hd  L45 ((or.ext e39).ext e44) (inR_lit (0 : Int) rfl) g46
/-! TwoMills$Row.finishOne()Z -/
noncomputable def F_Ro_finishOne (r : Nat) (h : MH) : RS Int := if (mGi h r 3) < (100 : Int) then gd (0 ≤ (mGi h r 1) ∧ (mGi h r 1) < 100) (gd (0 ≤ (mGi h r 3) ∧ (mGi h r 3) < 100) (sto (mPl h (r + 2) (mGi h r 3).toNat (mGl h (r + 1) (mGi h r 1).toNat)) fun h4 => gd (inR ((mGi h4 r 3) + (1 : Int))) (sto (mPi h4 r 3 ((mGi h4 r 3) + (1 : Int))) fun h8 => gd (inR ((mGi h8 r 1) + (1 : Int))) (sto (mPi h8 r 1 ((mGi h8 r 1) + (1 : Int))) fun h12 => some (.inl (1 : Int), h12))))) else some (.inl (0 : Int), h)
theorem S_Ro_finishOne {d : Nat} (hd : 0 ≤ d) {r : Nat} {h : MH} (L : LayC h) (or : RoO h r) : OK d k_Ro_finishOne 0 [mR r] [] h cI p01 (F_Ro_finishOne  r h) := by
  unfold F_Ro_finishOne
  refine z_go (fun Q hq => x_aload_n (dA d_Ro_finishOne 0 rfl) rfl rfl (x_getI (dA d_Ro_finishOne 1 rfl) f_Ro_35 or.1 (by decide) (by decide) rfl (x_bipush (dA d_Ro_finishOne 2 rfl) (by decide) hq))) ?_
  refine z_br (fun Q => x_icmp_lt (dA d_Ro_finishOne 3 rfl) rfl (L.rg _ _) (inR_lit (100 : Int) rfl)) (fun c1 => ?_) (fun c1 => ?_)
  · refine z_go (fun Q hq => x_aload_n (dA d_Ro_finishOne 6 rfl) rfl rfl (x_getR (dA d_Ro_finishOne 7 rfl) f_Ro_17 or.1 (by decide) (by decide) rfl or.2.1.2.1 (x_aload_n (dA d_Ro_finishOne 8 rfl) rfl rfl (x_getI (dA d_Ro_finishOne 9 rfl) f_Ro_35 or.1 (by decide) (by decide) rfl (x_aload_n (dA d_Ro_finishOne 10 rfl) rfl rfl (x_getR (dA d_Ro_finishOne 11 rfl) f_Ro_9 or.1 (by decide) (by decide) rfl or.2.1.1 (x_aload_n (dA d_Ro_finishOne 12 rfl) rfl rfl (x_getI (dA d_Ro_finishOne 13 rfl) f_Ro_13 or.1 (by decide) (by decide) rfl hq)))))))) ?_
    refine z_gd (fun g2 => ?_)
    refine z_go (fun Q hq => x_lald (dA d_Ro_finishOne 14 rfl) (show ArO _ _ _ _ from ⟨or.2.2.1, by decide⟩).1 g2.1 g2.2 (show ArO _ _ _ _ from ⟨or.2.2.1, by decide⟩).2 hq) ?_
    refine z_gd (fun g3 => ?_)
    refine z_sto Ext.pl (fun Q hq => x_last (dA d_Ro_finishOne 15 rfl) (show ArO _ _ _ _ from ⟨or.2.2.2.1, by decide⟩).1 g3.1 g3.2 (show ArO _ _ _ _ from ⟨or.2.2.2.1, by decide⟩).2 hq) (fun h4 e5 => ?_)
    have L6 := L.ext e5
    refine z_go (fun Q hq => x_aload_n (dA d_Ro_finishOne 16 rfl) rfl rfl (x_dup (dA d_Ro_finishOne 17 rfl) rfl (x_getI (dA d_Ro_finishOne 18 rfl) f_Ro_35 (or.ext e5).1 (by decide) (by decide) rfl (x_iconst (dA d_Ro_finishOne 19 rfl) hq)))) ?_
    refine z_gd (fun g7 => ?_)
    refine z_go (fun Q hq => x_iadd (dA d_Ro_finishOne 20 rfl) hq) ?_
    refine z_sto (Ext.pi (or.ext e5).1 (by decide) g7) (fun Q hq => x_putI (dA d_Ro_finishOne 21 rfl) p_Ro_35 (or.ext e5).1 (by decide) cl_Ro rfl hq) (fun h8 e9 => ?_)
    have L10 := L6.ext e9
    refine z_go (fun Q hq => x_aload_n (dA d_Ro_finishOne 22 rfl) rfl rfl (x_dup (dA d_Ro_finishOne 23 rfl) rfl (x_getI (dA d_Ro_finishOne 24 rfl) f_Ro_13 ((or.ext e5).ext e9).1 (by decide) (by decide) rfl (x_iconst (dA d_Ro_finishOne 25 rfl) hq)))) ?_
    refine z_gd (fun g11 => ?_)
    refine z_go (fun Q hq => x_iadd (dA d_Ro_finishOne 26 rfl) hq) ?_
    refine z_sto (Ext.pi ((or.ext e5).ext e9).1 (by decide) g11) (fun Q hq => x_putI (dA d_Ro_finishOne 27 rfl) p_Ro_13 ((or.ext e5).ext e9).1 (by decide) cl_Ro rfl hq) (fun h12 e13 => ?_)
    have L14 := L10.ext e13
    refine z_go (fun Q hq => x_iconst (dA d_Ro_finishOne 28 rfl) hq) ?_
    exact z_retz (dA d_Ro_finishOne 29 rfl) rfl (.inr rfl)
  · refine z_go (fun Q hq => x_iconst (dA d_Ro_finishOne 4 rfl) hq) ?_
    exact z_retz (dA d_Ro_finishOne 5 rfl) rfl (.inl rfl)
/-! TwoMills$Row.waitingAt(I)J -/
noncomputable def F_Ro_waitingAt (r : Nat) (a1 : Int) (h : MH) : RS Int64 := gd (inR ((mGi h r 1) + a1)) (if (100 : Int) ≤ ((mGi h r 1) + a1) then some (.inl (0 : Int64), h) else gd (0 ≤ ((mGi h r 1) + a1) ∧ ((mGi h r 1) + a1) < 100) (some (.inl (mGl h (r + 1) ((mGi h r 1) + a1).toNat), h)))
theorem S_Ro_waitingAt {d : Nat} (hd : 0 ≤ d) {r : Nat} {a1 : Int} {h : MH} (L : LayC h) (or : RoO h r) (ra1 : inR a1) : OK d k_Ro_waitingAt 0 [mR r, mI a1] [] h cJ pT (F_Ro_waitingAt  r a1 h) := by
  unfold F_Ro_waitingAt
  refine z_go (fun Q hq => x_aload_n (dA d_Ro_waitingAt 0 rfl) rfl rfl (x_getI (dA d_Ro_waitingAt 1 rfl) f_Ro_13 or.1 (by decide) (by decide) rfl (x_iload_n (dA d_Ro_waitingAt 2 rfl) rfl rfl hq))) ?_
  refine z_gd (fun g1 => ?_)
  refine z_go (fun Q hq => x_iadd (dA d_Ro_waitingAt 3 rfl) (x_bipush (dA d_Ro_waitingAt 4 rfl) (by decide) hq)) ?_
  refine z_br (fun Q => x_icmp_ge (dA d_Ro_waitingAt 5 rfl) rfl g1 (inR_lit (100 : Int) rfl)) (fun c2 => ?_) (fun c2 => ?_)
  · refine z_go (fun Q hq => x_lconst (v := 0) (dA d_Ro_waitingAt 14 rfl) rfl hq) ?_
    exact z_retj (dA d_Ro_waitingAt 15 rfl) rfl
  · refine z_go (fun Q hq => x_aload_n (dA d_Ro_waitingAt 6 rfl) rfl rfl (x_getR (dA d_Ro_waitingAt 7 rfl) f_Ro_9 or.1 (by decide) (by decide) rfl or.2.1.1 (x_aload_n (dA d_Ro_waitingAt 8 rfl) rfl rfl (x_getI (dA d_Ro_waitingAt 9 rfl) f_Ro_13 or.1 (by decide) (by decide) rfl (x_iload_n (dA d_Ro_waitingAt 10 rfl) rfl rfl (x_iadd (dA d_Ro_waitingAt 11 rfl) hq)))))) ?_
    refine z_gd (fun g3 => ?_)
    refine z_go (fun Q hq => x_lald (dA d_Ro_waitingAt 12 rfl) (show ArO _ _ _ _ from ⟨or.2.2.1, by decide⟩).1 g3.1 g3.2 (show ArO _ _ _ _ from ⟨or.2.2.1, by decide⟩).2 (x_goto (dA d_Ro_waitingAt 13 rfl) rfl hq)) ?_
    exact z_retj (dA d_Ro_waitingAt 15 rfl) rfl
/-! TwoMills$Expander.takeToken(ILTwoMills$Row;)V -/
noncomputable def F_Ex_takeToken_181 (X : Int → Nat → Nat → Int → Int → MH → RS Nat) (v1 : Int) (v2 : Nat) (v5 : Int) (v8 : Int) (h : MH) : RS Unit := bnd (F_Ex_replace X v1 v2 v5 v8 h) fun x3 h1 => some (.inl (), h1)
theorem S_Ex_takeToken_181 {d dX : Nat} (hd : dX + 9 ≤ d) {X : Int → Nat → Nat → Int → Int → MH → RS Nat} (hX : ∀ (a1 : Int) (a2 a2n : Nat) (a3 a4 : Int) (h : MH), LayC h → inR a1 → ArO h a2 103 a2n → inR a3 → inR a4 → OK dX k_Ex_expand 0 [mR 95, mI a1, mR a2, mI a3, mI a4, mN, mN] [] h cA pT (X a1 a2 a2n a3 a4 h)) {v1 : Int} {v2 : Nat} {v5 : Int} {v8 : Int} {h : MH} (L : LayC h) (rv1 : inR v1) (ov2 : RoO h v2) (rv5 : inR v5) (rv8 : inR v8) : OK d k_Ex_takeToken 181 [mR 95, mI v1, mR v2, mN, mN, mI v5, mN, mN, mI v8] [] h cV pT (F_Ex_takeToken_181 X  v1 v2 v5 v8 h) := by
  unfold F_Ex_takeToken_181
  refine z_go (fun Q hq => x_aload_n (dA d_Ex_takeToken 88 rfl) rfl rfl (x_iload_n (dA d_Ex_takeToken 89 rfl) rfl rfl (x_aload_n (dA d_Ex_takeToken 90 rfl) rfl rfl (x_iload (dA d_Ex_takeToken 91 rfl) rfl (x_iload (dA d_Ex_takeToken 92 rfl) rfl hq))))) ?_
  refine z_bnd (rest := []) (st1 := fun _ => []) (S_Ex_replace (d := dX + 8) (Nat.le_refl _) hX L rv1 ov2 rv5 rv8) (fun _ hx => absurd hx List.not_mem_nil) (fun _ => rfl) (fun Q' Q => x_callV (as := [mI v1, mR v2, mI v5, mI v8]) (rest := []) (k' := k_Ex_replace) (dA d_Ex_takeToken 93 rfl) o_Ex_replace lk_Ex_81 im_Ex_replace se_Ex_replace rfl (L.sh (x := (4, 4)) rfl) (by decide) (Nat.le_of_ble_eq_true rfl) (by omega) (Nat.le_of_ble_eq_true rfl)) (fun x3 h1 e2 p4 => ?_)
  have L5 := L.ext e2
  exact z_retv (dA d_Ex_takeToken 94 rfl) rfl
noncomputable def F_Ex_takeToken_172 (X : Int → Nat → Nat → Int → Int → MH → RS Nat) (v1 : Int) (v2 : Nat) (v5 : Int) (v8 : Int) (h : MH) : RS Unit := bnd (F_To_fail (8 : Int) h) fun x8 h6 => F_Ex_takeToken_181 X v1 v2 v5 v8 h6
theorem S_Ex_takeToken_172 {d dX : Nat} (hd : dX + 9 ≤ d) {X : Int → Nat → Nat → Int → Int → MH → RS Nat} (hX : ∀ (a1 : Int) (a2 a2n : Nat) (a3 a4 : Int) (h : MH), LayC h → inR a1 → ArO h a2 103 a2n → inR a3 → inR a4 → OK dX k_Ex_expand 0 [mR 95, mI a1, mR a2, mI a3, mI a4, mN, mN] [] h cA pT (X a1 a2 a2n a3 a4 h)) {v1 : Int} {v2 : Nat} {v5 : Int} {v8 : Int} {h : MH} (L : LayC h) (rv1 : inR v1) (ov2 : RoO h v2) (rv5 : inR v5) (rv8 : inR v8) : OK d k_Ex_takeToken 172 [mR 95, mI v1, mR v2, mN, mN, mI v5, mN, mN, mI v8] [] h cV pT (F_Ex_takeToken_172 X  v1 v2 v5 v8 h) := by
  unfold F_Ex_takeToken_172
  refine z_go (fun Q hq => x_aload_n (dA d_Ex_takeToken 84 rfl) rfl rfl (x_getR (dA d_Ex_takeToken 85 rfl) f_Ex_17 (L.sh (x := (4, 4)) rfl) (by decide) (by decide) rfl (L.rf 101 rfl) (x_bipush (dA d_Ex_takeToken 86 rfl) (by decide) hq))) ?_
  refine z_bnd (rest := []) (st1 := fun _ => []) (S_To_fail (d := 0) (Nat.le_refl _) L (inR_lit (8 : Int) rfl)) (fun _ hx => absurd hx List.not_mem_nil) (fun _ => rfl) (fun Q' Q => x_callV (as := [mI (8 : Int)]) (rest := []) (k' := k_To_fail) (dA d_Ex_takeToken 87 rfl) o_To_fail lk_Ex_25 im_To_fail se_To_fail rfl (L.sh (x := (11, 3)) rfl) (by decide) (Nat.le_of_ble_eq_true rfl) (by omega) (Nat.le_of_ble_eq_true rfl)) (fun x8 h6 e7 p9 => ?_)
  have L10 := L.ext e7
  exact S_Ex_takeToken_181 hd hX  L10 rv1 (ov2.ext e7) rv5 rv8
noncomputable def F_Ex_takeToken_150 (X : Int → Nat → Nat → Int → Int → MH → RS Nat) (v1 : Int) (v2 : Nat) (v5 : Int) (v7 : Int) (s0 : Int) (h : MH) : RS Unit := if v7 = 0 then if s0 < 0 then F_Ex_takeToken_172 X v1 v2 v5 s0 h else bnd (F_Ex_areArgumentsFor v5 v2 h) fun x15 h13 => if x15 = 0 then F_Ex_takeToken_172 X v1 v2 v5 s0 h13 else F_Ex_takeToken_181 X v1 v2 v5 s0 h13 else F_Ex_takeToken_181 X v1 v2 v5 s0 h
theorem S_Ex_takeToken_150 {d dX : Nat} (hd : dX + 9 ≤ d) {X : Int → Nat → Nat → Int → Int → MH → RS Nat} (hX : ∀ (a1 : Int) (a2 a2n : Nat) (a3 a4 : Int) (h : MH), LayC h → inR a1 → ArO h a2 103 a2n → inR a3 → inR a4 → OK dX k_Ex_expand 0 [mR 95, mI a1, mR a2, mI a3, mI a4, mN, mN] [] h cA pT (X a1 a2 a2n a3 a4 h)) {v1 : Int} {v2 : Nat} {v5 : Int} {v7 : Int} {s0 : Int} {h : MH} (L : LayC h) (rv1 : inR v1) (ov2 : RoO h v2) (rv5 : inR v5) (rv7 : inR v7) (rs0 : inR s0) : OK d k_Ex_takeToken 150 [mR 95, mI v1, mR v2, mN, mN, mI v5, mN, mI v7, mN] [mI s0] h cV pT (F_Ex_takeToken_150 X  v1 v2 v5 v7 s0 h) := by
  unfold F_Ex_takeToken_150
  refine z_go (fun Q hq => x_istore (dA d_Ex_takeToken 74 rfl) (by decide) rfl (x_iload (dA d_Ex_takeToken 75 rfl) rfl hq)) ?_
  refine z_brn (fun Q => x_if_ne (dA d_Ex_takeToken 76 rfl) rfl rv7) (fun c11 => ?_) (fun c11 => ?_)
  · refine z_go (fun Q hq => x_iload (dA d_Ex_takeToken 77 rfl) rfl hq) ?_
    refine z_br (fun Q => x_if_lt (dA d_Ex_takeToken 78 rfl) rfl rs0) (fun c12 => ?_) (fun c12 => ?_)
    · refine z_fgt (ls' := [mR 95, mI v1, mR v2, mN, mN, mI v5, mN, mN, mI s0]) ⟨.inr rfl, .inr rfl, .inr rfl, .inl rfl, .inl rfl, .inr rfl, .inl rfl, .inl rfl, .inr rfl, trivial⟩ ?_
      exact S_Ex_takeToken_172 hd hX  L rv1 ov2 rv5 rs0
    · refine z_go (fun Q hq => x_aload_n (dA d_Ex_takeToken 79 rfl) rfl rfl (x_iload (dA d_Ex_takeToken 80 rfl) rfl (x_aload_n (dA d_Ex_takeToken 81 rfl) rfl rfl hq))) ?_
      refine z_bnd (rest := []) (st1 := fun v => mI v :: []) (S_Ex_areArgumentsFor (d := 0) (Nat.le_refl _) L rv5 ov2) (fun _ hx => absurd hx List.not_mem_nil) (fun _ => rfl) (fun Q' Q => x_callV (as := [mI v5, mR v2]) (rest := []) (k' := k_Ex_areArgumentsFor) (dA d_Ex_takeToken 82 rfl) o_Ex_areArgumentsFor lk_Ex_77 im_Ex_areArgumentsFor se_Ex_areArgumentsFor rfl (L.sh (x := (4, 4)) rfl) (by decide) (Nat.le_of_ble_eq_true rfl) (by omega) (Nat.le_of_ble_eq_true rfl)) (fun x15 h13 e14 p16 => ?_)
      have L17 := L.ext e14
      refine z_brn (fun Q => x_if_ne (dA d_Ex_takeToken 83 rfl) rfl p16.inR) (fun c18 => ?_) (fun c18 => ?_)
      · refine z_fgt (ls' := [mR 95, mI v1, mR v2, mN, mN, mI v5, mN, mN, mI s0]) ⟨.inr rfl, .inr rfl, .inr rfl, .inl rfl, .inl rfl, .inr rfl, .inl rfl, .inl rfl, .inr rfl, trivial⟩ ?_
        exact S_Ex_takeToken_172 hd hX  L17 rv1 (ov2.ext e14) rv5 rs0
      · refine z_fgt (ls' := [mR 95, mI v1, mR v2, mN, mN, mI v5, mN, mN, mI s0]) ⟨.inr rfl, .inr rfl, .inr rfl, .inl rfl, .inl rfl, .inr rfl, .inl rfl, .inl rfl, .inr rfl, trivial⟩ ?_
        exact S_Ex_takeToken_181 hd hX  L17 rv1 (ov2.ext e14) rv5 rs0
  · refine z_fgt (ls' := [mR 95, mI v1, mR v2, mN, mN, mI v5, mN, mN, mI s0]) ⟨.inr rfl, .inr rfl, .inr rfl, .inl rfl, .inl rfl, .inr rfl, .inl rfl, .inl rfl, .inr rfl, trivial⟩ ?_
    exact S_Ex_takeToken_181 hd hX  L rv1 ov2 rv5 rs0
noncomputable def F_Ex_takeToken_130 (X : Int → Nat → Nat → Int → Int → MH → RS Nat) (v1 : Int) (v2 : Nat) (v5 : Int) (v7 : Int) (h : MH) : RS Unit := if v7 = 0 then bnd (F_Ro_cutArguments v2 h) fun x22 h20 => F_Ex_takeToken_150 X v1 v2 v5 v7 x22 h20 else F_Ex_takeToken_150 X v1 v2 v5 v7 (mGi h v2 1) h
theorem S_Ex_takeToken_130 {d dX : Nat} (hd : dX + 9 ≤ d) {X : Int → Nat → Nat → Int → Int → MH → RS Nat} (hX : ∀ (a1 : Int) (a2 a2n : Nat) (a3 a4 : Int) (h : MH), LayC h → inR a1 → ArO h a2 103 a2n → inR a3 → inR a4 → OK dX k_Ex_expand 0 [mR 95, mI a1, mR a2, mI a3, mI a4, mN, mN] [] h cA pT (X a1 a2 a2n a3 a4 h)) {v1 : Int} {v2 : Nat} {v5 : Int} {v7 : Int} {h : MH} (L : LayC h) (rv1 : inR v1) (ov2 : RoO h v2) (rv5 : inR v5) (rv7 : inR v7) : OK d k_Ex_takeToken 130 [mR 95, mI v1, mR v2, mN, mN, mI v5, mN, mI v7, mN] [] h cV pT (F_Ex_takeToken_130 X  v1 v2 v5 v7 h) := by
  unfold F_Ex_takeToken_130
  refine z_go (fun Q hq => x_iload (dA d_Ex_takeToken 65 rfl) rfl hq) ?_
  refine z_br (fun Q => x_if_eq (dA d_Ex_takeToken 66 rfl) rfl rv7) (fun c19 => ?_) (fun c19 => ?_)
  · refine z_go (fun Q hq => x_aload_n (dA d_Ex_takeToken 70 rfl) rfl rfl (x_aload_n (dA d_Ex_takeToken 71 rfl) rfl rfl (x_getR (dA d_Ex_takeToken 72 rfl) f_Ex_17 (L.sh (x := (4, 4)) rfl) (by decide) (by decide) rfl (L.rf 101 rfl) hq))) ?_
    refine z_bnd (rest := []) (st1 := fun v => mI v :: []) (S_Ro_cutArguments (d := 2) (Nat.le_refl _) L ov2) (fun _ hx => absurd hx List.not_mem_nil) (fun _ => rfl) (fun Q' Q => x_callV (as := [mR 87]) (rest := []) (k' := k_Ro_cutArguments) (dA d_Ex_takeToken 73 rfl) o_Ro_cutArguments lk_Ex_73 im_Ro_cutArguments se_Ro_cutArguments rfl ov2.1 (by decide) (Nat.le_of_ble_eq_true rfl) (by omega) (Nat.le_of_ble_eq_true rfl)) (fun x22 h20 e21 p23 => ?_)
    have L24 := L.ext e21
    exact S_Ex_takeToken_150 hd hX  L24 rv1 (ov2.ext e21) rv5 rv7 p23
  · refine z_go (fun Q hq => x_aload_n (dA d_Ex_takeToken 67 rfl) rfl rfl (x_getI (dA d_Ex_takeToken 68 rfl) f_Ex_36 ov2.1 (by decide) (by decide) rfl (x_goto (dA d_Ex_takeToken 69 rfl) rfl hq))) ?_
    exact S_Ex_takeToken_150 hd hX  L rv1 ov2 rv5 rv7 (L.rg _ _)
noncomputable def F_Ex_takeToken_114 (X : Int → Nat → Nat → Int → Int → MH → RS Nat) (v2 : Nat) (h : MH) : RS Unit := bnd (F_Ro_finishOne v2 h) fun x27 h25 => if x27 = 0 then bnd (F_To_fail (1 : Int) h25) fun x33 h31 => some (.inl (), h31) else some (.inl (), h25)
theorem S_Ex_takeToken_114 {d dX : Nat} (hd : dX + 9 ≤ d) {X : Int → Nat → Nat → Int → Int → MH → RS Nat} (hX : ∀ (a1 : Int) (a2 a2n : Nat) (a3 a4 : Int) (h : MH), LayC h → inR a1 → ArO h a2 103 a2n → inR a3 → inR a4 → OK dX k_Ex_expand 0 [mR 95, mI a1, mR a2, mI a3, mI a4, mN, mN] [] h cA pT (X a1 a2 a2n a3 a4 h)) {v2 : Nat} {h : MH} (L : LayC h) (ov2 : RoO h v2) : OK d k_Ex_takeToken 114 [mR 95, mN, mR v2, mN, mN, mN, mN, mN, mN] [] h cV pT (F_Ex_takeToken_114 X  v2 h) := by
  unfold F_Ex_takeToken_114
  refine z_go (fun Q hq => x_aload_n (dA d_Ex_takeToken 57 rfl) rfl rfl hq) ?_
  refine z_bnd (rest := []) (st1 := fun v => mI v :: []) (S_Ro_finishOne (d := 0) (Nat.le_refl _) L ov2) (fun _ hx => absurd hx List.not_mem_nil) (fun _ => rfl) (fun Q' Q => x_callV (as := []) (rest := []) (k' := k_Ro_finishOne) (dA d_Ex_takeToken 58 rfl) o_Ro_finishOne lk_Ex_69 im_Ro_finishOne se_Ro_finishOne rfl ov2.1 (by decide) (Nat.le_of_ble_eq_true rfl) (by omega) (Nat.le_of_ble_eq_true rfl)) (fun x27 h25 e26 p28 => ?_)
  have L29 := L.ext e26
  refine z_brn (fun Q => x_if_ne (dA d_Ex_takeToken 59 rfl) rfl p28.inR) (fun c30 => ?_) (fun c30 => ?_)
  · refine z_go (fun Q hq => x_aload_n (dA d_Ex_takeToken 60 rfl) rfl rfl (x_getR (dA d_Ex_takeToken 61 rfl) f_Ex_17 (L29.sh (x := (4, 4)) rfl) (by decide) (by decide) rfl (L29.rf 101 rfl) (x_iconst (dA d_Ex_takeToken 62 rfl) hq))) ?_
    refine z_bnd (rest := []) (st1 := fun _ => []) (S_To_fail (d := 0) (Nat.le_refl _) L29 (inR_lit (1 : Int) rfl)) (fun _ hx => absurd hx List.not_mem_nil) (fun _ => rfl) (fun Q' Q => x_callV (as := [mI (1 : Int)]) (rest := []) (k' := k_To_fail) (dA d_Ex_takeToken 63 rfl) o_To_fail lk_Ex_25 im_To_fail se_To_fail rfl (L29.sh (x := (11, 3)) rfl) (by decide) (Nat.le_of_ble_eq_true rfl) (by omega) (Nat.le_of_ble_eq_true rfl)) (fun x33 h31 e32 p34 => ?_)
    have L35 := L29.ext e32
    exact z_retv (dA d_Ex_takeToken 64 rfl) rfl
  · exact z_retv (dA d_Ex_takeToken 64 rfl) rfl
noncomputable def F_Ex_takeToken_80 (X : Int → Nat → Nat → Int → Int → MH → RS Nat) (v1 : Int) (v2 : Nat) (v5 : Int) (v6 : Int) (s0 : Int) (h : MH) : RS Unit := if v5 < 0 then F_Ex_takeToken_114 X v2 h else if v6 = 0 then if s0 = 0 then bnd (F_Ro_waitingAt v2 (1 : Int) h) fun x41 h39 => bnd (F_To_isSign x41 (40 : Int) h39) fun x46 h44 => if x46 = 0 then F_Ex_takeToken_114 X v2 h44 else F_Ex_takeToken_130 X v1 v2 v5 s0 h44 else F_Ex_takeToken_130 X v1 v2 v5 s0 h else F_Ex_takeToken_114 X v2 h
theorem S_Ex_takeToken_80 {d dX : Nat} (hd : dX + 9 ≤ d) {X : Int → Nat → Nat → Int → Int → MH → RS Nat} (hX : ∀ (a1 : Int) (a2 a2n : Nat) (a3 a4 : Int) (h : MH), LayC h → inR a1 → ArO h a2 103 a2n → inR a3 → inR a4 → OK dX k_Ex_expand 0 [mR 95, mI a1, mR a2, mI a3, mI a4, mN, mN] [] h cA pT (X a1 a2 a2n a3 a4 h)) {v1 : Int} {v2 : Nat} {v5 : Int} {v6 : Int} {s0 : Int} {h : MH} (L : LayC h) (rv1 : inR v1) (ov2 : RoO h v2) (rv5 : inR v5) (rv6 : inR v6) (rs0 : inR s0) : OK d k_Ex_takeToken 80 [mR 95, mI v1, mR v2, mN, mN, mI v5, mI v6, mN, mN] [mI s0] h cV pT (F_Ex_takeToken_80 X  v1 v2 v5 v6 s0 h) := by
  unfold F_Ex_takeToken_80
  refine z_go (fun Q hq => x_istore (dA d_Ex_takeToken 42 rfl) (by decide) rfl (x_iload (dA d_Ex_takeToken 43 rfl) rfl hq)) ?_
  refine z_br (fun Q => x_if_lt (dA d_Ex_takeToken 44 rfl) rfl rv5) (fun c36 => ?_) (fun c36 => ?_)
  · refine z_fgt (ls' := [mR 95, mN, mR v2, mN, mN, mN, mN, mN, mN]) ⟨.inr rfl, .inl rfl, .inr rfl, .inl rfl, .inl rfl, .inl rfl, .inl rfl, .inl rfl, .inl rfl, trivial⟩ ?_
    exact S_Ex_takeToken_114 hd hX  L ov2
  · refine z_go (fun Q hq => x_iload (dA d_Ex_takeToken 45 rfl) rfl hq) ?_
    refine z_brn (fun Q => x_if_ne (dA d_Ex_takeToken 46 rfl) rfl rv6) (fun c37 => ?_) (fun c37 => ?_)
    · refine z_go (fun Q hq => x_iload (dA d_Ex_takeToken 47 rfl) rfl hq) ?_
      refine z_brn (fun Q => x_if_ne (dA d_Ex_takeToken 48 rfl) rfl rs0) (fun c38 => ?_) (fun c38 => ?_)
      · refine z_go (fun Q hq => x_aload_n (dA d_Ex_takeToken 49 rfl) rfl rfl (x_getR (dA d_Ex_takeToken 50 rfl) f_Ex_17 (L.sh (x := (4, 4)) rfl) (by decide) (by decide) rfl (L.rf 101 rfl) (x_aload_n (dA d_Ex_takeToken 51 rfl) rfl rfl (x_iconst (dA d_Ex_takeToken 52 rfl) hq)))) ?_
        refine z_bnd (rest := [mR 87]) (st1 := fun v => mL v :: [mR 87]) (S_Ro_waitingAt (d := 0) (Nat.le_refl _) L ov2 (inR_lit (1 : Int) rfl)) (fun _ hx => absurd hx List.not_mem_nil) (fun _ => rfl) (fun Q' Q => x_callV (as := [mI (1 : Int)]) (rest := [mR 87]) (k' := k_Ro_waitingAt) (dA d_Ex_takeToken 53 rfl) o_Ro_waitingAt lk_Ex_44 im_Ro_waitingAt se_Ro_waitingAt rfl ov2.1 (by decide) (Nat.le_of_ble_eq_true rfl) (by omega) (Nat.le_of_ble_eq_true rfl)) (fun x41 h39 e40 p42 => ?_)
        have L43 := L.ext e40
        refine z_go (fun Q hq => x_bipush (dA d_Ex_takeToken 54 rfl) (by decide) hq) ?_
        refine z_bnd (rest := []) (st1 := fun v => mI v :: []) (S_To_isSign (d := 1) (Nat.le_refl _) L43 (ch_lit (40 : Int) rfl)) (fun _ hx => absurd hx List.not_mem_nil) (fun _ => rfl) (fun Q' Q => x_callV (as := [mL x41, mI (40 : Int)]) (rest := []) (k' := k_To_isSign) (dA d_Ex_takeToken 55 rfl) o_To_isSign lk_Ex_65 im_To_isSign se_To_isSign rfl (L43.sh (x := (11, 3)) rfl) (by decide) (Nat.le_of_ble_eq_true rfl) (by omega) (Nat.le_of_ble_eq_true rfl)) (fun x46 h44 e45 p47 => ?_)
        have L48 := L43.ext e45
        refine z_brn (fun Q => x_if_ne (dA d_Ex_takeToken 56 rfl) rfl p47.inR) (fun c49 => ?_) (fun c49 => ?_)
        · refine z_fgt (ls' := [mR 95, mN, mR v2, mN, mN, mN, mN, mN, mN]) ⟨.inr rfl, .inl rfl, .inr rfl, .inl rfl, .inl rfl, .inl rfl, .inl rfl, .inl rfl, .inl rfl, trivial⟩ ?_
          exact S_Ex_takeToken_114 hd hX  L48 ((ov2.ext e40).ext e45)
        · refine z_fgt (ls' := [mR 95, mI v1, mR v2, mN, mN, mI v5, mN, mI s0, mN]) ⟨.inr rfl, .inr rfl, .inr rfl, .inl rfl, .inl rfl, .inr rfl, .inl rfl, .inr rfl, .inl rfl, trivial⟩ ?_
          exact S_Ex_takeToken_130 hd hX  L48 rv1 ((ov2.ext e40).ext e45) rv5 rs0
      · refine z_fgt (ls' := [mR 95, mI v1, mR v2, mN, mN, mI v5, mN, mI s0, mN]) ⟨.inr rfl, .inr rfl, .inr rfl, .inl rfl, .inl rfl, .inr rfl, .inl rfl, .inr rfl, .inl rfl, trivial⟩ ?_
        exact S_Ex_takeToken_130 hd hX  L rv1 ov2 rv5 rs0
    · refine z_fgt (ls' := [mR 95, mN, mR v2, mN, mN, mN, mN, mN, mN]) ⟨.inr rfl, .inl rfl, .inr rfl, .inl rfl, .inl rfl, .inl rfl, .inl rfl, .inl rfl, .inl rfl, trivial⟩ ?_
      exact S_Ex_takeToken_114 hd hX  L ov2
noncomputable def F_Ex_takeToken_79 (X : Int → Nat → Nat → Int → Int → MH → RS Nat) (v1 : Int) (v2 : Nat) (v5 : Int) (v6 : Int) (h : MH) : RS Unit := F_Ex_takeToken_80 X v1 v2 v5 v6 (0 : Int) h
theorem S_Ex_takeToken_79 {d dX : Nat} (hd : dX + 9 ≤ d) {X : Int → Nat → Nat → Int → Int → MH → RS Nat} (hX : ∀ (a1 : Int) (a2 a2n : Nat) (a3 a4 : Int) (h : MH), LayC h → inR a1 → ArO h a2 103 a2n → inR a3 → inR a4 → OK dX k_Ex_expand 0 [mR 95, mI a1, mR a2, mI a3, mI a4, mN, mN] [] h cA pT (X a1 a2 a2n a3 a4 h)) {v1 : Int} {v2 : Nat} {v5 : Int} {v6 : Int} {h : MH} (L : LayC h) (rv1 : inR v1) (ov2 : RoO h v2) (rv5 : inR v5) (rv6 : inR v6) : OK d k_Ex_takeToken 79 [mR 95, mI v1, mR v2, mN, mN, mI v5, mI v6, mN, mN] [] h cV pT (F_Ex_takeToken_79 X  v1 v2 v5 v6 h) := by
  unfold F_Ex_takeToken_79
  refine z_go (fun Q hq => x_iconst (dA d_Ex_takeToken 41 rfl) hq) ?_
  exact S_Ex_takeToken_80 hd hX  L rv1 ov2 rv5 rv6 (inR_lit (0 : Int) rfl)
noncomputable def F_Ex_takeToken_54 (X : Int → Nat → Nat → Int → Int → MH → RS Nat) (v1 : Int) (v2 : Nat) (v5 : Int) (s0 : Int) (h : MH) : RS Unit := if v5 < 0 then F_Ex_takeToken_79 X v1 v2 v5 s0 h else gd (0 ≤ v5 ∧ v5 < 8) (if (mGi h 91 v5.toNat) = (-1 : Int) then F_Ex_takeToken_80 X v1 v2 v5 s0 (1 : Int) h else F_Ex_takeToken_79 X v1 v2 v5 s0 h)
theorem S_Ex_takeToken_54 {d dX : Nat} (hd : dX + 9 ≤ d) {X : Int → Nat → Nat → Int → Int → MH → RS Nat} (hX : ∀ (a1 : Int) (a2 a2n : Nat) (a3 a4 : Int) (h : MH), LayC h → inR a1 → ArO h a2 103 a2n → inR a3 → inR a4 → OK dX k_Ex_expand 0 [mR 95, mI a1, mR a2, mI a3, mI a4, mN, mN] [] h cA pT (X a1 a2 a2n a3 a4 h)) {v1 : Int} {v2 : Nat} {v5 : Int} {s0 : Int} {h : MH} (L : LayC h) (rv1 : inR v1) (ov2 : RoO h v2) (rv5 : inR v5) (rs0 : inR s0) : OK d k_Ex_takeToken 54 [mR 95, mI v1, mR v2, mN, mN, mI v5, mN, mN, mN] [mI s0] h cV pT (F_Ex_takeToken_54 X  v1 v2 v5 s0 h) := by
  unfold F_Ex_takeToken_54
  refine z_go (fun Q hq => x_istore (dA d_Ex_takeToken 29 rfl) (by decide) rfl (x_iload (dA d_Ex_takeToken 30 rfl) rfl hq)) ?_
  refine z_br (fun Q => x_if_lt (dA d_Ex_takeToken 31 rfl) rfl rv5) (fun c50 => ?_) (fun c50 => ?_)
  · exact S_Ex_takeToken_79 hd hX  L rv1 ov2 rv5 rs0
  · refine z_go (fun Q hq => x_aload_n (dA d_Ex_takeToken 32 rfl) rfl rfl (x_getR (dA d_Ex_takeToken 33 rfl) f_Ex_21 (L.sh (x := (4, 4)) rfl) (by decide) (by decide) rfl (L.rf 102 rfl) (x_getR (dA d_Ex_takeToken 34 rfl) f_Ex_61 (L.sh (x := (8, 5)) rfl) (by decide) (by decide) rfl (L.rf 97 rfl) (x_iload (dA d_Ex_takeToken 35 rfl) rfl hq)))) ?_
    refine z_gd (fun g51 => ?_)
    refine z_go (fun Q hq => x_iald (dA d_Ex_takeToken 36 rfl) (L.sh (x := (100, 8)) rfl) g51.1 g51.2 (by decide) (x_iconst (dA d_Ex_takeToken 37 rfl) hq)) ?_
    refine z_brn (fun Q => x_icmp_ne (dA d_Ex_takeToken 38 rfl) rfl (L.rg _ _) (inR_lit (-1 : Int) rfl)) (fun c52 => ?_) (fun c52 => ?_)
    · refine z_go (fun Q hq => x_iconst (dA d_Ex_takeToken 39 rfl) (x_goto (dA d_Ex_takeToken 40 rfl) rfl hq)) ?_
      exact S_Ex_takeToken_80 hd hX  L rv1 ov2 rv5 rs0 (inR_lit (1 : Int) rfl)
    · exact S_Ex_takeToken_79 hd hX  L rv1 ov2 rv5 rs0
noncomputable def F_Ex_takeToken_53 (X : Int → Nat → Nat → Int → Int → MH → RS Nat) (v1 : Int) (v2 : Nat) (v5 : Int) (h : MH) : RS Unit := F_Ex_takeToken_54 X v1 v2 v5 (0 : Int) h
theorem S_Ex_takeToken_53 {d dX : Nat} (hd : dX + 9 ≤ d) {X : Int → Nat → Nat → Int → Int → MH → RS Nat} (hX : ∀ (a1 : Int) (a2 a2n : Nat) (a3 a4 : Int) (h : MH), LayC h → inR a1 → ArO h a2 103 a2n → inR a3 → inR a4 → OK dX k_Ex_expand 0 [mR 95, mI a1, mR a2, mI a3, mI a4, mN, mN] [] h cA pT (X a1 a2 a2n a3 a4 h)) {v1 : Int} {v2 : Nat} {v5 : Int} {h : MH} (L : LayC h) (rv1 : inR v1) (ov2 : RoO h v2) (rv5 : inR v5) : OK d k_Ex_takeToken 53 [mR 95, mI v1, mR v2, mN, mN, mI v5, mN, mN, mN] [] h cV pT (F_Ex_takeToken_53 X  v1 v2 v5 h) := by
  unfold F_Ex_takeToken_53
  refine z_go (fun Q hq => x_iconst (dA d_Ex_takeToken 28 rfl) hq) ?_
  exact S_Ex_takeToken_54 hd hX  L rv1 ov2 rv5 (inR_lit (0 : Int) rfl)
noncomputable def F_Ex_takeToken_30 (X : Int → Nat → Nat → Int → Int → MH → RS Nat) (v1 : Int) (v2 : Nat) (v3 : Int64) (s0 : Int) (h : MH) : RS Unit := if s0 < 0 then F_Ex_takeToken_53 X v1 v2 s0 h else bnd (F_To_hides v3 h) fun x56 h54 => if (iAnd (iShr x56 s0) (1 : Int)) = 0 then F_Ex_takeToken_53 X v1 v2 s0 h54 else F_Ex_takeToken_54 X v1 v2 s0 (1 : Int) h54
theorem S_Ex_takeToken_30 {d dX : Nat} (hd : dX + 9 ≤ d) {X : Int → Nat → Nat → Int → Int → MH → RS Nat} (hX : ∀ (a1 : Int) (a2 a2n : Nat) (a3 a4 : Int) (h : MH), LayC h → inR a1 → ArO h a2 103 a2n → inR a3 → inR a4 → OK dX k_Ex_expand 0 [mR 95, mI a1, mR a2, mI a3, mI a4, mN, mN] [] h cA pT (X a1 a2 a2n a3 a4 h)) {v1 : Int} {v2 : Nat} {v3 : Int64} {s0 : Int} {h : MH} (L : LayC h) (rv1 : inR v1) (ov2 : RoO h v2) (rs0 : inR s0) : OK d k_Ex_takeToken 30 [mR 95, mI v1, mR v2, mL v3, mN, mN, mN, mN, mN] [mI s0] h cV pT (F_Ex_takeToken_30 X  v1 v2 v3 s0 h) := by
  unfold F_Ex_takeToken_30
  refine z_go (fun Q hq => x_istore (dA d_Ex_takeToken 16 rfl) (by decide) rfl (x_iload (dA d_Ex_takeToken 17 rfl) rfl hq)) ?_
  refine z_br (fun Q => x_if_lt (dA d_Ex_takeToken 18 rfl) rfl rs0) (fun c53 => ?_) (fun c53 => ?_)
  · refine z_fgt (ls' := [mR 95, mI v1, mR v2, mN, mN, mI s0, mN, mN, mN]) ⟨.inr rfl, .inr rfl, .inr rfl, .inl rfl, .inl rfl, .inr rfl, .inl rfl, .inl rfl, .inl rfl, trivial⟩ ?_
    exact S_Ex_takeToken_53 hd hX  L rv1 ov2 rs0
  · refine z_go (fun Q hq => x_lload_n (dA d_Ex_takeToken 19 rfl) rfl rfl hq) ?_
    refine z_bnd (rest := []) (st1 := fun v => mI v :: []) (S_To_hides (d := 0) (Nat.le_refl _) L ) (fun _ hx => absurd hx List.not_mem_nil) (fun _ => rfl) (fun Q' Q => x_callS (as := [mL v3]) (rest := []) (k' := k_To_hides) (dA d_Ex_takeToken 20 rfl) o_To_hides lk_Ex_58 st_To_hides (Nat.le_of_ble_eq_true rfl) (by omega) (Nat.le_of_ble_eq_true rfl)) (fun x56 h54 e55 p57 => ?_)
    have L58 := L.ext e55
    refine z_go (fun Q hq => x_iload (dA d_Ex_takeToken 21 rfl) rfl (x_shrI (dA d_Ex_takeToken 22 rfl) (x_iconst (dA d_Ex_takeToken 23 rfl) (x_andI (dA d_Ex_takeToken 24 rfl) hq)))) ?_
    refine z_br (fun Q => x_if_eq (dA d_Ex_takeToken 25 rfl) rfl (inR_and _ _)) (fun c59 => ?_) (fun c59 => ?_)
    · refine z_fgt (ls' := [mR 95, mI v1, mR v2, mN, mN, mI s0, mN, mN, mN]) ⟨.inr rfl, .inr rfl, .inr rfl, .inl rfl, .inl rfl, .inr rfl, .inl rfl, .inl rfl, .inl rfl, trivial⟩ ?_
      exact S_Ex_takeToken_53 hd hX  L58 rv1 (ov2.ext e55) rs0
    · refine z_go (fun Q hq => x_iconst (dA d_Ex_takeToken 26 rfl) (x_goto (dA d_Ex_takeToken 27 rfl) rfl hq)) ?_
      refine z_fgt (ls' := [mR 95, mI v1, mR v2, mN, mN, mI s0, mN, mN, mN]) ⟨.inr rfl, .inr rfl, .inr rfl, .inl rfl, .inl rfl, .inr rfl, .inl rfl, .inl rfl, .inl rfl, trivial⟩ ?_
      exact S_Ex_takeToken_54 hd hX  L58 rv1 (ov2.ext e55) rs0 (inR_lit (1 : Int) rfl)
noncomputable def F_Ex_takeToken (X : Int → Nat → Nat → Int → Int → MH → RS Nat) (a1 : Int) (a2 : Nat) (h : MH) : RS Unit := bnd (F_Ro_waitingAt a2 (0 : Int) h) fun x62 h60 => bnd (F_To_kind x62 h60) fun x67 h65 => if x67 = (1 : Int) then bnd (F_Na_find x62 h65) fun x73 h71 => F_Ex_takeToken_30 X a1 a2 x62 x73 h71 else F_Ex_takeToken_30 X a1 a2 x62 (-1 : Int) h65
theorem S_Ex_takeToken {d dX : Nat} (hd : dX + 9 ≤ d) {X : Int → Nat → Nat → Int → Int → MH → RS Nat} (hX : ∀ (a1 : Int) (a2 a2n : Nat) (a3 a4 : Int) (h : MH), LayC h → inR a1 → ArO h a2 103 a2n → inR a3 → inR a4 → OK dX k_Ex_expand 0 [mR 95, mI a1, mR a2, mI a3, mI a4, mN, mN] [] h cA pT (X a1 a2 a2n a3 a4 h)) {a1 : Int} {a2 : Nat} {h : MH} (L : LayC h) (ra1 : inR a1) (oa2 : RoO h a2) : OK d k_Ex_takeToken 0 [mR 95, mI a1, mR a2, mN, mN, mN, mN, mN, mN] [] h cV pT (F_Ex_takeToken X  a1 a2 h) := by
  unfold F_Ex_takeToken
  refine z_go (fun Q hq => x_aload_n (dA d_Ex_takeToken 0 rfl) rfl rfl (x_iconst (dA d_Ex_takeToken 1 rfl) hq)) ?_
  refine z_bnd (rest := []) (st1 := fun v => mL v :: []) (S_Ro_waitingAt (d := 0) (Nat.le_refl _) L oa2 (inR_lit (0 : Int) rfl)) (fun _ hx => absurd hx List.not_mem_nil) (fun _ => rfl) (fun Q' Q => x_callV (as := [mI (0 : Int)]) (rest := []) (k' := k_Ro_waitingAt) (dA d_Ex_takeToken 2 rfl) o_Ro_waitingAt lk_Ex_44 im_Ro_waitingAt se_Ro_waitingAt rfl oa2.1 (by decide) (Nat.le_of_ble_eq_true rfl) (by omega) (Nat.le_of_ble_eq_true rfl)) (fun x62 h60 e61 p63 => ?_)
  have L64 := L.ext e61
  refine z_go (fun Q hq => x_lstore_n (dA d_Ex_takeToken 3 rfl) rfl (by decide) rfl (x_lload_n (dA d_Ex_takeToken 4 rfl) rfl rfl hq)) ?_
  refine z_bnd (rest := []) (st1 := fun v => mI v :: []) (S_To_kind (d := 0) (Nat.le_refl _) L64 ) (fun _ hx => absurd hx List.not_mem_nil) (fun _ => rfl) (fun Q' Q => x_callS (as := [mL x62]) (rest := []) (k' := k_To_kind) (dA d_Ex_takeToken 5 rfl) o_To_kind lk_Ex_48 st_To_kind (Nat.le_of_ble_eq_true rfl) (by omega) (Nat.le_of_ble_eq_true rfl)) (fun x67 h65 e66 p68 => ?_)
  have L69 := L64.ext e66
  refine z_go (fun Q hq => x_iconst (dA d_Ex_takeToken 6 rfl) hq) ?_
  refine z_brn (fun Q => x_icmp_ne (dA d_Ex_takeToken 7 rfl) rfl p68 (inR_lit (1 : Int) rfl)) (fun c70 => ?_) (fun c70 => ?_)
  · refine z_go (fun Q hq => x_aload_n (dA d_Ex_takeToken 8 rfl) rfl rfl (x_getR (dA d_Ex_takeToken 9 rfl) f_Ex_21 (L69.sh (x := (4, 4)) rfl) (by decide) (by decide) rfl (L69.rf 102 rfl) (x_aload_n (dA d_Ex_takeToken 10 rfl) rfl rfl (x_getR (dA d_Ex_takeToken 11 rfl) f_Ex_17 (L69.sh (x := (4, 4)) rfl) (by decide) (by decide) rfl (L69.rf 101 rfl) (x_lload_n (dA d_Ex_takeToken 12 rfl) rfl rfl hq))))) ?_
    refine z_bnd (rest := []) (st1 := fun v => mI v :: []) (S_Na_find (d := 2) (Nat.le_refl _) L69 ) (fun _ hx => absurd hx List.not_mem_nil) (fun _ => rfl) (fun Q' Q => x_callV (as := [mR 87, mL x62]) (rest := []) (k' := k_Na_find) (dA d_Ex_takeToken 13 rfl) o_Na_find lk_Ex_52 im_Na_find se_Na_find rfl (L69.sh (x := (8, 5)) rfl) (by decide) (Nat.le_of_ble_eq_true rfl) (by omega) (Nat.le_of_ble_eq_true rfl)) (fun x73 h71 e72 p74 => ?_)
    have L75 := L69.ext e72
    refine z_go (fun Q hq => x_goto (dA d_Ex_takeToken 14 rfl) rfl hq) ?_
    exact S_Ex_takeToken_30 hd hX  L75 ra1 (((oa2.ext e61).ext e66).ext e72) p74
  · refine z_go (fun Q hq => x_iconst (dA d_Ex_takeToken 15 rfl) hq) ?_
    exact S_Ex_takeToken_30 hd hX  L69 ra1 ((oa2.ext e61).ext e66) (inR_lit (-1 : Int) rfl)
/-! TwoMills$Row.begin([JII)Z -/
noncomputable def F_Ro_begin (r : Nat) (a1 : Nat) (a1n : Nat) (a2 : Int) (a3 : Int) (h : MH) : RS Int := if a3 ≤ (100 : Int) then gd (inR ((100 : Int) - a3)) (sto (mPi h r 1 ((100 : Int) - a3)) fun h3 => gd (0 ≤ a2 ∧ 0 ≤ (mGi h3 r 1) ∧ 0 ≤ a3 ∧ a2 + a3 ≤ a1n ∧ (mGi h3 r 1) + a3 ≤ 100) (sto (mCpL h3 a1 (r + 1) a2.toNat (mGi h3 r 1).toNat a3.toNat) fun h7 => sto (mPi h7 r 3 (0 : Int)) fun h10 => some (.inl (1 : Int), h10))) else some (.inl (0 : Int), h)
theorem S_Ro_begin {d : Nat} (hd : 0 ≤ d) {r : Nat} {a1 : Nat} {a1n : Nat} {a2 : Int} {a3 : Int} {h : MH} (L : LayC h) (or : RoO h r) (oa1 : ArO h a1 103 a1n) (ra2 : inR a2) (ra3 : inR a3) : OK d k_Ro_begin 0 [mR r, mR a1, mI a2, mI a3] [] h cI p01 (F_Ro_begin  r a1 a1n a2 a3 h) := by
  unfold F_Ro_begin
  refine z_go (fun Q hq => x_iload_n (dA d_Ro_begin 0 rfl) rfl rfl (x_bipush (dA d_Ro_begin 1 rfl) (by decide) hq)) ?_
  refine z_br (fun Q => x_icmp_le (dA d_Ro_begin 2 rfl) rfl ra3 (inR_lit (100 : Int) rfl)) (fun c1 => ?_) (fun c1 => ?_)
  · refine z_go (fun Q hq => x_aload_n (dA d_Ro_begin 5 rfl) rfl rfl (x_bipush (dA d_Ro_begin 6 rfl) (by decide) (x_iload_n (dA d_Ro_begin 7 rfl) rfl rfl hq))) ?_
    refine z_gd (fun g2 => ?_)
    refine z_go (fun Q hq => x_isub (dA d_Ro_begin 8 rfl) hq) ?_
    refine z_sto (Ext.pi or.1 (by decide) g2) (fun Q hq => x_putI (dA d_Ro_begin 9 rfl) p_Ro_13 or.1 (by decide) cl_Ro rfl hq) (fun h3 e4 => ?_)
    have L5 := L.ext e4
    refine z_go (fun Q hq => x_aload_n (dA d_Ro_begin 10 rfl) rfl rfl (x_iload_n (dA d_Ro_begin 11 rfl) rfl rfl (x_aload_n (dA d_Ro_begin 12 rfl) rfl rfl (x_getR (dA d_Ro_begin 13 rfl) f_Ro_9 (or.ext e4).1 (by decide) (by decide) rfl (or.ext e4).2.1.1 (x_aload_n (dA d_Ro_begin 14 rfl) rfl rfl (x_getI (dA d_Ro_begin 15 rfl) f_Ro_13 (or.ext e4).1 (by decide) (by decide) rfl (x_iload_n (dA d_Ro_begin 16 rfl) rfl rfl hq))))))) ?_
    refine z_gd (fun g6 => ?_)
    refine z_sto Ext.cpL (fun Q hq => x_copyJI (dA d_Ro_begin 17 rfl) lk_Ro_29 (oa1.ext e4).1 (show ArO _ _ _ _ from ⟨(or.ext e4).2.2.1, by decide⟩).1 g6 (oa1.ext e4).2 (show ArO _ _ _ _ from ⟨(or.ext e4).2.2.1, by decide⟩).2 (Nat.le_of_ble_eq_true rfl) hq) (fun h7 e8 => ?_)
    have L9 := L5.ext e8
    refine z_go (fun Q hq => x_aload_n (dA d_Ro_begin 18 rfl) rfl rfl (x_iconst (dA d_Ro_begin 19 rfl) hq)) ?_
    refine z_sto (Ext.pi ((or.ext e4).ext e8).1 (by decide) (inR_lit (0 : Int) rfl)) (fun Q hq => x_putI (dA d_Ro_begin 20 rfl) p_Ro_35 ((or.ext e4).ext e8).1 (by decide) cl_Ro rfl hq) (fun h10 e11 => ?_)
    have L12 := L9.ext e11
    refine z_go (fun Q hq => x_iconst (dA d_Ro_begin 21 rfl) hq) ?_
    exact z_retz (dA d_Ro_begin 22 rfl) rfl (.inr rfl)
  · refine z_go (fun Q hq => x_iconst (dA d_Ro_begin 3 rfl) hq) ?_
    exact z_retz (dA d_Ro_begin 4 rfl) rfl (.inl rfl)
/-! TwoMills$Expander.expand(I[JII)LTwoMills$Row; -/
noncomputable def F_Ex_expand_67_b (X : Int → Nat → Nat → Int → Int → MH → RS Nat) (G67 : Int → Nat → Int → MH → RS Nat) (v1 : Int) (v5 : Nat) (v6 : Int) (h : MH) : RS Nat := if (500 : Int) < v6 then some (.inl v5, h) else if (100 : Int) ≤ (mGi h v5 1) then some (.inl v5, h) else bnd (F_Ex_takeToken X v1 v5 h) fun x5 h3 => gd (inR (v6 + (1 : Int))) (G67 v1 v5 (v6 + (1 : Int)) h3)
theorem S_Ex_expand_67_b {d dX : Nat} (hd : dX + 10 ≤ d) {X : Int → Nat → Nat → Int → Int → MH → RS Nat} (hX : ∀ (a1 : Int) (a2 a2n : Nat) (a3 a4 : Int) (h : MH), LayC h → inR a1 → ArO h a2 103 a2n → inR a3 → inR a4 → OK dX k_Ex_expand 0 [mR 95, mI a1, mR a2, mI a3, mI a4, mN, mN] [] h cA pT (X a1 a2 a2n a3 a4 h)) {G67 : Int → Nat → Int → MH → RS Nat} (hG67 : ∀ (v1 : Int) (v5 : Nat) (v6 : Int) (h : MH), LayC h → inR v1 → RoO h v5 → inR v6 → OK d k_Ex_expand 67 [mR 95, mI v1, mN, mN, mN, mR v5, mI v6] [] h cA pT (G67 v1 v5 v6 h)) {v1 : Int} {v5 : Nat} {v6 : Int} {h : MH} (L : LayC h) (rv1 : inR v1) (ov5 : RoO h v5) (rv6 : inR v6) : OK d k_Ex_expand 67 [mR 95, mI v1, mN, mN, mN, mR v5, mI v6] [] h cA pT (F_Ex_expand_67_b X G67 v1 v5 v6 h) := by
  unfold F_Ex_expand_67_b
  refine z_go (fun Q hq => x_iload (dA d_Ex_expand 36 rfl) rfl (x_sipush (dA d_Ex_expand 37 rfl) (by decide) hq)) ?_
  refine z_br (fun Q => x_icmp_gt (dA d_Ex_expand 38 rfl) rfl rv6 (inR_lit (500 : Int) rfl)) (fun c1 => ?_) (fun c1 => ?_)
  · refine z_go (fun Q hq => x_aload (dA d_Ex_expand 49 rfl) rfl hq) ?_
    exact z_reta (dA d_Ex_expand 50 rfl) rfl
  · refine z_go (fun Q hq => x_aload (dA d_Ex_expand 39 rfl) rfl (x_getI (dA d_Ex_expand 40 rfl) f_Ex_36 ov5.1 (by decide) (by decide) rfl (x_bipush (dA d_Ex_expand 41 rfl) (by decide) hq))) ?_
    refine z_br (fun Q => x_icmp_ge (dA d_Ex_expand 42 rfl) rfl (L.rg _ _) (inR_lit (100 : Int) rfl)) (fun c2 => ?_) (fun c2 => ?_)
    · refine z_go (fun Q hq => x_aload (dA d_Ex_expand 49 rfl) rfl hq) ?_
      exact z_reta (dA d_Ex_expand 50 rfl) rfl
    · refine z_go (fun Q hq => x_aload_n (dA d_Ex_expand 43 rfl) rfl rfl (x_iload_n (dA d_Ex_expand 44 rfl) rfl rfl (x_aload (dA d_Ex_expand 45 rfl) rfl hq))) ?_
      refine z_bnd (rest := []) (st1 := fun _ => []) (S_Ex_takeToken (d := dX + 9) (Nat.le_refl _) hX L rv1 ov5) (fun _ hx => absurd hx List.not_mem_nil) (fun _ => rfl) (fun Q' Q => x_callV (as := [mI v1, mR v5]) (rest := []) (k' := k_Ex_takeToken) (dA d_Ex_expand 46 rfl) o_Ex_takeToken lk_Ex_40 im_Ex_takeToken se_Ex_takeToken rfl (L.sh (x := (4, 4)) rfl) (by decide) (Nat.le_of_ble_eq_true rfl) (by omega) (Nat.le_of_ble_eq_true rfl)) (fun x5 h3 e4 p6 => ?_)
      have L7 := L.ext e4
      refine z_gd (fun g8 => ?_)
      refine z_go (fun Q hq => x_iinc (dA d_Ex_expand 47 rfl) rfl (by decide) rfl (x_goto (dA d_Ex_expand 48 rfl) rfl hq)) ?_
      exact hG67 v1 v5 (v6 + (1 : Int)) h3 L7 rv1 (ov5.ext e4) g8
noncomputable def F_Ex_expand_67 (X : Int → Nat → Nat → Int → Int → MH → RS Nat) (v1 : Int) (v5 : Nat) (v6 : Int) (h : MH) : RS Nat := itr (fun self (q : Int × Nat × Int × MH) => F_Ex_expand_67_b X (fun v1 v5 v6 h => self (v1, v5, v6, h)) q.1 q.2.1 q.2.2.1 q.2.2.2) FU (v1, v5, v6, h)
theorem S_Ex_expand_67 {d dX : Nat} (hd : dX + 10 ≤ d) {X : Int → Nat → Nat → Int → Int → MH → RS Nat} (hX : ∀ (a1 : Int) (a2 a2n : Nat) (a3 a4 : Int) (h : MH), LayC h → inR a1 → ArO h a2 103 a2n → inR a3 → inR a4 → OK dX k_Ex_expand 0 [mR 95, mI a1, mR a2, mI a3, mI a4, mN, mN] [] h cA pT (X a1 a2 a2n a3 a4 h)) {v1 : Int} {v5 : Nat} {v6 : Int} {h : MH} (L : LayC h) (rv1 : inR v1) (ov5 : RoO h v5) (rv6 : inR v6) : OK d k_Ex_expand 67 [mR 95, mI v1, mN, mN, mN, mR v5, mI v6] [] h cA pT (F_Ex_expand_67 X  v1 v5 v6 h) := by
  unfold F_Ex_expand_67
  refine z_itr (P := fun q : Int × Nat × Int × MH => LayC q.2.2.2 ∧ inR q.1 ∧ RoO q.2.2.2 q.2.1 ∧ inR q.2.2.1 ∧ True) (ls := fun q : Int × Nat × Int × MH => [mR 95, mI q.1, mN, mN, mN, mR q.2.1, mI q.2.2.1]) (hp := fun q : Int × Nat × Int × MH => q.2.2.2) (fun self hs q hq => ?_) FU (v1, v5, v6, h) ⟨L, rv1, ov5, rv6, trivial⟩
  exact S_Ex_expand_67_b hd hX (fun v1 v5 v6 h L rv1 ov5 rv6 => hs (v1, v5, v6, h) ⟨L, rv1, ov5, rv6, trivial⟩) hq.1 hq.2.1 hq.2.2.1 hq.2.2.2.1
noncomputable def F_Ex_expand_64 (X : Int → Nat → Nat → Int → Int → MH → RS Nat) (v1 : Int) (v5 : Nat) (h : MH) : RS Nat := F_Ex_expand_67 X v1 v5 (0 : Int) h
theorem S_Ex_expand_64 {d dX : Nat} (hd : dX + 10 ≤ d) {X : Int → Nat → Nat → Int → Int → MH → RS Nat} (hX : ∀ (a1 : Int) (a2 a2n : Nat) (a3 a4 : Int) (h : MH), LayC h → inR a1 → ArO h a2 103 a2n → inR a3 → inR a4 → OK dX k_Ex_expand 0 [mR 95, mI a1, mR a2, mI a3, mI a4, mN, mN] [] h cA pT (X a1 a2 a2n a3 a4 h)) {v1 : Int} {v5 : Nat} {h : MH} (L : LayC h) (rv1 : inR v1) (ov5 : RoO h v5) : OK d k_Ex_expand 64 [mR 95, mI v1, mN, mN, mN, mR v5, mN] [] h cA pT (F_Ex_expand_64 X  v1 v5 h) := by
  unfold F_Ex_expand_64
  refine z_go (fun Q hq => x_iconst (dA d_Ex_expand 34 rfl) (x_istore (dA d_Ex_expand 35 rfl) (by decide) rfl hq)) ?_
  exact S_Ex_expand_67 hd hX  L rv1 ov5 (inR_lit (0 : Int) rfl)
noncomputable def F_Ex_expand_36 (X : Int → Nat → Nat → Int → Int → MH → RS Nat) (v1 : Int) (v2 : Nat) (v2n : Nat) (v3 : Int) (v4 : Int) (h : MH) : RS Nat := gd (0 ≤ v1 ∧ v1 < 8) (bR (mGr h 96 v1.toNat) fun r10 => gd (RoO h r10) (bnd (F_Ro_begin r10 v2 v2n v3 v4 h) fun x15 h13 => if x15 = 0 then bnd (F_To_fail (1 : Int) h13) fun x21 h19 => F_Ex_expand_64 X v1 r10 h19 else F_Ex_expand_64 X v1 r10 h13))
theorem S_Ex_expand_36 {d dX : Nat} (hd : dX + 10 ≤ d) {X : Int → Nat → Nat → Int → Int → MH → RS Nat} (hX : ∀ (a1 : Int) (a2 a2n : Nat) (a3 a4 : Int) (h : MH), LayC h → inR a1 → ArO h a2 103 a2n → inR a3 → inR a4 → OK dX k_Ex_expand 0 [mR 95, mI a1, mR a2, mI a3, mI a4, mN, mN] [] h cA pT (X a1 a2 a2n a3 a4 h)) {v1 : Int} {v2 : Nat} {v2n : Nat} {v3 : Int} {v4 : Int} {h : MH} (L : LayC h) (rv1 : inR v1) (ov2 : ArO h v2 103 v2n) (rv3 : inR v3) (rv4 : inR v4) : OK d k_Ex_expand 36 [mR 95, mI v1, mR v2, mI v3, mI v4, mN, mN] [] h cA pT (F_Ex_expand_36 X  v1 v2 v2n v3 v4 h) := by
  unfold F_Ex_expand_36
  refine z_go (fun Q hq => x_aload_n (dA d_Ex_expand 19 rfl) rfl rfl (x_getR (dA d_Ex_expand 20 rfl) f_Ex_13 (L.sh (x := (4, 4)) rfl) (by decide) (by decide) rfl (L.rf 103 rfl) (x_iload_n (dA d_Ex_expand 21 rfl) rfl rfl hq))) ?_
  refine z_gd (fun g9 => ?_)
  refine z_bR (fun r10 q11 => ?_)
  refine z_gd (fun g12 => ?_)
  refine z_go (fun Q hq => x_aald (dA d_Ex_expand 22 rfl) (L.sh (x := (111, 8)) rfl) (.inr rfl) g9.1 g9.2 (by decide) q11 (x_astore (dA d_Ex_expand 23 rfl) (by decide) rfl (x_aload (dA d_Ex_expand 24 rfl) rfl (x_aload_n (dA d_Ex_expand 25 rfl) rfl rfl (x_iload_n (dA d_Ex_expand 26 rfl) rfl rfl (x_iload (dA d_Ex_expand 27 rfl) rfl hq)))))) ?_
  refine z_bnd (rest := []) (st1 := fun v => mI v :: []) (S_Ro_begin (d := 0) (Nat.le_refl _) L g12 ov2 rv3 rv4) (fun _ hx => absurd hx List.not_mem_nil) (fun _ => rfl) (fun Q' Q => x_callV (as := [mR v2, mI v3, mI v4]) (rest := []) (k' := k_Ro_begin) (dA d_Ex_expand 28 rfl) o_Ro_begin lk_Ex_32 im_Ro_begin se_Ro_begin rfl g12.1 (by decide) (Nat.le_of_ble_eq_true rfl) (by omega) (Nat.le_of_ble_eq_true rfl)) (fun x15 h13 e14 p16 => ?_)
  have L17 := L.ext e14
  refine z_brn (fun Q => x_if_ne (dA d_Ex_expand 29 rfl) rfl p16.inR) (fun c18 => ?_) (fun c18 => ?_)
  · refine z_go (fun Q hq => x_aload_n (dA d_Ex_expand 30 rfl) rfl rfl (x_getR (dA d_Ex_expand 31 rfl) f_Ex_17 (L17.sh (x := (4, 4)) rfl) (by decide) (by decide) rfl (L17.rf 101 rfl) (x_iconst (dA d_Ex_expand 32 rfl) hq))) ?_
    refine z_bnd (rest := []) (st1 := fun _ => []) (S_To_fail (d := 0) (Nat.le_refl _) L17 (inR_lit (1 : Int) rfl)) (fun _ hx => absurd hx List.not_mem_nil) (fun _ => rfl) (fun Q' Q => x_callV (as := [mI (1 : Int)]) (rest := []) (k' := k_To_fail) (dA d_Ex_expand 33 rfl) o_To_fail lk_Ex_25 im_To_fail se_To_fail rfl (L17.sh (x := (11, 3)) rfl) (by decide) (Nat.le_of_ble_eq_true rfl) (by omega) (Nat.le_of_ble_eq_true rfl)) (fun x21 h19 e20 p22 => ?_)
    have L23 := L17.ext e20
    refine z_fgt (ls' := [mR 95, mI v1, mN, mN, mN, mR r10, mN]) ⟨.inr rfl, .inr rfl, .inl rfl, .inl rfl, .inl rfl, .inr rfl, .inl rfl, trivial⟩ ?_
    exact S_Ex_expand_64 hd hX  L23 rv1 ((g12.ext e14).ext e20)
  · refine z_fgt (ls' := [mR 95, mI v1, mN, mN, mN, mR r10, mN]) ⟨.inr rfl, .inr rfl, .inl rfl, .inl rfl, .inl rfl, .inr rfl, .inl rfl, trivial⟩ ?_
    exact S_Ex_expand_64 hd hX  L17 rv1 (g12.ext e14)
noncomputable def F_Ex_expand_14 (X : Int → Nat → Nat → Int → Int → MH → RS Nat) (v1 : Int) (v2 : Nat) (v2n : Nat) (v3 : Int) (v4 : Int) (h : MH) : RS Nat := gd (0 ≤ v1 ∧ v1 < 8) (if mGr h 96 v1.toNat = none then gd (rmR h) (sto (mRow h v1.toNat) fun h27 => F_Ex_expand_36 X v1 v2 v2n v3 v4 h27) else F_Ex_expand_36 X v1 v2 v2n v3 v4 h)
theorem S_Ex_expand_14 {d dX : Nat} (hd : dX + 10 ≤ d) {X : Int → Nat → Nat → Int → Int → MH → RS Nat} (hX : ∀ (a1 : Int) (a2 a2n : Nat) (a3 a4 : Int) (h : MH), LayC h → inR a1 → ArO h a2 103 a2n → inR a3 → inR a4 → OK dX k_Ex_expand 0 [mR 95, mI a1, mR a2, mI a3, mI a4, mN, mN] [] h cA pT (X a1 a2 a2n a3 a4 h)) {v1 : Int} {v2 : Nat} {v2n : Nat} {v3 : Int} {v4 : Int} {h : MH} (L : LayC h) (rv1 : inR v1) (ov2 : ArO h v2 103 v2n) (rv3 : inR v3) (rv4 : inR v4) : OK d k_Ex_expand 14 [mR 95, mI v1, mR v2, mI v3, mI v4, mN, mN] [] h cA pT (F_Ex_expand_14 X  v1 v2 v2n v3 v4 h) := by
  unfold F_Ex_expand_14
  refine z_go (fun Q hq => x_aload_n (dA d_Ex_expand 7 rfl) rfl rfl (x_getR (dA d_Ex_expand 8 rfl) f_Ex_13 (L.sh (x := (4, 4)) rfl) (by decide) (by decide) rfl (L.rf 103 rfl) (x_iload_n (dA d_Ex_expand 9 rfl) rfl rfl hq))) ?_
  refine z_gd (fun g24 => ?_)
  refine z_ite (fun c25 => ?_) (fun c25 => ?_)
  · refine z_go (fun Q hq => x_aaldN (dA d_Ex_expand 10 rfl) (L.sh (x := (111, 8)) rfl) (.inr rfl) g24.1 g24.2 (by decide) c25 (x_ifnonnullN (dA d_Ex_expand 11 rfl) (tgt := 36) rfl hq)) ?_
    refine z_go (fun Q hq => x_aload_n (dA d_Ex_expand 12 rfl) rfl rfl (x_getR (dA d_Ex_expand 13 rfl) f_Ex_13 (L.sh (x := (4, 4)) rfl) (by decide) (by decide) rfl (L.rf 103 rfl) (x_iload_n (dA d_Ex_expand 14 rfl) rfl rfl hq))) ?_
    refine z_gd (fun g26 => ?_)
    refine z_sto (Ext.row (by have := (List.getElem?_eq_some_iff.mp (L.sh (a := 149) (x := (103, 1)) rfl)).1; omega) c25) (fun Q hq => x_rowN (by omega) g26 (L.sh (x := (111, 8)) rfl) g24 (by decide) hq) (fun h27 e28 => ?_)
    have L29 := L.ext e28
    exact S_Ex_expand_36 hd hX  L29 rv1 (ov2.ext e28) rv3 rv4
  · obtain ⟨r0, hr0⟩ := Option.ne_none_iff_exists'.mp c25
    refine z_go (fun Q hq => x_aald (dA d_Ex_expand 10 rfl) (L.sh (x := (111, 8)) rfl) (.inr rfl) g24.1 g24.2 (by decide) hr0 (x_ifnonnull (dA d_Ex_expand 11 rfl) (tgt := 36) rfl hq)) ?_
    exact S_Ex_expand_36 hd hX  L rv1 ov2 rv3 rv4
noncomputable def F_Ex_expandB (X : Int → Nat → Nat → Int → Int → MH → RS Nat) (a1 : Int) (a2 : Nat) (a2n : Nat) (a3 : Int) (a4 : Int) (h : MH) : RS Nat := if a1 < (8 : Int) then F_Ex_expand_14 X a1 a2 a2n a3 a4 h else bnd (F_To_fail (1 : Int) h) fun x33 h31 => F_Ex_expand_14 X a1 a2 a2n a3 a4 h31
theorem S_Ex_expandB {d dX : Nat} (hd : dX + 10 ≤ d) {X : Int → Nat → Nat → Int → Int → MH → RS Nat} (hX : ∀ (a1 : Int) (a2 a2n : Nat) (a3 a4 : Int) (h : MH), LayC h → inR a1 → ArO h a2 103 a2n → inR a3 → inR a4 → OK dX k_Ex_expand 0 [mR 95, mI a1, mR a2, mI a3, mI a4, mN, mN] [] h cA pT (X a1 a2 a2n a3 a4 h)) {a1 : Int} {a2 : Nat} {a2n : Nat} {a3 : Int} {a4 : Int} {h : MH} (L : LayC h) (ra1 : inR a1) (oa2 : ArO h a2 103 a2n) (ra3 : inR a3) (ra4 : inR a4) : OK d k_Ex_expand 0 [mR 95, mI a1, mR a2, mI a3, mI a4, mN, mN] [] h cA pT (F_Ex_expandB X  a1 a2 a2n a3 a4 h) := by
  unfold F_Ex_expandB
  refine z_go (fun Q hq => x_iload_n (dA d_Ex_expand 0 rfl) rfl rfl (x_bipush (dA d_Ex_expand 1 rfl) (by decide) hq)) ?_
  refine z_br (fun Q => x_icmp_lt (dA d_Ex_expand 2 rfl) rfl ra1 (inR_lit (8 : Int) rfl)) (fun c30 => ?_) (fun c30 => ?_)
  · exact S_Ex_expand_14 hd hX  L ra1 oa2 ra3 ra4
  · refine z_go (fun Q hq => x_aload_n (dA d_Ex_expand 3 rfl) rfl rfl (x_getR (dA d_Ex_expand 4 rfl) f_Ex_17 (L.sh (x := (4, 4)) rfl) (by decide) (by decide) rfl (L.rf 101 rfl) (x_iconst (dA d_Ex_expand 5 rfl) hq))) ?_
    refine z_bnd (rest := []) (st1 := fun _ => []) (S_To_fail (d := 0) (Nat.le_refl _) L (inR_lit (1 : Int) rfl)) (fun _ hx => absurd hx List.not_mem_nil) (fun _ => rfl) (fun Q' Q => x_callV (as := [mI (1 : Int)]) (rest := []) (k' := k_To_fail) (dA d_Ex_expand 6 rfl) o_To_fail lk_Ex_25 im_To_fail se_To_fail rfl (L.sh (x := (11, 3)) rfl) (by decide) (Nat.le_of_ble_eq_true rfl) (by omega) (Nat.le_of_ble_eq_true rfl)) (fun x33 h31 e32 p34 => ?_)
    have L35 := L.ext e32
    exact S_Ex_expand_14 hd hX  L35 ra1 (oa2.ext e32) ra3 ra4
noncomputable def F_Ex_expandN : Nat → Int → Nat → Nat → Int → Int → MH → RS Nat
  | 0 => fun _ _ _ _ _ _ => none
  | n + 1 => F_Ex_expandB (F_Ex_expandN n)
theorem S_Ex_expandN : ∀ (n : Nat) (a1 : Int) (a2 a2n : Nat) (a3 a4 : Int) (h : MH), LayC h → inR a1 → ArO h a2 103 a2n → inR a3 → inR a4 → OK (10 * n) k_Ex_expand 0 [mR 95, mI a1, mR a2, mI a3, mI a4, mN, mN] [] h cA pT (F_Ex_expandN n a1 a2 a2n a3 a4 h) := by
  intro n
  induction n with
  | zero => intro a1 a2 a2n a3 a4 h L r1 o2 r3 r4; exact OK.none
  | succ n ih => intro a1 a2 a2n a3 a4 h L r1 o2 r3 r4; exact S_Ex_expandB (dX := 10 * n) (by omega) ih L r1 o2 r3 r4
noncomputable def F_Ex_expand : Int → Nat → Nat → Int → Int → MH → RS Nat := F_Ex_expandN 9
theorem S_Ex_expand {d : Nat} (hd : 90 ≤ d) {a1 : Int} {a2 a2n : Nat} {a3 a4 : Int} {h : MH} (L : LayC h) (r1 : inR a1) (o2 : ArO h a2 103 a2n) (r3 : inR a3) (r4 : inR a4) : OK d k_Ex_expand 0 [mR 95, mI a1, mR a2, mI a3, mI a4, mN, mN] [] h cA pT (F_Ex_expand a1 a2 a2n a3 a4 h) := (S_Ex_expandN 9 a1 a2 a2n a3 a4 h L r1 o2 r3 r4).up hd
/-! TwoMills$SecondMill.deliver(LTwoMills$Row;)V -/
noncomputable def F_Sm_deliver_115 (G54 : Nat → Int → MH → RS Unit) (v1 : Nat) (v3 : Int) (s1 : Int) (h : MH) : RS Unit := gd (0 ≤ s1 ∧ s1 < 65536) (bnd (F_Le_add 101 600 s1 h) fun x4 h2 => gd (inR (v3 + (1 : Int))) (G54 v1 (v3 + (1 : Int)) h2))
theorem S_Sm_deliver_115 {d : Nat} (hd : 1 ≤ d) {G54 : Nat → Int → MH → RS Unit} (hG54 : ∀ (v1 : Nat) (v3 : Int) (h : MH), LayC h → RoO h v1 → inR v3 → OK d k_Sm_deliver 54 [mR 86, mR v1, mN, mI v3] [] h cV pT (G54 v1 v3 h)) {v1 : Nat} {v3 : Int} {s1 : Int} {h : MH} (L : LayC h) (ov1 : RoO h v1) (rv3 : inR v3) (rs1 : inR s1) : OK d k_Sm_deliver 115 [mR 86, mR v1, mN, mI v3] [mI s1, mR 101] h cV pT (F_Sm_deliver_115 G54 v1 v3 s1 h) := by
  unfold F_Sm_deliver_115
  refine z_gd (fun g1 => ?_)
  refine z_bnd (rest := []) (st1 := fun _ => []) (S_Le_add (d := 0) (Nat.le_refl _) L (L.le rfl 108 rfl rfl (by decide)) g1) (fun _ hx => absurd hx List.not_mem_nil) (fun _ => rfl) (fun Q' Q => x_callV (as := [mI s1]) (rest := []) (k' := k_Le_add) (dA d_Sm_deliver 61 rfl) o_Le_add lk_Sm_177 im_Le_add se_Le_add rfl (L.sh (x := (1, 3)) rfl) (by decide) (Nat.le_of_ble_eq_true rfl) (Nat.le_trans (Nat.le_of_ble_eq_true rfl) hd) (Nat.le_of_ble_eq_true rfl)) (fun x4 h2 e3 p5 => ?_)
  have L6 := L.ext e3
  refine z_gd (fun g7 => ?_)
  refine z_go (fun Q hq => x_iinc (dA d_Sm_deliver 62 rfl) rfl (by decide) rfl (x_goto (dA d_Sm_deliver 63 rfl) rfl hq)) ?_
  exact hG54 v1 (v3 + (1 : Int)) h2 L6 (ov1.ext e3) g7
noncomputable def F_Sm_deliver_54_b (G54 : Nat → Int → MH → RS Unit) (v1 : Nat) (v3 : Int) (h : MH) : RS Unit := if (mGi h v1 3) ≤ v3 then some (.inl (), h) else gd (0 ≤ v3 ∧ v3 < 100) (bnd (F_To_start (mGl h (v1 + 2) v3.toNat) h) fun x12 h10 => bnd (F_To_length (mGl h10 (v1 + 2) v3.toNat) h10) fun x17 h15 => bnd (F_Le_addAll 101 600 88 1302 x12 x17 h15) fun x22 h20 => gd (inR (v3 + (1 : Int))) (if (mGi h20 v1 3) ≤ (v3 + (1 : Int)) then F_Sm_deliver_115 G54 v1 v3 (10 : Int) h20 else F_Sm_deliver_115 G54 v1 v3 (32 : Int) h20))
theorem S_Sm_deliver_54_b {d : Nat} (hd : 1 ≤ d) {G54 : Nat → Int → MH → RS Unit} (hG54 : ∀ (v1 : Nat) (v3 : Int) (h : MH), LayC h → RoO h v1 → inR v3 → OK d k_Sm_deliver 54 [mR 86, mR v1, mN, mI v3] [] h cV pT (G54 v1 v3 h)) {v1 : Nat} {v3 : Int} {h : MH} (L : LayC h) (ov1 : RoO h v1) (rv3 : inR v3) : OK d k_Sm_deliver 54 [mR 86, mR v1, mN, mI v3] [] h cV pT (F_Sm_deliver_54_b G54 v1 v3 h) := by
  unfold F_Sm_deliver_54_b
  refine z_go (fun Q hq => x_iload_n (dA d_Sm_deliver 30 rfl) rfl rfl (x_aload_n (dA d_Sm_deliver 31 rfl) rfl rfl (x_getI (dA d_Sm_deliver 32 rfl) f_Sm_159 ov1.1 (by decide) (by decide) rfl hq))) ?_
  refine z_br (fun Q => x_icmp_ge (dA d_Sm_deliver 33 rfl) rfl rv3 (L.rg _ _)) (fun c8 => ?_) (fun c8 => ?_)
  · exact z_retv (dA d_Sm_deliver 64 rfl) rfl
  · refine z_go (fun Q hq => x_aload_n (dA d_Sm_deliver 34 rfl) rfl rfl (x_getR (dA d_Sm_deliver 35 rfl) f_Sm_48 (L.sh (x := (10, 12)) rfl) (by decide) (by decide) rfl (L.rf 90 rfl) (x_aload_n (dA d_Sm_deliver 36 rfl) rfl rfl (x_getR (dA d_Sm_deliver 37 rfl) f_Sm_12 (L.sh (x := (10, 12)) rfl) (by decide) (by decide) rfl (L.rf 86 rfl) (x_getR (dA d_Sm_deliver 38 rfl) f_Sm_87 (L.sh (x := (11, 3)) rfl) (by decide) (by decide) rfl (L.rf 95 rfl) (x_aload_n (dA d_Sm_deliver 39 rfl) rfl rfl (x_getR (dA d_Sm_deliver 40 rfl) f_Sm_164 ov1.1 (by decide) (by decide) rfl ov1.2.1.2.1 (x_iload_n (dA d_Sm_deliver 41 rfl) rfl rfl hq)))))))) ?_
    refine z_gd (fun g9 => ?_)
    refine z_go (fun Q hq => x_lald (dA d_Sm_deliver 42 rfl) (show ArO _ _ _ _ from ⟨ov1.2.2.2.1, by decide⟩).1 g9.1 g9.2 (show ArO _ _ _ _ from ⟨ov1.2.2.2.1, by decide⟩).2 hq) ?_
    refine z_bnd (rest := [mR 88, mR 101]) (st1 := fun v => mI v :: [mR 88, mR 101]) (S_To_start (d := 0) (Nat.le_refl _) L ) (fun _ hx => absurd hx List.not_mem_nil) (fun _ => rfl) (fun Q' Q => x_callS (as := [mL (mGl h (v1 + 2) v3.toNat)]) (rest := [mR 88, mR 101]) (k' := k_To_start) (dA d_Sm_deliver 43 rfl) o_To_start lk_Sm_170 st_To_start (Nat.le_of_ble_eq_true rfl) (Nat.le_trans (Nat.le_of_ble_eq_true rfl) hd) (Nat.le_of_ble_eq_true rfl)) (fun x12 h10 e11 p13 => ?_)
    have L14 := L.ext e11
    refine z_go (fun Q hq => x_aload_n (dA d_Sm_deliver 44 rfl) rfl rfl (x_getR (dA d_Sm_deliver 45 rfl) f_Sm_164 (ov1.ext e11).1 (by decide) (by decide) rfl (ov1.ext e11).2.1.2.1 (x_iload_n (dA d_Sm_deliver 46 rfl) rfl rfl (x_lald (dA d_Sm_deliver 47 rfl) (show ArO _ _ _ _ from ⟨(ov1.ext e11).2.2.2.1, by decide⟩).1 g9.1 g9.2 (show ArO _ _ _ _ from ⟨(ov1.ext e11).2.2.2.1, by decide⟩).2 hq)))) ?_
    refine z_bnd (rest := [mI x12, mR 88, mR 101]) (st1 := fun v => mI v :: [mI x12, mR 88, mR 101]) (S_To_length (d := 0) (Nat.le_refl _) L14 ) (fun _ hx => absurd hx List.not_mem_nil) (fun _ => rfl) (fun Q' Q => x_callS (as := [mL (mGl h10 (v1 + 2) v3.toNat)]) (rest := [mI x12, mR 88, mR 101]) (k' := k_To_length) (dA d_Sm_deliver 48 rfl) o_To_length lk_Sm_116 st_To_length (Nat.le_of_ble_eq_true rfl) (Nat.le_trans (Nat.le_of_ble_eq_true rfl) hd) (Nat.le_of_ble_eq_true rfl)) (fun x17 h15 e16 p18 => ?_)
    have L19 := L14.ext e16
    refine z_bnd (rest := []) (st1 := fun _ => []) (S_Le_addAll (d := 0) (Nat.le_refl _) L19 (L19.le rfl 108 rfl rfl (by decide)) ⟨L19.sh rfl, by decide⟩ p13 p18) (fun _ hx => absurd hx List.not_mem_nil) (fun _ => rfl) (fun Q' Q => x_callV (as := [mR 88, mI x12, mI x17]) (rest := []) (k' := k_Le_addAll) (dA d_Sm_deliver 49 rfl) o_Le_addAll lk_Sm_173 im_Le_addAll se_Le_addAll rfl (L19.sh (x := (1, 3)) rfl) (by decide) (Nat.le_of_ble_eq_true rfl) (Nat.le_trans (Nat.le_of_ble_eq_true rfl) hd) (Nat.le_of_ble_eq_true rfl)) (fun x22 h20 e21 p23 => ?_)
    have L24 := L19.ext e21
    refine z_go (fun Q hq => x_aload_n (dA d_Sm_deliver 50 rfl) rfl rfl (x_getR (dA d_Sm_deliver 51 rfl) f_Sm_48 (L24.sh (x := (10, 12)) rfl) (by decide) (by decide) rfl (L24.rf 90 rfl) (x_iload_n (dA d_Sm_deliver 52 rfl) rfl rfl (x_iconst (dA d_Sm_deliver 53 rfl) hq)))) ?_
    refine z_gd (fun g25 => ?_)
    refine z_go (fun Q hq => x_iadd (dA d_Sm_deliver 54 rfl) (x_aload_n (dA d_Sm_deliver 55 rfl) rfl rfl (x_getI (dA d_Sm_deliver 56 rfl) f_Sm_159 (((ov1.ext e11).ext e16).ext e21).1 (by decide) (by decide) rfl hq))) ?_
    refine z_br (fun Q => x_icmp_ge (dA d_Sm_deliver 57 rfl) rfl g25 (L24.rg _ _)) (fun c26 => ?_) (fun c26 => ?_)
    · refine z_go (fun Q hq => x_bipush (dA d_Sm_deliver 60 rfl) (by decide) hq) ?_
      exact S_Sm_deliver_115 hd hG54 L24 (((ov1.ext e11).ext e16).ext e21) rv3 (inR_lit (10 : Int) rfl)
    · refine z_go (fun Q hq => x_bipush (dA d_Sm_deliver 58 rfl) (by decide) (x_goto (dA d_Sm_deliver 59 rfl) rfl hq)) ?_
      exact S_Sm_deliver_115 hd hG54 L24 (((ov1.ext e11).ext e16).ext e21) rv3 (inR_lit (32 : Int) rfl)
noncomputable def F_Sm_deliver_54 (v1 : Nat) (v3 : Int) (h : MH) : RS Unit := itr (fun self (q : Nat × Int × MH) => F_Sm_deliver_54_b (fun v1 v3 h => self (v1, v3, h)) q.1 q.2.1 q.2.2) FU (v1, v3, h)
theorem S_Sm_deliver_54 {d : Nat} (hd : 1 ≤ d) {v1 : Nat} {v3 : Int} {h : MH} (L : LayC h) (ov1 : RoO h v1) (rv3 : inR v3) : OK d k_Sm_deliver 54 [mR 86, mR v1, mN, mI v3] [] h cV pT (F_Sm_deliver_54  v1 v3 h) := by
  unfold F_Sm_deliver_54
  refine z_itr (P := fun q : Nat × Int × MH => LayC q.2.2 ∧ RoO q.2.2 q.1 ∧ inR q.2.1 ∧ True) (ls := fun q : Nat × Int × MH => [mR 86, mR q.1, mN, mI q.2.1]) (hp := fun q : Nat × Int × MH => q.2.2) (fun self hs q hq => ?_) FU (v1, v3, h) ⟨L, ov1, rv3, trivial⟩
  exact S_Sm_deliver_54_b hd (fun v1 v3 h L ov1 rv3 => hs (v1, v3, h) ⟨L, ov1, rv3, trivial⟩) hq.1 hq.2.1 hq.2.2.1
noncomputable def F_Sm_deliver_52 (v1 : Nat) (h : MH) : RS Unit := F_Sm_deliver_54 v1 (0 : Int) h
theorem S_Sm_deliver_52 {d : Nat} (hd : 1 ≤ d) {v1 : Nat} {h : MH} (L : LayC h) (ov1 : RoO h v1) : OK d k_Sm_deliver 52 [mR 86, mR v1, mN, mN] [] h cV pT (F_Sm_deliver_52  v1 h) := by
  unfold F_Sm_deliver_52
  refine z_go (fun Q hq => x_iconst (dA d_Sm_deliver 28 rfl) (x_istore_n (dA d_Sm_deliver 29 rfl) rfl (by decide) rfl hq)) ?_
  exact S_Sm_deliver_54 hd  L ov1 (inR_lit (0 : Int) rfl)
noncomputable def F_Sm_deliver_7_b (G7 : Nat → Int → Int → MH → RS Unit) (v1 : Nat) (v2 : Int) (v3 : Int) (h : MH) : RS Unit := if (mGi h v1 3) ≤ v3 then bnd (F_Le_hasRoomFor 101 600 v2 h) fun x30 h28 => if x30 = 0 then bnd (F_To_fail (1 : Int) h28) fun x36 h34 => F_Sm_deliver_52 v1 h34 else F_Sm_deliver_52 v1 h28 else gd (0 ≤ v3 ∧ v3 < 100) (bnd (F_To_length (mGl h (v1 + 2) v3.toNat) h) fun x42 h40 => gd (inR (v2 + x42)) (gd (inR (v3 + (1 : Int))) (G7 v1 (v2 + x42) (v3 + (1 : Int)) h40)))
theorem S_Sm_deliver_7_b {d : Nat} (hd : 1 ≤ d) {G7 : Nat → Int → Int → MH → RS Unit} (hG7 : ∀ (v1 : Nat) (v2 : Int) (v3 : Int) (h : MH), LayC h → RoO h v1 → inR v2 → inR v3 → OK d k_Sm_deliver 7 [mR 86, mR v1, mI v2, mI v3] [] h cV pT (G7 v1 v2 v3 h)) {v1 : Nat} {v2 : Int} {v3 : Int} {h : MH} (L : LayC h) (ov1 : RoO h v1) (rv2 : inR v2) (rv3 : inR v3) : OK d k_Sm_deliver 7 [mR 86, mR v1, mI v2, mI v3] [] h cV pT (F_Sm_deliver_7_b G7 v1 v2 v3 h) := by
  unfold F_Sm_deliver_7_b
  refine z_go (fun Q hq => x_iload_n (dA d_Sm_deliver 5 rfl) rfl rfl (x_aload_n (dA d_Sm_deliver 6 rfl) rfl rfl (x_getI (dA d_Sm_deliver 7 rfl) f_Sm_159 ov1.1 (by decide) (by decide) rfl hq))) ?_
  refine z_br (fun Q => x_icmp_ge (dA d_Sm_deliver 8 rfl) rfl rv3 (L.rg _ _)) (fun c27 => ?_) (fun c27 => ?_)
  · refine z_go (fun Q hq => x_aload_n (dA d_Sm_deliver 19 rfl) rfl rfl (x_getR (dA d_Sm_deliver 20 rfl) f_Sm_48 (L.sh (x := (10, 12)) rfl) (by decide) (by decide) rfl (L.rf 90 rfl) (x_iload_n (dA d_Sm_deliver 21 rfl) rfl rfl hq))) ?_
    refine z_bnd (rest := []) (st1 := fun v => mI v :: []) (S_Le_hasRoomFor (d := 0) (Nat.le_refl _) L (L.le rfl 108 rfl rfl (by decide)) rv2) (fun _ hx => absurd hx List.not_mem_nil) (fun _ => rfl) (fun Q' Q => x_callV (as := [mI v2]) (rest := []) (k' := k_Le_hasRoomFor) (dA d_Sm_deliver 22 rfl) o_Le_hasRoomFor lk_Sm_167 im_Le_hasRoomFor se_Le_hasRoomFor rfl (L.sh (x := (1, 3)) rfl) (by decide) (Nat.le_of_ble_eq_true rfl) (Nat.le_trans (Nat.le_of_ble_eq_true rfl) hd) (Nat.le_of_ble_eq_true rfl)) (fun x30 h28 e29 p31 => ?_)
    have L32 := L.ext e29
    refine z_brn (fun Q => x_if_ne (dA d_Sm_deliver 23 rfl) rfl p31.inR) (fun c33 => ?_) (fun c33 => ?_)
    · refine z_go (fun Q hq => x_aload_n (dA d_Sm_deliver 24 rfl) rfl rfl (x_getR (dA d_Sm_deliver 25 rfl) f_Sm_12 (L32.sh (x := (10, 12)) rfl) (by decide) (by decide) rfl (L32.rf 86 rfl) (x_iconst (dA d_Sm_deliver 26 rfl) hq))) ?_
      refine z_bnd (rest := []) (st1 := fun _ => []) (S_To_fail (d := 0) (Nat.le_refl _) L32 (inR_lit (1 : Int) rfl)) (fun _ hx => absurd hx List.not_mem_nil) (fun _ => rfl) (fun Q' Q => x_callV (as := [mI (1 : Int)]) (rest := []) (k' := k_To_fail) (dA d_Sm_deliver 27 rfl) o_To_fail lk_Sm_106 im_To_fail se_To_fail rfl (L32.sh (x := (11, 3)) rfl) (by decide) (Nat.le_of_ble_eq_true rfl) (Nat.le_trans (Nat.le_of_ble_eq_true rfl) hd) (Nat.le_of_ble_eq_true rfl)) (fun x36 h34 e35 p37 => ?_)
      have L38 := L32.ext e35
      refine z_fgt (ls' := [mR 86, mR v1, mN, mN]) ⟨.inr rfl, .inr rfl, .inl rfl, .inl rfl, trivial⟩ ?_
      exact S_Sm_deliver_52 hd  L38 ((ov1.ext e29).ext e35)
    · refine z_fgt (ls' := [mR 86, mR v1, mN, mN]) ⟨.inr rfl, .inr rfl, .inl rfl, .inl rfl, trivial⟩ ?_
      exact S_Sm_deliver_52 hd  L32 (ov1.ext e29)
  · refine z_go (fun Q hq => x_iload_n (dA d_Sm_deliver 9 rfl) rfl rfl (x_aload_n (dA d_Sm_deliver 10 rfl) rfl rfl (x_getR (dA d_Sm_deliver 11 rfl) f_Sm_164 ov1.1 (by decide) (by decide) rfl ov1.2.1.2.1 (x_iload_n (dA d_Sm_deliver 12 rfl) rfl rfl hq)))) ?_
    refine z_gd (fun g39 => ?_)
    refine z_go (fun Q hq => x_lald (dA d_Sm_deliver 13 rfl) (show ArO _ _ _ _ from ⟨ov1.2.2.2.1, by decide⟩).1 g39.1 g39.2 (show ArO _ _ _ _ from ⟨ov1.2.2.2.1, by decide⟩).2 hq) ?_
    refine z_bnd (rest := [mI v2]) (st1 := fun v => mI v :: [mI v2]) (S_To_length (d := 0) (Nat.le_refl _) L ) (fun _ hx => absurd hx List.not_mem_nil) (fun _ => rfl) (fun Q' Q => x_callS (as := [mL (mGl h (v1 + 2) v3.toNat)]) (rest := [mI v2]) (k' := k_To_length) (dA d_Sm_deliver 14 rfl) o_To_length lk_Sm_116 st_To_length (Nat.le_of_ble_eq_true rfl) (Nat.le_trans (Nat.le_of_ble_eq_true rfl) hd) (Nat.le_of_ble_eq_true rfl)) (fun x42 h40 e41 p43 => ?_)
    have L44 := L.ext e41
    refine z_gd (fun g45 => ?_)
    refine z_go (fun Q hq => x_iadd (dA d_Sm_deliver 15 rfl) (x_istore_n (dA d_Sm_deliver 16 rfl) rfl (by decide) rfl hq)) ?_
    refine z_gd (fun g46 => ?_)
    refine z_go (fun Q hq => x_iinc (dA d_Sm_deliver 17 rfl) rfl (by decide) rfl (x_goto (dA d_Sm_deliver 18 rfl) rfl hq)) ?_
    exact hG7 v1 (v2 + x42) (v3 + (1 : Int)) h40 L44 (ov1.ext e41) g45 g46
noncomputable def F_Sm_deliver_7 (v1 : Nat) (v2 : Int) (v3 : Int) (h : MH) : RS Unit := itr (fun self (q : Nat × Int × Int × MH) => F_Sm_deliver_7_b (fun v1 v2 v3 h => self (v1, v2, v3, h)) q.1 q.2.1 q.2.2.1 q.2.2.2) FU (v1, v2, v3, h)
theorem S_Sm_deliver_7 {d : Nat} (hd : 1 ≤ d) {v1 : Nat} {v2 : Int} {v3 : Int} {h : MH} (L : LayC h) (ov1 : RoO h v1) (rv2 : inR v2) (rv3 : inR v3) : OK d k_Sm_deliver 7 [mR 86, mR v1, mI v2, mI v3] [] h cV pT (F_Sm_deliver_7  v1 v2 v3 h) := by
  unfold F_Sm_deliver_7
  refine z_itr (P := fun q : Nat × Int × Int × MH => LayC q.2.2.2 ∧ RoO q.2.2.2 q.1 ∧ inR q.2.1 ∧ inR q.2.2.1 ∧ True) (ls := fun q : Nat × Int × Int × MH => [mR 86, mR q.1, mI q.2.1, mI q.2.2.1]) (hp := fun q : Nat × Int × Int × MH => q.2.2.2) (fun self hs q hq => ?_) FU (v1, v2, v3, h) ⟨L, ov1, rv2, rv3, trivial⟩
  exact S_Sm_deliver_7_b hd (fun v1 v2 v3 h L ov1 rv2 rv3 => hs (v1, v2, v3, h) ⟨L, ov1, rv2, rv3, trivial⟩) hq.1 hq.2.1 hq.2.2.1 hq.2.2.2.1
noncomputable def F_Sm_deliver (a1 : Nat) (h : MH) : RS Unit := F_Sm_deliver_7 a1 (mGi h a1 3) (0 : Int) h
theorem S_Sm_deliver {d : Nat} (hd : 1 ≤ d) {a1 : Nat} {h : MH} (L : LayC h) (oa1 : RoO h a1) : OK d k_Sm_deliver 0 [mR 86, mR a1, mN, mN] [] h cV pT (F_Sm_deliver  a1 h) := by
  unfold F_Sm_deliver
  refine z_go (fun Q hq => x_aload_n (dA d_Sm_deliver 0 rfl) rfl rfl (x_getI (dA d_Sm_deliver 1 rfl) f_Sm_159 oa1.1 (by decide) (by decide) rfl (x_istore_n (dA d_Sm_deliver 2 rfl) rfl (by decide) rfl (x_iconst (dA d_Sm_deliver 3 rfl) (x_istore_n (dA d_Sm_deliver 4 rfl) rfl (by decide) rfl hq))))) ?_
  exact S_Sm_deliver_7 hd  L oa1 (L.rg _ _) (inR_lit (0 : Int) rfl)
/-! TwoMills$SecondMill.isSignAt(IC)Z -/
noncomputable def F_Sm_isSignAt_29 (h : MH) : RS Int := some (.inl (0 : Int), h)
theorem S_Sm_isSignAt_29 {d : Nat} (hd : 2 ≤ d) {h : MH} (L : LayC h) : OK d k_Sm_isSignAt 29 [mN, mN, mN] [] h cI p01 (F_Sm_isSignAt_29   h) := by
  unfold F_Sm_isSignAt_29
  refine z_go (fun Q hq => x_iconst (dA d_Sm_isSignAt 15 rfl) hq) ?_
  exact z_retz (dA d_Sm_isSignAt 16 rfl) rfl (.inl rfl)
noncomputable def F_Sm_isSignAt (a1 : Int) (a2 : Int) (h : MH) : RS Int := if (mGi h 86 6) ≤ a1 then F_Sm_isSignAt_29  h else gd (0 ≤ a1 ∧ a1 < 400) (bnd (F_To_isSign (mGl h 103 a1.toNat) a2 h) fun x5 h3 => if x5 = 0 then F_Sm_isSignAt_29  h3 else some (.inl (1 : Int), h3))
theorem S_Sm_isSignAt {d : Nat} (hd : 2 ≤ d) {a1 : Int} {a2 : Int} {h : MH} (L : LayC h) (ra1 : inR a1) (ra2 : 0 ≤ a2 ∧ a2 < 65536) : OK d k_Sm_isSignAt 0 [mR 86, mI a1, mI a2] [] h cI p01 (F_Sm_isSignAt  a1 a2 h) := by
  unfold F_Sm_isSignAt
  refine z_go (fun Q hq => x_iload_n (dA d_Sm_isSignAt 0 rfl) rfl rfl (x_aload_n (dA d_Sm_isSignAt 1 rfl) rfl rfl (x_getI (dA d_Sm_isSignAt 2 rfl) f_Sm_109 (L.sh (x := (10, 12)) rfl) (by decide) (by decide) rfl hq))) ?_
  refine z_br (fun Q => x_icmp_ge (dA d_Sm_isSignAt 3 rfl) rfl ra1 (L.rg _ _)) (fun c1 => ?_) (fun c1 => ?_)
  · refine z_fgt (ls' := [mN, mN, mN]) ⟨.inl rfl, .inl rfl, .inl rfl, trivial⟩ ?_
    exact S_Sm_isSignAt_29 hd  L 
  · refine z_go (fun Q hq => x_aload_n (dA d_Sm_isSignAt 4 rfl) rfl rfl (x_getR (dA d_Sm_isSignAt 5 rfl) f_Sm_12 (L.sh (x := (10, 12)) rfl) (by decide) (by decide) rfl (L.rf 86 rfl) (x_aload_n (dA d_Sm_isSignAt 6 rfl) rfl rfl (x_getR (dA d_Sm_isSignAt 7 rfl) f_Sm_52 (L.sh (x := (10, 12)) rfl) (by decide) (by decide) rfl (L.rf 91 rfl) (x_iload_n (dA d_Sm_isSignAt 8 rfl) rfl rfl hq))))) ?_
    refine z_gd (fun g2 => ?_)
    refine z_go (fun Q hq => x_lald (dA d_Sm_isSignAt 9 rfl) (L.sh (x := (103, 400)) rfl) g2.1 g2.2 (by decide) (x_iload_n (dA d_Sm_isSignAt 10 rfl) rfl rfl hq)) ?_
    refine z_bnd (rest := []) (st1 := fun v => mI v :: []) (S_To_isSign (d := 1) (Nat.le_refl _) L ra2) (fun _ hx => absurd hx List.not_mem_nil) (fun _ => rfl) (fun Q' Q => x_callV (as := [mL (mGl h 103 a1.toNat), mI a2]) (rest := []) (k' := k_To_isSign) (dA d_Sm_isSignAt 11 rfl) o_To_isSign lk_Sm_152 im_To_isSign se_To_isSign rfl (L.sh (x := (11, 3)) rfl) (by decide) (Nat.le_of_ble_eq_true rfl) (Nat.le_trans (Nat.le_of_ble_eq_true rfl) hd) (Nat.le_of_ble_eq_true rfl)) (fun x5 h3 e4 p6 => ?_)
    have L7 := L.ext e4
    refine z_br (fun Q => x_if_eq (dA d_Sm_isSignAt 12 rfl) rfl p6.inR) (fun c8 => ?_) (fun c8 => ?_)
    · refine z_fgt (ls' := [mN, mN, mN]) ⟨.inl rfl, .inl rfl, .inl rfl, trivial⟩ ?_
      exact S_Sm_isSignAt_29 hd  L7 
    · refine z_go (fun Q hq => x_iconst (dA d_Sm_isSignAt 13 rfl) (x_goto (dA d_Sm_isSignAt 14 rfl) rfl hq)) ?_
      exact z_retz (dA d_Sm_isSignAt 16 rfl) rfl (.inr rfl)
/-! TwoMills$SecondMill.isWordAt(I)Z -/
noncomputable def F_Sm_isWordAt_25 (h : MH) : RS Int := some (.inl (0 : Int), h)
theorem S_Sm_isWordAt_25 {d : Nat} (hd : 1 ≤ d) {h : MH} (L : LayC h) : OK d k_Sm_isWordAt 25 [mN, mN] [] h cI p01 (F_Sm_isWordAt_25   h) := by
  unfold F_Sm_isWordAt_25
  refine z_go (fun Q hq => x_iconst (dA d_Sm_isWordAt 13 rfl) hq) ?_
  exact z_retz (dA d_Sm_isWordAt 14 rfl) rfl (.inl rfl)
noncomputable def F_Sm_isWordAt (a1 : Int) (h : MH) : RS Int := if (mGi h 86 6) ≤ a1 then F_Sm_isWordAt_25  h else gd (0 ≤ a1 ∧ a1 < 400) (bnd (F_To_kind (mGl h 103 a1.toNat) h) fun x5 h3 => if x5 = (1 : Int) then some (.inl (1 : Int), h3) else F_Sm_isWordAt_25  h3)
theorem S_Sm_isWordAt {d : Nat} (hd : 1 ≤ d) {a1 : Int} {h : MH} (L : LayC h) (ra1 : inR a1) : OK d k_Sm_isWordAt 0 [mR 86, mI a1] [] h cI p01 (F_Sm_isWordAt  a1 h) := by
  unfold F_Sm_isWordAt
  refine z_go (fun Q hq => x_iload_n (dA d_Sm_isWordAt 0 rfl) rfl rfl (x_aload_n (dA d_Sm_isWordAt 1 rfl) rfl rfl (x_getI (dA d_Sm_isWordAt 2 rfl) f_Sm_109 (L.sh (x := (10, 12)) rfl) (by decide) (by decide) rfl hq))) ?_
  refine z_br (fun Q => x_icmp_ge (dA d_Sm_isWordAt 3 rfl) rfl ra1 (L.rg _ _)) (fun c1 => ?_) (fun c1 => ?_)
  · refine z_fgt (ls' := [mN, mN]) ⟨.inl rfl, .inl rfl, trivial⟩ ?_
    exact S_Sm_isWordAt_25 hd  L 
  · refine z_go (fun Q hq => x_aload_n (dA d_Sm_isWordAt 4 rfl) rfl rfl (x_getR (dA d_Sm_isWordAt 5 rfl) f_Sm_52 (L.sh (x := (10, 12)) rfl) (by decide) (by decide) rfl (L.rf 91 rfl) (x_iload_n (dA d_Sm_isWordAt 6 rfl) rfl rfl hq))) ?_
    refine z_gd (fun g2 => ?_)
    refine z_go (fun Q hq => x_lald (dA d_Sm_isWordAt 7 rfl) (L.sh (x := (103, 400)) rfl) g2.1 g2.2 (by decide) hq) ?_
    refine z_bnd (rest := []) (st1 := fun v => mI v :: []) (S_To_kind (d := 0) (Nat.le_refl _) L ) (fun _ hx => absurd hx List.not_mem_nil) (fun _ => rfl) (fun Q' Q => x_callS (as := [mL (mGl h 103 a1.toNat)]) (rest := []) (k' := k_To_kind) (dA d_Sm_isWordAt 8 rfl) o_To_kind lk_Sm_156 st_To_kind (Nat.le_of_ble_eq_true rfl) (Nat.le_trans (Nat.le_of_ble_eq_true rfl) hd) (Nat.le_of_ble_eq_true rfl)) (fun x5 h3 e4 p6 => ?_)
    have L7 := L.ext e4
    refine z_go (fun Q hq => x_iconst (dA d_Sm_isWordAt 9 rfl) hq) ?_
    refine z_brn (fun Q => x_icmp_ne (dA d_Sm_isWordAt 10 rfl) rfl p6 (inR_lit (1 : Int) rfl)) (fun c8 => ?_) (fun c8 => ?_)
    · refine z_go (fun Q hq => x_iconst (dA d_Sm_isWordAt 11 rfl) (x_goto (dA d_Sm_isWordAt 12 rfl) rfl hq)) ?_
      exact z_retz (dA d_Sm_isWordAt 14 rfl) rfl (.inr rfl)
    · refine z_fgt (ls' := [mN, mN]) ⟨.inl rfl, .inl rfl, trivial⟩ ?_
      exact S_Sm_isWordAt_25 hd  L7 
/-! TwoMills$SecondMill.require(Z)V -/
noncomputable def F_Sm_require (a1 : Int) (h : MH) : RS Unit := if a1 = 0 then bnd (F_To_fail (6 : Int) h) fun x4 h2 => some (.inl (), h2) else some (.inl (), h)
theorem S_Sm_require {d : Nat} (hd : 1 ≤ d) {a1 : Int} {h : MH} (L : LayC h) (ra1 : p01 a1) : OK d k_Sm_require 0 [mR 86, mI a1] [] h cV pT (F_Sm_require  a1 h) := by
  unfold F_Sm_require
  refine z_go (fun Q hq => x_iload_n (dA d_Sm_require 0 rfl) rfl rfl hq) ?_
  refine z_brn (fun Q => x_if_ne (dA d_Sm_require 1 rfl) rfl ra1.inR) (fun c1 => ?_) (fun c1 => ?_)
  · refine z_go (fun Q hq => x_aload_n (dA d_Sm_require 2 rfl) rfl rfl (x_getR (dA d_Sm_require 3 rfl) f_Sm_12 (L.sh (x := (10, 12)) rfl) (by decide) (by decide) rfl (L.rf 86 rfl) (x_bipush (dA d_Sm_require 4 rfl) (by decide) hq))) ?_
    refine z_bnd (rest := []) (st1 := fun _ => []) (S_To_fail (d := 0) (Nat.le_refl _) L (inR_lit (6 : Int) rfl)) (fun _ hx => absurd hx List.not_mem_nil) (fun _ => rfl) (fun Q' Q => x_callV (as := [mI (6 : Int)]) (rest := []) (k' := k_To_fail) (dA d_Sm_require 5 rfl) o_To_fail lk_Sm_106 im_To_fail se_To_fail rfl (L.sh (x := (11, 3)) rfl) (by decide) (Nat.le_of_ble_eq_true rfl) (Nat.le_trans (Nat.le_of_ble_eq_true rfl) hd) (Nat.le_of_ble_eq_true rfl)) (fun x4 h2 e3 p5 => ?_)
    have L6 := L.ext e3
    exact z_retv (dA d_Sm_require 6 rfl) rfl
  · exact z_retv (dA d_Sm_require 6 rfl) rfl
/-! TwoMills$SecondMill.beginLevel(ZZ)V -/
noncomputable def F_Sm_beginLevel (a1 : Int) (a2 : Int) (h : MH) : RS Unit := gd (0 ≤ (mGi h 86 11) ∧ (mGi h 86 11) < 6) (sto (mPi h 104 (mGi h 86 11).toNat a1) fun h2 => gd (0 ≤ (mGi h2 86 11) ∧ (mGi h2 86 11) < 6) (sto (mPi h2 106 (mGi h2 86 11).toNat a2) fun h6 => gd (0 ≤ (mGi h6 86 11) ∧ (mGi h6 86 11) < 6) (sto (mPi h6 105 (mGi h6 86 11).toNat (0 : Int)) fun h10 => gd (inR ((mGi h10 86 11) + (1 : Int))) (sto (mPi h10 86 11 ((mGi h10 86 11) + (1 : Int))) fun h14 => some (.inl (), h14)))))
theorem S_Sm_beginLevel {d : Nat} (hd : 0 ≤ d) {a1 : Int} {a2 : Int} {h : MH} (L : LayC h) (ra1 : p01 a1) (ra2 : p01 a2) : OK d k_Sm_beginLevel 0 [mR 86, mI a1, mI a2] [] h cV pT (F_Sm_beginLevel  a1 a2 h) := by
  unfold F_Sm_beginLevel
  refine z_go (fun Q hq => x_aload_n (dA d_Sm_beginLevel 0 rfl) rfl rfl (x_getR (dA d_Sm_beginLevel 1 rfl) f_Sm_56 (L.sh (x := (10, 12)) rfl) (by decide) (by decide) rfl (L.rf 92 rfl) (x_aload_n (dA d_Sm_beginLevel 2 rfl) rfl rfl (x_getI (dA d_Sm_beginLevel 3 rfl) f_Sm_78 (L.sh (x := (10, 12)) rfl) (by decide) (by decide) rfl (x_iload_n (dA d_Sm_beginLevel 4 rfl) rfl rfl hq))))) ?_
  refine z_gd (fun g1 => ?_)
  refine z_sto (Ext.pi (L.sh (x := (102, 6)) rfl) (by decide) ra1.inR) (fun Q hq => x_zast (dA d_Sm_beginLevel 5 rfl) (L.sh (x := (102, 6)) rfl) g1.1 g1.2 (by decide) ra1 hq) (fun h2 e3 => ?_)
  have L4 := L.ext e3
  refine z_go (fun Q hq => x_aload_n (dA d_Sm_beginLevel 6 rfl) rfl rfl (x_getR (dA d_Sm_beginLevel 7 rfl) f_Sm_63 (L4.sh (x := (10, 12)) rfl) (by decide) (by decide) rfl (L4.rf 94 rfl) (x_aload_n (dA d_Sm_beginLevel 8 rfl) rfl rfl (x_getI (dA d_Sm_beginLevel 9 rfl) f_Sm_78 (L4.sh (x := (10, 12)) rfl) (by decide) (by decide) rfl (x_iload_n (dA d_Sm_beginLevel 10 rfl) rfl rfl hq))))) ?_
  refine z_gd (fun g5 => ?_)
  refine z_sto (Ext.pi (L4.sh (x := (102, 6)) rfl) (by decide) ra2.inR) (fun Q hq => x_zast (dA d_Sm_beginLevel 11 rfl) (L4.sh (x := (102, 6)) rfl) g5.1 g5.2 (by decide) ra2 hq) (fun h6 e7 => ?_)
  have L8 := L4.ext e7
  refine z_go (fun Q hq => x_aload_n (dA d_Sm_beginLevel 12 rfl) rfl rfl (x_getR (dA d_Sm_beginLevel 13 rfl) f_Sm_60 (L8.sh (x := (10, 12)) rfl) (by decide) (by decide) rfl (L8.rf 93 rfl) (x_aload_n (dA d_Sm_beginLevel 14 rfl) rfl rfl (x_getI (dA d_Sm_beginLevel 15 rfl) f_Sm_78 (L8.sh (x := (10, 12)) rfl) (by decide) (by decide) rfl (x_iconst (dA d_Sm_beginLevel 16 rfl) hq))))) ?_
  refine z_gd (fun g9 => ?_)
  refine z_sto (Ext.pi (L8.sh (x := (102, 6)) rfl) (by decide) (inR_lit (0 : Int) rfl)) (fun Q hq => x_zast (dA d_Sm_beginLevel 17 rfl) (L8.sh (x := (102, 6)) rfl) g9.1 g9.2 (by decide) (.inl rfl) hq) (fun h10 e11 => ?_)
  have L12 := L8.ext e11
  refine z_go (fun Q hq => x_aload_n (dA d_Sm_beginLevel 18 rfl) rfl rfl (x_dup (dA d_Sm_beginLevel 19 rfl) rfl (x_getI (dA d_Sm_beginLevel 20 rfl) f_Sm_78 (L12.sh (x := (10, 12)) rfl) (by decide) (by decide) rfl (x_iconst (dA d_Sm_beginLevel 21 rfl) hq)))) ?_
  refine z_gd (fun g13 => ?_)
  refine z_go (fun Q hq => x_iadd (dA d_Sm_beginLevel 22 rfl) hq) ?_
  refine z_sto (Ext.pi (L12.sh (x := (10, 12)) rfl) (by decide) g13) (fun Q hq => x_putI (dA d_Sm_beginLevel 23 rfl) p_Sm_78 (L12.sh (x := (10, 12)) rfl) (by decide) cl_Sm rfl hq) (fun h14 e15 => ?_)
  have L16 := L12.ext e15
  exact z_retv (dA d_Sm_beginLevel 24 rfl) rfl
/-! TwoMills$SecondMill.endLevel()V -/
noncomputable def F_Sm_endLevel_16 (h : MH) : RS Unit := gd (inR ((mGi h 86 11) - (1 : Int))) (sto (mPi h 86 11 ((mGi h 86 11) - (1 : Int))) fun h2 => some (.inl (), h2))
theorem S_Sm_endLevel_16 {d : Nat} (hd : 1 ≤ d) {h : MH} (L : LayC h) : OK d k_Sm_endLevel 16 [mR 86] [] h cV pT (F_Sm_endLevel_16   h) := by
  unfold F_Sm_endLevel_16
  refine z_go (fun Q hq => x_aload_n (dA d_Sm_endLevel 7 rfl) rfl rfl (x_dup (dA d_Sm_endLevel 8 rfl) rfl (x_getI (dA d_Sm_endLevel 9 rfl) f_Sm_78 (L.sh (x := (10, 12)) rfl) (by decide) (by decide) rfl (x_iconst (dA d_Sm_endLevel 10 rfl) hq)))) ?_
  refine z_gd (fun g1 => ?_)
  refine z_go (fun Q hq => x_isub (dA d_Sm_endLevel 11 rfl) hq) ?_
  refine z_sto (Ext.pi (L.sh (x := (10, 12)) rfl) (by decide) g1) (fun Q hq => x_putI (dA d_Sm_endLevel 12 rfl) p_Sm_78 (L.sh (x := (10, 12)) rfl) (by decide) cl_Sm rfl hq) (fun h2 e3 => ?_)
  have L4 := L.ext e3
  exact z_retv (dA d_Sm_endLevel 13 rfl) rfl
noncomputable def F_Sm_endLevel (h : MH) : RS Unit := if (mGi h 86 11) = 0 then bnd (F_To_fail (10 : Int) h) fun x8 h6 => F_Sm_endLevel_16  h6 else F_Sm_endLevel_16  h
theorem S_Sm_endLevel {d : Nat} (hd : 1 ≤ d) {h : MH} (L : LayC h) : OK d k_Sm_endLevel 0 [mR 86] [] h cV pT (F_Sm_endLevel   h) := by
  unfold F_Sm_endLevel
  refine z_go (fun Q hq => x_aload_n (dA d_Sm_endLevel 0 rfl) rfl rfl (x_getI (dA d_Sm_endLevel 1 rfl) f_Sm_78 (L.sh (x := (10, 12)) rfl) (by decide) (by decide) rfl hq)) ?_
  refine z_brn (fun Q => x_if_ne (dA d_Sm_endLevel 2 rfl) rfl (L.rg _ _)) (fun c5 => ?_) (fun c5 => ?_)
  · refine z_go (fun Q hq => x_aload_n (dA d_Sm_endLevel 3 rfl) rfl rfl (x_getR (dA d_Sm_endLevel 4 rfl) f_Sm_12 (L.sh (x := (10, 12)) rfl) (by decide) (by decide) rfl (L.rf 86 rfl) (x_bipush (dA d_Sm_endLevel 5 rfl) (by decide) hq))) ?_
    refine z_bnd (rest := []) (st1 := fun _ => []) (S_To_fail (d := 0) (Nat.le_refl _) L (inR_lit (10 : Int) rfl)) (fun _ hx => absurd hx List.not_mem_nil) (fun _ => rfl) (fun Q' Q => x_callV (as := [mI (10 : Int)]) (rest := []) (k' := k_To_fail) (dA d_Sm_endLevel 6 rfl) o_To_fail lk_Sm_106 im_To_fail se_To_fail rfl (L.sh (x := (11, 3)) rfl) (by decide) (Nat.le_of_ble_eq_true rfl) (Nat.le_trans (Nat.le_of_ble_eq_true rfl) hd) (Nat.le_of_ble_eq_true rfl)) (fun x8 h6 e7 p9 => ?_)
    have L10 := L.ext e7
    exact S_Sm_endLevel_16 hd  L10 
  · exact S_Sm_endLevel_16 hd  L 
/-! TwoMills$SecondMill.requireLevelRoom()V -/
noncomputable def F_Sm_requireLevelRoom (h : MH) : RS Unit := if (mGi h 86 11) < (6 : Int) then some (.inl (), h) else bnd (F_To_fail (1 : Int) h) fun x4 h2 => some (.inl (), h2)
theorem S_Sm_requireLevelRoom {d : Nat} (hd : 1 ≤ d) {h : MH} (L : LayC h) : OK d k_Sm_requireLevelRoom 0 [mR 86] [] h cV pT (F_Sm_requireLevelRoom   h) := by
  unfold F_Sm_requireLevelRoom
  refine z_go (fun Q hq => x_aload_n (dA d_Sm_requireLevelRoom 0 rfl) rfl rfl (x_getI (dA d_Sm_requireLevelRoom 1 rfl) f_Sm_78 (L.sh (x := (10, 12)) rfl) (by decide) (by decide) rfl (x_bipush (dA d_Sm_requireLevelRoom 2 rfl) (by decide) hq))) ?_
  refine z_br (fun Q => x_icmp_lt (dA d_Sm_requireLevelRoom 3 rfl) rfl (L.rg _ _) (inR_lit (6 : Int) rfl)) (fun c1 => ?_) (fun c1 => ?_)
  · exact z_retv (dA d_Sm_requireLevelRoom 8 rfl) rfl
  · refine z_go (fun Q hq => x_aload_n (dA d_Sm_requireLevelRoom 4 rfl) rfl rfl (x_getR (dA d_Sm_requireLevelRoom 5 rfl) f_Sm_12 (L.sh (x := (10, 12)) rfl) (by decide) (by decide) rfl (L.rf 86 rfl) (x_iconst (dA d_Sm_requireLevelRoom 6 rfl) hq))) ?_
    refine z_bnd (rest := []) (st1 := fun _ => []) (S_To_fail (d := 0) (Nat.le_refl _) L (inR_lit (1 : Int) rfl)) (fun _ hx => absurd hx List.not_mem_nil) (fun _ => rfl) (fun Q' Q => x_callV (as := [mI (1 : Int)]) (rest := []) (k' := k_To_fail) (dA d_Sm_requireLevelRoom 7 rfl) o_To_fail lk_Sm_106 im_To_fail se_To_fail rfl (L.sh (x := (11, 3)) rfl) (by decide) (Nat.le_of_ble_eq_true rfl) (Nat.le_trans (Nat.le_of_ble_eq_true rfl) hd) (Nat.le_of_ble_eq_true rfl)) (fun x4 h2 e3 p5 => ?_)
    have L6 := L.ext e3
    exact z_retv (dA d_Sm_requireLevelRoom 8 rfl) rfl
/-! TwoMills$SecondMill.turnLevel()V -/
noncomputable def F_Sm_turnLevel_85 (s1 : Int) (s2 : Int) (h : MH) : RS Unit := gd (0 ≤ s1 ∧ s1 < 6) (gd (p01 s2) (sto (mPi h 104 s1.toNat s2) fun h3 => some (.inl (), h3)))
theorem S_Sm_turnLevel_85 {d : Nat} (hd : 1 ≤ d) {s1 : Int} {s2 : Int} {h : MH} (L : LayC h) (rs1 : inR s1) (rs2 : inR s2) : OK d k_Sm_turnLevel 85 [mN] [mI s2, mI s1, mR 104] h cV pT (F_Sm_turnLevel_85  s1 s2 h) := by
  unfold F_Sm_turnLevel_85
  refine z_gd (fun g1 => ?_)
  refine z_gd (fun g2 => ?_)
  refine z_sto (Ext.pi (L.sh (x := (102, 6)) rfl) (by decide) rs2) (fun Q hq => x_zast (dA d_Sm_turnLevel 48 rfl) (L.sh (x := (102, 6)) rfl) g1.1 g1.2 (by decide) g2 hq) (fun h3 e4 => ?_)
  have L5 := L.ext e4
  exact z_retv (dA d_Sm_turnLevel 49 rfl) rfl
noncomputable def F_Sm_turnLevel_84 (s1 : Int) (h : MH) : RS Unit := F_Sm_turnLevel_85 s1 (0 : Int) h
theorem S_Sm_turnLevel_84 {d : Nat} (hd : 1 ≤ d) {s1 : Int} {h : MH} (L : LayC h) (rs1 : inR s1) : OK d k_Sm_turnLevel 84 [mN] [mI s1, mR 104] h cV pT (F_Sm_turnLevel_84  s1 h) := by
  unfold F_Sm_turnLevel_84
  refine z_go (fun Q hq => x_iconst (dA d_Sm_turnLevel 47 rfl) hq) ?_
  exact S_Sm_turnLevel_85 hd  L rs1 (inR_lit (0 : Int) rfl)
noncomputable def F_Sm_turnLevel_30 (h : MH) : RS Unit := gd (inR ((mGi h 86 11) - (1 : Int))) (gd (0 ≤ ((mGi h 86 11) - (1 : Int)) ∧ ((mGi h 86 11) - (1 : Int)) < 6) (sto (mPi h 105 ((mGi h 86 11) - (1 : Int)).toNat (1 : Int)) fun h8 => gd (inR ((mGi h8 86 11) - (1 : Int))) (gd (0 ≤ ((mGi h8 86 11) - (1 : Int)) ∧ ((mGi h8 86 11) - (1 : Int)) < 6) (if (mGi h8 104 ((mGi h8 86 11) - (1 : Int)).toNat) = 0 then if (mGi h8 106 ((mGi h8 86 11) - (1 : Int)).toNat) = 0 then F_Sm_turnLevel_85 ((mGi h8 86 11) - (1 : Int)) (1 : Int) h8 else F_Sm_turnLevel_84 ((mGi h8 86 11) - (1 : Int)) h8 else F_Sm_turnLevel_84 ((mGi h8 86 11) - (1 : Int)) h8))))
theorem S_Sm_turnLevel_30 {d : Nat} (hd : 1 ≤ d) {h : MH} (L : LayC h) : OK d k_Sm_turnLevel 30 [mR 86] [] h cV pT (F_Sm_turnLevel_30   h) := by
  unfold F_Sm_turnLevel_30
  refine z_go (fun Q hq => x_aload_n (dA d_Sm_turnLevel 15 rfl) rfl rfl (x_getR (dA d_Sm_turnLevel 16 rfl) f_Sm_60 (L.sh (x := (10, 12)) rfl) (by decide) (by decide) rfl (L.rf 93 rfl) (x_aload_n (dA d_Sm_turnLevel 17 rfl) rfl rfl (x_getI (dA d_Sm_turnLevel 18 rfl) f_Sm_78 (L.sh (x := (10, 12)) rfl) (by decide) (by decide) rfl (x_iconst (dA d_Sm_turnLevel 19 rfl) hq))))) ?_
  refine z_gd (fun g6 => ?_)
  refine z_go (fun Q hq => x_isub (dA d_Sm_turnLevel 20 rfl) (x_iconst (dA d_Sm_turnLevel 21 rfl) hq)) ?_
  refine z_gd (fun g7 => ?_)
  refine z_sto (Ext.pi (L.sh (x := (102, 6)) rfl) (by decide) (inR_lit (1 : Int) rfl)) (fun Q hq => x_zast (dA d_Sm_turnLevel 22 rfl) (L.sh (x := (102, 6)) rfl) g7.1 g7.2 (by decide) (.inr rfl) hq) (fun h8 e9 => ?_)
  have L10 := L.ext e9
  refine z_go (fun Q hq => x_aload_n (dA d_Sm_turnLevel 23 rfl) rfl rfl (x_getR (dA d_Sm_turnLevel 24 rfl) f_Sm_56 (L10.sh (x := (10, 12)) rfl) (by decide) (by decide) rfl (L10.rf 92 rfl) (x_aload_n (dA d_Sm_turnLevel 25 rfl) rfl rfl (x_getI (dA d_Sm_turnLevel 26 rfl) f_Sm_78 (L10.sh (x := (10, 12)) rfl) (by decide) (by decide) rfl (x_iconst (dA d_Sm_turnLevel 27 rfl) hq))))) ?_
  refine z_gd (fun g11 => ?_)
  refine z_go (fun Q hq => x_isub (dA d_Sm_turnLevel 28 rfl) (x_aload_n (dA d_Sm_turnLevel 29 rfl) rfl rfl (x_getR (dA d_Sm_turnLevel 30 rfl) f_Sm_56 (L10.sh (x := (10, 12)) rfl) (by decide) (by decide) rfl (L10.rf 92 rfl) (x_aload_n (dA d_Sm_turnLevel 31 rfl) rfl rfl (x_getI (dA d_Sm_turnLevel 32 rfl) f_Sm_78 (L10.sh (x := (10, 12)) rfl) (by decide) (by decide) rfl (x_iconst (dA d_Sm_turnLevel 33 rfl) (x_isub (dA d_Sm_turnLevel 34 rfl) hq))))))) ?_
  refine z_gd (fun g12 => ?_)
  refine z_go (fun Q hq => x_zald (dA d_Sm_turnLevel 35 rfl) (L10.sh (x := (102, 6)) rfl) g12.1 g12.2 (by decide) hq) ?_
  refine z_brn (fun Q => x_if_ne (dA d_Sm_turnLevel 36 rfl) rfl (L10.rg _ _)) (fun c13 => ?_) (fun c13 => ?_)
  · refine z_go (fun Q hq => x_aload_n (dA d_Sm_turnLevel 37 rfl) rfl rfl (x_getR (dA d_Sm_turnLevel 38 rfl) f_Sm_63 (L10.sh (x := (10, 12)) rfl) (by decide) (by decide) rfl (L10.rf 94 rfl) (x_aload_n (dA d_Sm_turnLevel 39 rfl) rfl rfl (x_getI (dA d_Sm_turnLevel 40 rfl) f_Sm_78 (L10.sh (x := (10, 12)) rfl) (by decide) (by decide) rfl (x_iconst (dA d_Sm_turnLevel 41 rfl) (x_isub (dA d_Sm_turnLevel 42 rfl) (x_zald (dA d_Sm_turnLevel 43 rfl) (L10.sh (x := (102, 6)) rfl) g12.1 g12.2 (by decide) hq))))))) ?_
    refine z_brn (fun Q => x_if_ne (dA d_Sm_turnLevel 44 rfl) rfl (L10.rg _ _)) (fun c14 => ?_) (fun c14 => ?_)
    · refine z_go (fun Q hq => x_iconst (dA d_Sm_turnLevel 45 rfl) (x_goto (dA d_Sm_turnLevel 46 rfl) rfl hq)) ?_
      refine z_fgt (ls' := [mN]) ⟨.inl rfl, trivial⟩ ?_
      exact S_Sm_turnLevel_85 hd  L10 g11 (inR_lit (1 : Int) rfl)
    · refine z_fgt (ls' := [mN]) ⟨.inl rfl, trivial⟩ ?_
      exact S_Sm_turnLevel_84 hd  L10 g11
  · refine z_fgt (ls' := [mN]) ⟨.inl rfl, trivial⟩ ?_
    exact S_Sm_turnLevel_84 hd  L10 g11
noncomputable def F_Sm_turnLevel_21 (h : MH) : RS Unit := bnd (F_To_fail (10 : Int) h) fun x17 h15 => F_Sm_turnLevel_30  h15
theorem S_Sm_turnLevel_21 {d : Nat} (hd : 1 ≤ d) {h : MH} (L : LayC h) : OK d k_Sm_turnLevel 21 [mR 86] [] h cV pT (F_Sm_turnLevel_21   h) := by
  unfold F_Sm_turnLevel_21
  refine z_go (fun Q hq => x_aload_n (dA d_Sm_turnLevel 11 rfl) rfl rfl (x_getR (dA d_Sm_turnLevel 12 rfl) f_Sm_12 (L.sh (x := (10, 12)) rfl) (by decide) (by decide) rfl (L.rf 86 rfl) (x_bipush (dA d_Sm_turnLevel 13 rfl) (by decide) hq))) ?_
  refine z_bnd (rest := []) (st1 := fun _ => []) (S_To_fail (d := 0) (Nat.le_refl _) L (inR_lit (10 : Int) rfl)) (fun _ hx => absurd hx List.not_mem_nil) (fun _ => rfl) (fun Q' Q => x_callV (as := [mI (10 : Int)]) (rest := []) (k' := k_To_fail) (dA d_Sm_turnLevel 14 rfl) o_To_fail lk_Sm_106 im_To_fail se_To_fail rfl (L.sh (x := (11, 3)) rfl) (by decide) (Nat.le_of_ble_eq_true rfl) (Nat.le_trans (Nat.le_of_ble_eq_true rfl) hd) (Nat.le_of_ble_eq_true rfl)) (fun x17 h15 e16 p18 => ?_)
  have L19 := L.ext e16
  exact S_Sm_turnLevel_30 hd  L19 
noncomputable def F_Sm_turnLevel (h : MH) : RS Unit := if (mGi h 86 11) = 0 then F_Sm_turnLevel_21  h else gd (inR ((mGi h 86 11) - (1 : Int))) (gd (0 ≤ ((mGi h 86 11) - (1 : Int)) ∧ ((mGi h 86 11) - (1 : Int)) < 6) (if (mGi h 105 ((mGi h 86 11) - (1 : Int)).toNat) = 0 then F_Sm_turnLevel_30  h else F_Sm_turnLevel_21  h))
theorem S_Sm_turnLevel {d : Nat} (hd : 1 ≤ d) {h : MH} (L : LayC h) : OK d k_Sm_turnLevel 0 [mR 86] [] h cV pT (F_Sm_turnLevel   h) := by
  unfold F_Sm_turnLevel
  refine z_go (fun Q hq => x_aload_n (dA d_Sm_turnLevel 0 rfl) rfl rfl (x_getI (dA d_Sm_turnLevel 1 rfl) f_Sm_78 (L.sh (x := (10, 12)) rfl) (by decide) (by decide) rfl hq)) ?_
  refine z_br (fun Q => x_if_eq (dA d_Sm_turnLevel 2 rfl) rfl (L.rg _ _)) (fun c20 => ?_) (fun c20 => ?_)
  · exact S_Sm_turnLevel_21 hd  L 
  · refine z_go (fun Q hq => x_aload_n (dA d_Sm_turnLevel 3 rfl) rfl rfl (x_getR (dA d_Sm_turnLevel 4 rfl) f_Sm_60 (L.sh (x := (10, 12)) rfl) (by decide) (by decide) rfl (L.rf 93 rfl) (x_aload_n (dA d_Sm_turnLevel 5 rfl) rfl rfl (x_getI (dA d_Sm_turnLevel 6 rfl) f_Sm_78 (L.sh (x := (10, 12)) rfl) (by decide) (by decide) rfl (x_iconst (dA d_Sm_turnLevel 7 rfl) hq))))) ?_
    refine z_gd (fun g21 => ?_)
    refine z_go (fun Q hq => x_isub (dA d_Sm_turnLevel 8 rfl) hq) ?_
    refine z_gd (fun g22 => ?_)
    refine z_go (fun Q hq => x_zald (dA d_Sm_turnLevel 9 rfl) (L.sh (x := (102, 6)) rfl) g22.1 g22.2 (by decide) hq) ?_
    refine z_br (fun Q => x_if_eq (dA d_Sm_turnLevel 10 rfl) rfl (L.rg _ _)) (fun c23 => ?_) (fun c23 => ?_)
    · exact S_Sm_turnLevel_30 hd  L 
    · exact S_Sm_turnLevel_21 hd  L 
/-! TwoMills$SecondMill.skipOrder(J)V -/
noncomputable def F_Sm_skipOrder_39 (h : MH) : RS Unit := bnd (F_Sm_requireLevelRoom h) fun x3 h1 => bnd (F_Sm_beginLevel (0 : Int) (1 : Int) h1) fun x8 h6 => some (.inl (), h6)
theorem S_Sm_skipOrder_39 {d : Nat} (hd : 6 ≤ d) {h : MH} (L : LayC h) : OK d k_Sm_skipOrder 39 [mR 86, mN, mN] [] h cV pT (F_Sm_skipOrder_39   h) := by
  unfold F_Sm_skipOrder_39
  refine z_go (fun Q hq => x_aload_n (dA d_Sm_skipOrder 18 rfl) rfl rfl hq) ?_
  refine z_bnd (rest := []) (st1 := fun _ => []) (S_Sm_requireLevelRoom (d := 1) (Nat.le_refl _) L ) (fun _ hx => absurd hx List.not_mem_nil) (fun _ => rfl) (fun Q' Q => x_callV (as := []) (rest := []) (k' := k_Sm_requireLevelRoom) (dA d_Sm_skipOrder 19 rfl) o_Sm_requireLevelRoom lk_Sm_191 im_Sm_requireLevelRoom se_Sm_requireLevelRoom rfl (L.sh (x := (10, 12)) rfl) (by decide) (Nat.le_of_ble_eq_true rfl) (Nat.le_trans (Nat.le_of_ble_eq_true rfl) hd) (Nat.le_of_ble_eq_true rfl)) (fun x3 h1 e2 p4 => ?_)
  have L5 := L.ext e2
  refine z_go (fun Q hq => x_aload_n (dA d_Sm_skipOrder 20 rfl) rfl rfl (x_iconst (dA d_Sm_skipOrder 21 rfl) (x_iconst (dA d_Sm_skipOrder 22 rfl) hq))) ?_
  refine z_bnd (rest := []) (st1 := fun _ => []) (S_Sm_beginLevel (d := 0) (Nat.le_refl _) L5 (.inl rfl) (.inr rfl)) (fun _ hx => absurd hx List.not_mem_nil) (fun _ => rfl) (fun Q' Q => x_callV (as := [mI (0 : Int), mI (1 : Int)]) (rest := []) (k' := k_Sm_beginLevel) (dA d_Sm_skipOrder 23 rfl) o_Sm_beginLevel lk_Sm_194 im_Sm_beginLevel se_Sm_beginLevel rfl (L5.sh (x := (10, 12)) rfl) (by decide) (Nat.le_of_ble_eq_true rfl) (Nat.le_trans (Nat.le_of_ble_eq_true rfl) hd) (Nat.le_of_ble_eq_true rfl)) (fun x8 h6 e7 p9 => ?_)
  have L10 := L5.ext e7
  refine z_go (fun Q hq => x_goto (dA d_Sm_skipOrder 24 rfl) rfl hq) ?_
  exact z_retv (dA d_Sm_skipOrder 42 rfl) rfl
noncomputable def F_Sm_skipOrder (a1 : Int64) (h : MH) : RS Unit := bnd (F_To_is a1 9 h) fun x13 h11 => if x13 = 0 then bnd (F_To_is a1 4 h11) fun x19 h17 => if x19 = 0 then bnd (F_To_is a1 10 h17) fun x25 h23 => if x25 = 0 then bnd (F_To_is a1 11 h23) fun x31 h29 => if x31 = 0 then bnd (F_To_is a1 12 h29) fun x37 h35 => if x37 = 0 then some (.inl (), h35) else bnd (F_Sm_endLevel h35) fun x43 h41 => some (.inl (), h41) else bnd (F_Sm_turnLevel h29) fun x48 h46 => some (.inl (), h46) else F_Sm_skipOrder_39  h23 else F_Sm_skipOrder_39  h17 else F_Sm_skipOrder_39  h11
theorem S_Sm_skipOrder {d : Nat} (hd : 6 ≤ d) {a1 : Int64} {h : MH} (L : LayC h) : OK d k_Sm_skipOrder 0 [mR 86, mL a1, mN] [] h cV pT (F_Sm_skipOrder  a1 h) := by
  unfold F_Sm_skipOrder
  refine z_go (fun Q hq => x_aload_n (dA d_Sm_skipOrder 0 rfl) rfl rfl (x_getR (dA d_Sm_skipOrder 1 rfl) f_Sm_12 (L.sh (x := (10, 12)) rfl) (by decide) (by decide) rfl (L.rf 86 rfl) (x_lload_n (dA d_Sm_skipOrder 2 rfl) rfl rfl (x_ldcS (dA d_Sm_skipOrder 3 rfl) (List.mem_of_getElem? (i := 9) rfl) hq)))) ?_
  refine z_bnd (rest := []) (st1 := fun v => mI v :: []) (S_To_is (d := 5) (Nat.le_refl _) L (by decide)) (fun _ hx => absurd hx List.not_mem_nil) (fun _ => rfl) (fun Q' Q => x_callV (as := [mL a1, mS 9]) (rest := []) (k' := k_To_is) (dA d_Sm_skipOrder 4 rfl) o_To_is lk_Sm_183 im_To_is se_To_is rfl (L.sh (x := (11, 3)) rfl) (by decide) (Nat.le_of_ble_eq_true rfl) (Nat.le_trans (Nat.le_of_ble_eq_true rfl) hd) (Nat.le_of_ble_eq_true rfl)) (fun x13 h11 e12 p14 => ?_)
  have L15 := L.ext e12
  refine z_brn (fun Q => x_if_ne (dA d_Sm_skipOrder 5 rfl) rfl p14.inR) (fun c16 => ?_) (fun c16 => ?_)
  · refine z_go (fun Q hq => x_aload_n (dA d_Sm_skipOrder 6 rfl) rfl rfl (x_getR (dA d_Sm_skipOrder 7 rfl) f_Sm_12 (L15.sh (x := (10, 12)) rfl) (by decide) (by decide) rfl (L15.rf 86 rfl) (x_lload_n (dA d_Sm_skipOrder 8 rfl) rfl rfl (x_ldcS (dA d_Sm_skipOrder 9 rfl) (List.mem_of_getElem? (i := 10) rfl) hq)))) ?_
    refine z_bnd (rest := []) (st1 := fun v => mI v :: []) (S_To_is (d := 5) (Nat.le_refl _) L15 (by decide)) (fun _ hx => absurd hx List.not_mem_nil) (fun _ => rfl) (fun Q' Q => x_callV (as := [mL a1, mS 4]) (rest := []) (k' := k_To_is) (dA d_Sm_skipOrder 10 rfl) o_To_is lk_Sm_183 im_To_is se_To_is rfl (L15.sh (x := (11, 3)) rfl) (by decide) (Nat.le_of_ble_eq_true rfl) (Nat.le_trans (Nat.le_of_ble_eq_true rfl) hd) (Nat.le_of_ble_eq_true rfl)) (fun x19 h17 e18 p20 => ?_)
    have L21 := L15.ext e18
    refine z_brn (fun Q => x_if_ne (dA d_Sm_skipOrder 11 rfl) rfl p20.inR) (fun c22 => ?_) (fun c22 => ?_)
    · refine z_go (fun Q hq => x_aload_n (dA d_Sm_skipOrder 12 rfl) rfl rfl (x_getR (dA d_Sm_skipOrder 13 rfl) f_Sm_12 (L21.sh (x := (10, 12)) rfl) (by decide) (by decide) rfl (L21.rf 86 rfl) (x_lload_n (dA d_Sm_skipOrder 14 rfl) rfl rfl (x_ldcS (dA d_Sm_skipOrder 15 rfl) (List.mem_of_getElem? (i := 11) rfl) hq)))) ?_
      refine z_bnd (rest := []) (st1 := fun v => mI v :: []) (S_To_is (d := 5) (Nat.le_refl _) L21 (by decide)) (fun _ hx => absurd hx List.not_mem_nil) (fun _ => rfl) (fun Q' Q => x_callV (as := [mL a1, mS 10]) (rest := []) (k' := k_To_is) (dA d_Sm_skipOrder 16 rfl) o_To_is lk_Sm_183 im_To_is se_To_is rfl (L21.sh (x := (11, 3)) rfl) (by decide) (Nat.le_of_ble_eq_true rfl) (Nat.le_trans (Nat.le_of_ble_eq_true rfl) hd) (Nat.le_of_ble_eq_true rfl)) (fun x25 h23 e24 p26 => ?_)
      have L27 := L21.ext e24
      refine z_br (fun Q => x_if_eq (dA d_Sm_skipOrder 17 rfl) rfl p26.inR) (fun c28 => ?_) (fun c28 => ?_)
      · refine z_go (fun Q hq => x_aload_n (dA d_Sm_skipOrder 25 rfl) rfl rfl (x_getR (dA d_Sm_skipOrder 26 rfl) f_Sm_12 (L27.sh (x := (10, 12)) rfl) (by decide) (by decide) rfl (L27.rf 86 rfl) (x_lload_n (dA d_Sm_skipOrder 27 rfl) rfl rfl (x_ldcS (dA d_Sm_skipOrder 28 rfl) (List.mem_of_getElem? (i := 12) rfl) hq)))) ?_
        refine z_bnd (rest := []) (st1 := fun v => mI v :: []) (S_To_is (d := 5) (Nat.le_refl _) L27 (by decide)) (fun _ hx => absurd hx List.not_mem_nil) (fun _ => rfl) (fun Q' Q => x_callV (as := [mL a1, mS 11]) (rest := []) (k' := k_To_is) (dA d_Sm_skipOrder 29 rfl) o_To_is lk_Sm_183 im_To_is se_To_is rfl (L27.sh (x := (11, 3)) rfl) (by decide) (Nat.le_of_ble_eq_true rfl) (Nat.le_trans (Nat.le_of_ble_eq_true rfl) hd) (Nat.le_of_ble_eq_true rfl)) (fun x31 h29 e30 p32 => ?_)
        have L33 := L27.ext e30
        refine z_br (fun Q => x_if_eq (dA d_Sm_skipOrder 30 rfl) rfl p32.inR) (fun c34 => ?_) (fun c34 => ?_)
        · refine z_go (fun Q hq => x_aload_n (dA d_Sm_skipOrder 34 rfl) rfl rfl (x_getR (dA d_Sm_skipOrder 35 rfl) f_Sm_12 (L33.sh (x := (10, 12)) rfl) (by decide) (by decide) rfl (L33.rf 86 rfl) (x_lload_n (dA d_Sm_skipOrder 36 rfl) rfl rfl (x_ldcS (dA d_Sm_skipOrder 37 rfl) (List.mem_of_getElem? (i := 13) rfl) hq)))) ?_
          refine z_bnd (rest := []) (st1 := fun v => mI v :: []) (S_To_is (d := 5) (Nat.le_refl _) L33 (by decide)) (fun _ hx => absurd hx List.not_mem_nil) (fun _ => rfl) (fun Q' Q => x_callV (as := [mL a1, mS 12]) (rest := []) (k' := k_To_is) (dA d_Sm_skipOrder 38 rfl) o_To_is lk_Sm_183 im_To_is se_To_is rfl (L33.sh (x := (11, 3)) rfl) (by decide) (Nat.le_of_ble_eq_true rfl) (Nat.le_trans (Nat.le_of_ble_eq_true rfl) hd) (Nat.le_of_ble_eq_true rfl)) (fun x37 h35 e36 p38 => ?_)
          have L39 := L33.ext e36
          refine z_br (fun Q => x_if_eq (dA d_Sm_skipOrder 39 rfl) rfl p38.inR) (fun c40 => ?_) (fun c40 => ?_)
          · exact z_retv (dA d_Sm_skipOrder 42 rfl) rfl
          · refine z_go (fun Q hq => x_aload_n (dA d_Sm_skipOrder 40 rfl) rfl rfl hq) ?_
            refine z_bnd (rest := []) (st1 := fun _ => []) (S_Sm_endLevel (d := 1) (Nat.le_refl _) L39 ) (fun _ hx => absurd hx List.not_mem_nil) (fun _ => rfl) (fun Q' Q => x_callV (as := []) (rest := []) (k' := k_Sm_endLevel) (dA d_Sm_skipOrder 41 rfl) o_Sm_endLevel lk_Sm_205 im_Sm_endLevel se_Sm_endLevel rfl (L39.sh (x := (10, 12)) rfl) (by decide) (Nat.le_of_ble_eq_true rfl) (Nat.le_trans (Nat.le_of_ble_eq_true rfl) hd) (Nat.le_of_ble_eq_true rfl)) (fun x43 h41 e42 p44 => ?_)
            have L45 := L39.ext e42
            exact z_retv (dA d_Sm_skipOrder 42 rfl) rfl
        · refine z_go (fun Q hq => x_aload_n (dA d_Sm_skipOrder 31 rfl) rfl rfl hq) ?_
          refine z_bnd (rest := []) (st1 := fun _ => []) (S_Sm_turnLevel (d := 1) (Nat.le_refl _) L33 ) (fun _ hx => absurd hx List.not_mem_nil) (fun _ => rfl) (fun Q' Q => x_callV (as := []) (rest := []) (k' := k_Sm_turnLevel) (dA d_Sm_skipOrder 32 rfl) o_Sm_turnLevel lk_Sm_200 im_Sm_turnLevel se_Sm_turnLevel rfl (L33.sh (x := (10, 12)) rfl) (by decide) (Nat.le_of_ble_eq_true rfl) (Nat.le_trans (Nat.le_of_ble_eq_true rfl) hd) (Nat.le_of_ble_eq_true rfl)) (fun x48 h46 e47 p49 => ?_)
          have L50 := L33.ext e47
          refine z_go (fun Q hq => x_goto (dA d_Sm_skipOrder 33 rfl) rfl hq) ?_
          exact z_retv (dA d_Sm_skipOrder 42 rfl) rfl
      · refine z_fgt (ls' := [mR 86, mN, mN]) ⟨.inr rfl, .inl rfl, .inl rfl, trivial⟩ ?_
        exact S_Sm_skipOrder_39 hd  L27 
    · refine z_fgt (ls' := [mR 86, mN, mN]) ⟨.inr rfl, .inl rfl, .inl rfl, trivial⟩ ?_
      exact S_Sm_skipOrder_39 hd  L21 
  · refine z_fgt (ls' := [mR 86, mN, mN]) ⟨.inr rfl, .inl rfl, .inl rfl, trivial⟩ ?_
    exact S_Sm_skipOrder_39 hd  L15 
/-! TwoMills$Expression.applyAhead(I)V -/
noncomputable def F_Es_applyAhead_75 (s1 : Int) (s2 : Int64) (h : MH) : RS Unit := gd (0 ≤ s1 ∧ s1 < 100) (sto (mPl h 98 s1.toNat s2) fun h2 => some (.inl (), h2))
theorem S_Es_applyAhead_75 {d : Nat} (hd : 0 ≤ d) {s1 : Int} {s2 : Int64} {h : MH} (L : LayC h) (rs1 : inR s1) : OK d k_Es_applyAhead 75 [mN, mN, mN] [mL s2, mI s1, mR 98] h cV pT (F_Es_applyAhead_75  s1 s2 h) := by
  unfold F_Es_applyAhead_75
  refine z_gd (fun g1 => ?_)
  refine z_sto Ext.pl (fun Q hq => x_last (dA d_Es_applyAhead 45 rfl) (L.sh (x := (103, 100)) rfl) g1.1 g1.2 (by decide) hq) (fun h2 e3 => ?_)
  have L4 := L.ext e3
  exact z_retv (dA d_Es_applyAhead 46 rfl) rfl
noncomputable def F_Es_applyAhead (a1 : Int) (h : MH) : RS Unit := gd (inR ((mGi h 97 3) - (1 : Int))) (if a1 = (45 : Int) then gd (0 ≤ ((mGi h 97 3) - (1 : Int)) ∧ ((mGi h 97 3) - (1 : Int)) < 100) (sto (mPl h 98 ((mGi h 97 3) - (1 : Int)).toNat (-(mGl h 98 ((mGi h 97 3) - (1 : Int)).toNat))) fun h8 => some (.inl (), h8)) else if a1 = (126 : Int) then gd (0 ≤ ((mGi h 97 3) - (1 : Int)) ∧ ((mGi h 97 3) - (1 : Int)) < 100) (sto (mPl h 98 ((mGi h 97 3) - (1 : Int)).toNat ((mGl h 98 ((mGi h 97 3) - (1 : Int)).toNat) ^^^ (-1 : Int64))) fun h13 => some (.inl (), h13)) else gd (0 ≤ ((mGi h 97 3) - (1 : Int)) ∧ ((mGi h 97 3) - (1 : Int)) < 100) (if (lgI (mGl h 98 ((mGi h 97 3) - (1 : Int)).toNat) (0 : Int64)) = 0 then F_Es_applyAhead_75 ((mGi h 97 3) - (1 : Int)) (1 : Int64) h else F_Es_applyAhead_75 ((mGi h 97 3) - (1 : Int)) (0 : Int64) h))
theorem S_Es_applyAhead {d : Nat} (hd : 0 ≤ d) {a1 : Int} {h : MH} (L : LayC h) (ra1 : inR a1) : OK d k_Es_applyAhead 0 [mR 97, mI a1, mN] [] h cV pT (F_Es_applyAhead  a1 h) := by
  unfold F_Es_applyAhead
  refine z_go (fun Q hq => x_aload_n (dA d_Es_applyAhead 0 rfl) rfl rfl (x_getI (dA d_Es_applyAhead 1 rfl) f_Es_29 (L.sh (x := (5, 6)) rfl) (by decide) (by decide) rfl (x_iconst (dA d_Es_applyAhead 2 rfl) hq))) ?_
  refine z_gd (fun g5 => ?_)
  refine z_go (fun Q hq => x_isub (dA d_Es_applyAhead 3 rfl) (x_istore_n (dA d_Es_applyAhead 4 rfl) rfl (by decide) rfl (x_iload_n (dA d_Es_applyAhead 5 rfl) rfl rfl (x_bipush (dA d_Es_applyAhead 6 rfl) (by decide) hq)))) ?_
  refine z_brn (fun Q => x_icmp_ne (dA d_Es_applyAhead 7 rfl) rfl ra1 (inR_lit (45 : Int) rfl)) (fun c6 => ?_) (fun c6 => ?_)
  · refine z_go (fun Q hq => x_aload_n (dA d_Es_applyAhead 8 rfl) rfl rfl (x_getR (dA d_Es_applyAhead 9 rfl) f_Es_11 (L.sh (x := (5, 6)) rfl) (by decide) (by decide) rfl (L.rf 105 rfl) (x_iload_n (dA d_Es_applyAhead 10 rfl) rfl rfl (x_aload_n (dA d_Es_applyAhead 11 rfl) rfl rfl (x_getR (dA d_Es_applyAhead 12 rfl) f_Es_11 (L.sh (x := (5, 6)) rfl) (by decide) (by decide) rfl (L.rf 105 rfl) (x_iload_n (dA d_Es_applyAhead 13 rfl) rfl rfl hq)))))) ?_
    refine z_gd (fun g7 => ?_)
    refine z_go (fun Q hq => x_lald (dA d_Es_applyAhead 14 rfl) (L.sh (x := (103, 100)) rfl) g7.1 g7.2 (by decide) (x_lneg (dA d_Es_applyAhead 15 rfl) hq)) ?_
    refine z_sto Ext.pl (fun Q hq => x_last (dA d_Es_applyAhead 16 rfl) (L.sh (x := (103, 100)) rfl) g7.1 g7.2 (by decide) hq) (fun h8 e9 => ?_)
    have L10 := L.ext e9
    refine z_go (fun Q hq => x_goto (dA d_Es_applyAhead 17 rfl) rfl hq) ?_
    exact z_retv (dA d_Es_applyAhead 46 rfl) rfl
  · refine z_go (fun Q hq => x_iload_n (dA d_Es_applyAhead 18 rfl) rfl rfl (x_bipush (dA d_Es_applyAhead 19 rfl) (by decide) hq)) ?_
    refine z_brn (fun Q => x_icmp_ne (dA d_Es_applyAhead 20 rfl) rfl ra1 (inR_lit (126 : Int) rfl)) (fun c11 => ?_) (fun c11 => ?_)
    · refine z_go (fun Q hq => x_aload_n (dA d_Es_applyAhead 21 rfl) rfl rfl (x_getR (dA d_Es_applyAhead 22 rfl) f_Es_11 (L.sh (x := (5, 6)) rfl) (by decide) (by decide) rfl (L.rf 105 rfl) (x_iload_n (dA d_Es_applyAhead 23 rfl) rfl rfl (x_aload_n (dA d_Es_applyAhead 24 rfl) rfl rfl (x_getR (dA d_Es_applyAhead 25 rfl) f_Es_11 (L.sh (x := (5, 6)) rfl) (by decide) (by decide) rfl (L.rf 105 rfl) (x_iload_n (dA d_Es_applyAhead 26 rfl) rfl rfl hq)))))) ?_
      refine z_gd (fun g12 => ?_)
      refine z_go (fun Q hq => x_lald (dA d_Es_applyAhead 27 rfl) (L.sh (x := (103, 100)) rfl) g12.1 g12.2 (by decide) (x_ldc2 (dA d_Es_applyAhead 28 rfl) kl_Es_96 (x_lxor (dA d_Es_applyAhead 29 rfl) hq))) ?_
      refine z_sto Ext.pl (fun Q hq => x_last (dA d_Es_applyAhead 30 rfl) (L.sh (x := (103, 100)) rfl) g12.1 g12.2 (by decide) hq) (fun h13 e14 => ?_)
      have L15 := L.ext e14
      refine z_go (fun Q hq => x_goto (dA d_Es_applyAhead 31 rfl) rfl hq) ?_
      exact z_retv (dA d_Es_applyAhead 46 rfl) rfl
    · refine z_go (fun Q hq => x_aload_n (dA d_Es_applyAhead 32 rfl) rfl rfl (x_getR (dA d_Es_applyAhead 33 rfl) f_Es_11 (L.sh (x := (5, 6)) rfl) (by decide) (by decide) rfl (L.rf 105 rfl) (x_iload_n (dA d_Es_applyAhead 34 rfl) rfl rfl (x_aload_n (dA d_Es_applyAhead 35 rfl) rfl rfl (x_getR (dA d_Es_applyAhead 36 rfl) f_Es_11 (L.sh (x := (5, 6)) rfl) (by decide) (by decide) rfl (L.rf 105 rfl) (x_iload_n (dA d_Es_applyAhead 37 rfl) rfl rfl hq)))))) ?_
      refine z_gd (fun g16 => ?_)
      refine z_go (fun Q hq => x_lald (dA d_Es_applyAhead 38 rfl) (L.sh (x := (103, 100)) rfl) g16.1 g16.2 (by decide) (x_lconst (v := 0) (dA d_Es_applyAhead 39 rfl) rfl (x_lcmp (dA d_Es_applyAhead 40 rfl) hq))) ?_
      refine z_brn (fun Q => x_if_ne (dA d_Es_applyAhead 41 rfl) rfl (inR_lgI _ _)) (fun c17 => ?_) (fun c17 => ?_)
      · refine z_go (fun Q hq => x_lconst (v := 1) (dA d_Es_applyAhead 42 rfl) rfl (x_goto (dA d_Es_applyAhead 43 rfl) rfl hq)) ?_
        refine z_fgt (ls' := [mN, mN, mN]) ⟨.inl rfl, .inl rfl, .inl rfl, trivial⟩ ?_
        exact S_Es_applyAhead_75 hd  L g5
      · refine z_go (fun Q hq => x_lconst (v := 0) (dA d_Es_applyAhead 44 rfl) rfl hq) ?_
        refine z_fgt (ls' := [mN, mN, mN]) ⟨.inl rfl, .inl rfl, .inl rfl, trivial⟩ ?_
        exact S_Es_applyAhead_75 hd  L g5
end Fns
