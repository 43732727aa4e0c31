section Fns
/-! TwoMillsModel.takeParameters()I -/
noncomputable def F_M_takeParameters_14_b (G14 : Int → MH → RS Int) (v1 : Int) (h : MH) : RS Int := if (3 : Int) ≤ v1 then some (.inl (-1 : Int), h) else gd (inR ((2 : Int) * v1)) (gd (inR ((4 : Int) + ((2 : Int) * v1))) (bnd (F_M_kindAt ((4 : Int) + ((2 : Int) * v1)) h) fun x6 h4 => if x6 = (1 : Int) then gd (0 ≤ ((4 : Int) + ((2 : Int) * v1)) ∧ ((4 : Int) + ((2 : Int) * v1)) < 400) (bnd (F_M_parameterOf (mGl h4 123 ((4 : Int) + ((2 : Int) * v1)).toNat) v1 h4) fun x13 h11 => if x13 < 0 then gd (0 ≤ v1 ∧ v1 < 3) (sto (mPl h11 126 v1.toNat (mGl h11 123 ((4 : Int) + ((2 : Int) * v1)).toNat)) fun h18 => gd (inR (((4 : Int) + ((2 : Int) * v1)) + (1 : Int))) (bnd (F_M_isSignAt (((4 : Int) + ((2 : Int) * v1)) + (1 : Int)) (41 : Int) h18) fun x24 h22 => if x24 = 0 then bnd (F_M_isSignAt (((4 : Int) + ((2 : Int) * v1)) + (1 : Int)) (44 : Int) h22) fun x30 h28 => if x30 = 0 then some (.inl (-1 : Int), h28) else gd (inR (v1 + (1 : Int))) (G14 (v1 + (1 : Int)) h28) else gd (inR (((4 : Int) + ((2 : Int) * v1)) + (2 : Int))) (some (.inl (((4 : Int) + ((2 : Int) * v1)) + (2 : Int)), h22)))) else some (.inl (-1 : Int), h11)) else some (.inl (-1 : Int), h4)))
theorem S_M_takeParameters_14_b {d : Nat} (hd : 3 ≤ d) {G14 : Int → MH → RS Int} (hG14 : ∀ (v1 : Int) (h : MH), LayC h → inR v1 → OK d k_M_takeParameters 14 [mR 107, mI v1, mN] [] h cI inR (G14 v1 h)) {v1 : Int} {h : MH} (L : LayC h) (rv1 : inR v1) : OK d k_M_takeParameters 14 [mR 107, mI v1, mN] [] h cI inR (F_M_takeParameters_14_b G14 v1 h) := by
  unfold F_M_takeParameters_14_b
  refine z_go (fun Q hq => x_iload_n (dA d_M_takeParameters 9 rfl) rfl rfl (x_iconst (dA d_M_takeParameters 10 rfl) hq)) ?_
  refine z_br (fun Q => x_icmp_ge (dA d_M_takeParameters 11 rfl) rfl rv1 (inR_lit (3 : Int) rfl)) (fun c1 => ?_) (fun c1 => ?_)
  · refine z_go (fun Q hq => x_iconst (dA d_M_takeParameters 63 rfl) hq) ?_
    exact z_reti (dA d_M_takeParameters 64 rfl) rfl (inR_lit (-1 : Int) rfl)
  · refine z_go (fun Q hq => x_iconst (dA d_M_takeParameters 12 rfl) (x_iconst (dA d_M_takeParameters 13 rfl) (x_iload_n (dA d_M_takeParameters 14 rfl) rfl rfl hq))) ?_
    refine z_gd (fun g2 => ?_)
    refine z_go (fun Q hq => x_imul (dA d_M_takeParameters 15 rfl) hq) ?_
    refine z_gd (fun g3 => ?_)
    refine z_go (fun Q hq => x_iadd (dA d_M_takeParameters 16 rfl) (x_istore_n (dA d_M_takeParameters 17 rfl) rfl (by decide) rfl (x_aload_n (dA d_M_takeParameters 18 rfl) rfl rfl (x_iload_n (dA d_M_takeParameters 19 rfl) rfl rfl hq)))) ?_
    refine z_bnd (rest := []) (st1 := fun v => mI v :: []) (S_M_kindAt (d := 1) (Nat.le_refl _) L g3) (fun _ hx => absurd hx List.not_mem_nil) (fun _ => rfl) (fun Q' Q => x_callV (as := [mI ((4 : Int) + ((2 : Int) * v1))]) (rest := []) (k' := k_M_kindAt) (dA d_M_takeParameters 20 rfl) o_M_kindAt lk_M_361 im_M_kindAt se_M_kindAt rfl (L.sh (x := (12, 66)) rfl) (by decide) (Nat.le_of_ble_eq_true rfl) (Nat.le_trans (Nat.le_of_ble_eq_true rfl) hd) (Nat.le_of_ble_eq_true rfl)) (fun x6 h4 e5 p7 => ?_)
    have L8 := L.ext e5
    refine z_go (fun Q hq => x_iconst (dA d_M_takeParameters 21 rfl) hq) ?_
    refine z_brn (fun Q => x_icmp_ne (dA d_M_takeParameters 22 rfl) rfl p7 (inR_lit (1 : Int) rfl)) (fun c9 => ?_) (fun c9 => ?_)
    · refine z_go (fun Q hq => x_aload_n (dA d_M_takeParameters 23 rfl) rfl rfl (x_aload_n (dA d_M_takeParameters 24 rfl) rfl rfl (x_getR (dA d_M_takeParameters 25 rfl) f_M_57 (L8.sh (x := (12, 66)) rfl) (by decide) (by decide) rfl (L8.rf 124 rfl) (x_iload_n (dA d_M_takeParameters 26 rfl) rfl rfl hq)))) ?_
      refine z_gd (fun g10 => ?_)
      refine z_go (fun Q hq => x_lald (dA d_M_takeParameters 27 rfl) (L8.sh (x := (103, 400)) rfl) g10.1 g10.2 (by decide) (x_iload_n (dA d_M_takeParameters 28 rfl) rfl rfl hq)) ?_
      refine z_bnd (rest := []) (st1 := fun v => mI v :: []) (S_M_parameterOf (d := 2) (Nat.le_refl _) L8 rv1) (fun _ hx => absurd hx List.not_mem_nil) (fun _ => rfl) (fun Q' Q => x_callV (as := [mL (mGl h4 123 ((4 : Int) + ((2 : Int) * v1)).toNat), mI v1]) (rest := []) (k' := k_M_parameterOf) (dA d_M_takeParameters 29 rfl) o_M_parameterOf lk_M_364 im_M_parameterOf se_M_parameterOf rfl (L8.sh (x := (12, 66)) rfl) (by decide) (Nat.le_of_ble_eq_true rfl) (Nat.le_trans (Nat.le_of_ble_eq_true rfl) hd) (Nat.le_of_ble_eq_true rfl)) (fun x13 h11 e12 p14 => ?_)
      have L15 := L8.ext e12
      refine z_br (fun Q => x_if_lt (dA d_M_takeParameters 30 rfl) rfl p14) (fun c16 => ?_) (fun c16 => ?_)
      · refine z_go (fun Q hq => x_aload_n (dA d_M_takeParameters 33 rfl) rfl rfl (x_getR (dA d_M_takeParameters 34 rfl) f_M_66 (L15.sh (x := (12, 66)) rfl) (by decide) (by decide) rfl (L15.rf 127 rfl) (x_iload_n (dA d_M_takeParameters 35 rfl) rfl rfl (x_aload_n (dA d_M_takeParameters 36 rfl) rfl rfl (x_getR (dA d_M_takeParameters 37 rfl) f_M_57 (L15.sh (x := (12, 66)) rfl) (by decide) (by decide) rfl (L15.rf 124 rfl) (x_iload_n (dA d_M_takeParameters 38 rfl) rfl rfl (x_lald (dA d_M_takeParameters 39 rfl) (L15.sh (x := (103, 400)) rfl) g10.1 g10.2 (by decide) hq))))))) ?_
        refine z_gd (fun g17 => ?_)
        refine z_sto Ext.pl (fun Q hq => x_last (dA d_M_takeParameters 40 rfl) (L15.sh (x := (103, 3)) rfl) g17.1 g17.2 (by decide) hq) (fun h18 e19 => ?_)
        have L20 := L15.ext e19
        refine z_go (fun Q hq => x_aload_n (dA d_M_takeParameters 41 rfl) rfl rfl (x_iload_n (dA d_M_takeParameters 42 rfl) rfl rfl (x_iconst (dA d_M_takeParameters 43 rfl) hq))) ?_
        refine z_gd (fun g21 => ?_)
        refine z_go (fun Q hq => x_iadd (dA d_M_takeParameters 44 rfl) (x_bipush (dA d_M_takeParameters 45 rfl) (by decide) hq)) ?_
        refine z_bnd (rest := []) (st1 := fun v => mI v :: []) (S_M_isSignAt (d := 2) (Nat.le_refl _) L20 g21 (inR_lit (41 : Int) rfl)) (fun _ hx => absurd hx List.not_mem_nil) (fun _ => rfl) (fun Q' Q => x_callV (as := [mI (((4 : Int) + ((2 : Int) * v1)) + (1 : Int)), mI (41 : Int)]) (rest := []) (k' := k_M_isSignAt) (dA d_M_takeParameters 46 rfl) o_M_isSignAt lk_M_358 im_M_isSignAt se_M_isSignAt rfl (L20.sh (x := (12, 66)) rfl) (by decide) (Nat.le_of_ble_eq_true rfl) (Nat.le_trans (Nat.le_of_ble_eq_true rfl) hd) (Nat.le_of_ble_eq_true rfl)) (fun x24 h22 e23 p25 => ?_)
        have L26 := L20.ext e23
        refine z_br (fun Q => x_if_eq (dA d_M_takeParameters 47 rfl) rfl p25.inR) (fun c27 => ?_) (fun c27 => ?_)
        · refine z_go (fun Q hq => x_aload_n (dA d_M_takeParameters 52 rfl) rfl rfl (x_iload_n (dA d_M_takeParameters 53 rfl) rfl rfl (x_iconst (dA d_M_takeParameters 54 rfl) (x_iadd (dA d_M_takeParameters 55 rfl) (x_bipush (dA d_M_takeParameters 56 rfl) (by decide) hq))))) ?_
          refine z_bnd (rest := []) (st1 := fun v => mI v :: []) (S_M_isSignAt (d := 2) (Nat.le_refl _) L26 g21 (inR_lit (44 : Int) rfl)) (fun _ hx => absurd hx List.not_mem_nil) (fun _ => rfl) (fun Q' Q => x_callV (as := [mI (((4 : Int) + ((2 : Int) * v1)) + (1 : Int)), mI (44 : Int)]) (rest := []) (k' := k_M_isSignAt) (dA d_M_takeParameters 57 rfl) o_M_isSignAt lk_M_358 im_M_isSignAt se_M_isSignAt rfl (L26.sh (x := (12, 66)) rfl) (by decide) (Nat.le_of_ble_eq_true rfl) (Nat.le_trans (Nat.le_of_ble_eq_true rfl) hd) (Nat.le_of_ble_eq_true rfl)) (fun x30 h28 e29 p31 => ?_)
          have L32 := L26.ext e29
          refine z_brn (fun Q => x_if_ne (dA d_M_takeParameters 58 rfl) rfl p31.inR) (fun c33 => ?_) (fun c33 => ?_)
          · refine z_go (fun Q hq => x_iconst (dA d_M_takeParameters 59 rfl) hq) ?_
            exact z_reti (dA d_M_takeParameters 60 rfl) rfl (inR_lit (-1 : Int) rfl)
          · refine z_gd (fun g34 => ?_)
            refine z_go (fun Q hq => x_iinc (dA d_M_takeParameters 61 rfl) rfl (by decide) rfl (x_goto (dA d_M_takeParameters 62 rfl) rfl hq)) ?_
            refine z_fgt (ls' := [mR 107, mI (v1 + (1 : Int)), mN]) ⟨.inr rfl, .inr rfl, .inl rfl, trivial⟩ ?_
            exact hG14 (v1 + (1 : Int)) h28 L32 g34
        · refine z_go (fun Q hq => x_iload_n (dA d_M_takeParameters 48 rfl) rfl rfl (x_iconst (dA d_M_takeParameters 49 rfl) hq)) ?_
          refine z_gd (fun g35 => ?_)
          refine z_go (fun Q hq => x_iadd (dA d_M_takeParameters 50 rfl) hq) ?_
          exact z_reti (dA d_M_takeParameters 51 rfl) rfl g35
      · refine z_go (fun Q hq => x_iconst (dA d_M_takeParameters 31 rfl) hq) ?_
        exact z_reti (dA d_M_takeParameters 32 rfl) rfl (inR_lit (-1 : Int) rfl)
    · refine z_go (fun Q hq => x_iconst (dA d_M_takeParameters 31 rfl) hq) ?_
      exact z_reti (dA d_M_takeParameters 32 rfl) rfl (inR_lit (-1 : Int) rfl)
noncomputable def F_M_takeParameters_14 (v1 : Int) (h : MH) : RS Int := itr (fun self (q : Int × MH) => F_M_takeParameters_14_b (fun v1 h => self (v1, h)) q.1 q.2) FU (v1, h)
theorem S_M_takeParameters_14 {d : Nat} (hd : 3 ≤ d) {v1 : Int} {h : MH} (L : LayC h) (rv1 : inR v1) : OK d k_M_takeParameters 14 [mR 107, mI v1, mN] [] h cI inR (F_M_takeParameters_14  v1 h) := by
  unfold F_M_takeParameters_14
  refine z_itr (P := fun q : Int × MH => LayC q.2 ∧ inR q.1 ∧ True) (ls := fun q : Int × MH => [mR 107, mI q.1, mN]) (hp := fun q : Int × MH => q.2) (fun self hs q hq => ?_) FU (v1, h) ⟨L, rv1, trivial⟩
  exact S_M_takeParameters_14_b hd (fun v1 h L rv1 => hs (v1, h) ⟨L, rv1, trivial⟩) hq.1 hq.2.1
noncomputable def F_M_takeParameters (h : MH) : RS Int := bnd (F_M_isSignAt (4 : Int) (41 : Int) h) fun x38 h36 => if x38 = 0 then F_M_takeParameters_14 (0 : Int) h36 else some (.inl (5 : Int), h36)
theorem S_M_takeParameters {d : Nat} (hd : 3 ≤ d) {h : MH} (L : LayC h) : OK d k_M_takeParameters 0 [mR 107, mN, mN] [] h cI inR (F_M_takeParameters   h) := by
  unfold F_M_takeParameters
  refine z_go (fun Q hq => x_aload_n (dA d_M_takeParameters 0 rfl) rfl rfl (x_iconst (dA d_M_takeParameters 1 rfl) (x_bipush (dA d_M_takeParameters 2 rfl) (by decide) hq))) ?_
  refine z_bnd (rest := []) (st1 := fun v => mI v :: []) (S_M_isSignAt (d := 2) (Nat.le_refl _) L (inR_lit (4 : Int) rfl) (inR_lit (41 : Int) rfl)) (fun _ hx => absurd hx List.not_mem_nil) (fun _ => rfl) (fun Q' Q => x_callV (as := [mI (4 : Int), mI (41 : Int)]) (rest := []) (k' := k_M_isSignAt) (dA d_M_takeParameters 3 rfl) o_M_isSignAt lk_M_358 im_M_isSignAt se_M_isSignAt rfl (L.sh (x := (12, 66)) rfl) (by decide) (Nat.le_of_ble_eq_true rfl) (Nat.le_trans (Nat.le_of_ble_eq_true rfl) hd) (Nat.le_of_ble_eq_true rfl)) (fun x38 h36 e37 p39 => ?_)
  have L40 := L.ext e37
  refine z_br (fun Q => x_if_eq (dA d_M_takeParameters 4 rfl) rfl p39.inR) (fun c41 => ?_) (fun c41 => ?_)
  · refine z_go (fun Q hq => x_iconst (dA d_M_takeParameters 7 rfl) (x_istore_n (dA d_M_takeParameters 8 rfl) rfl (by decide) rfl hq)) ?_
    exact S_M_takeParameters_14 hd  L40 (inR_lit (0 : Int) rfl)
  · refine z_go (fun Q hq => x_iconst (dA d_M_takeParameters 5 rfl) hq) ?_
    exact z_reti (dA d_M_takeParameters 6 rfl) rfl (inR_lit (5 : Int) rfl)
/-! TwoMillsModel.defineName()V -/
noncomputable def F_M_defineName_283_b (G283 : Int → Int → Int → Int → MH → RS Unit) (v2 : Int) (v3 : Int) (v4 : Int) (v5 : Int) (h : MH) : RS Unit := gd (0 ≤ v4 ∧ v4 < 8) (if (mGi h 128 v4.toNat) ≤ v5 then some (.inl (), h) else gd (inR ((12 : Int) * v4)) (gd (inR (((12 : Int) * v4) + v5)) (gd (inR (v2 + v5)) (gd (0 ≤ (v2 + v5) ∧ (v2 + v5) < 400) (gd (0 ≤ (((12 : Int) * v4) + v5) ∧ (((12 : Int) * v4) + v5) < 96) (sto (mPl h 125 (((12 : Int) * v4) + v5).toNat (mGl h 123 (v2 + v5).toNat)) fun h8 => bnd (F_M_parameterOf (mGl h8 123 (v2 + v5).toNat) v3 h8) fun x13 h11 => sto (mPi h11 129 (((12 : Int) * v4) + v5).toNat x13) fun h16 => gd (inR (v5 + (1 : Int))) (G283 v2 v3 v4 (v5 + (1 : Int)) h16)))))))
theorem S_M_defineName_283_b {d : Nat} (hd : 4 ≤ d) {G283 : Int → Int → Int → Int → MH → RS Unit} (hG283 : ∀ (v2 : Int) (v3 : Int) (v4 : Int) (v5 : Int) (h : MH), LayC h → inR v2 → inR v3 → inR v4 → inR v5 → OK d k_M_defineName 283 [mR 107, mN, mI v2, mI v3, mI v4, mI v5] [] h cV pT (G283 v2 v3 v4 v5 h)) {v2 : Int} {v3 : Int} {v4 : Int} {v5 : Int} {h : MH} (L : LayC h) (rv2 : inR v2) (rv3 : inR v3) (rv4 : inR v4) (rv5 : inR v5) : OK d k_M_defineName 283 [mR 107, mN, mI v2, mI v3, mI v4, mI v5] [] h cV pT (F_M_defineName_283_b G283 v2 v3 v4 v5 h) := by
  unfold F_M_defineName_283_b
  refine z_go (fun Q hq => x_iload (dA d_M_defineName 154 rfl) rfl (x_aload_n (dA d_M_defineName 155 rfl) rfl rfl (x_getR (dA d_M_defineName 156 rfl) f_M_72 (L.sh (x := (12, 66)) rfl) (by decide) (by decide) rfl (L.rf 129 rfl) (x_iload (dA d_M_defineName 157 rfl) rfl hq)))) ?_
  refine z_gd (fun g1 => ?_)
  refine z_go (fun Q hq => x_iald (dA d_M_defineName 158 rfl) (L.sh (x := (100, 8)) rfl) g1.1 g1.2 (by decide) hq) ?_
  refine z_br (fun Q => x_icmp_ge (dA d_M_defineName 159 rfl) rfl rv5 (L.rg _ _)) (fun c2 => ?_) (fun c2 => ?_)
  · exact z_retv (dA d_M_defineName 193 rfl) rfl
  · refine z_go (fun Q hq => x_aload_n (dA d_M_defineName 160 rfl) rfl rfl (x_getR (dA d_M_defineName 161 rfl) f_M_63 (L.sh (x := (12, 66)) rfl) (by decide) (by decide) rfl (L.rf 126 rfl) (x_bipush (dA d_M_defineName 162 rfl) (by decide) (x_iload (dA d_M_defineName 163 rfl) rfl hq)))) ?_
    refine z_gd (fun g3 => ?_)
    refine z_go (fun Q hq => x_imul (dA d_M_defineName 164 rfl) (x_iload (dA d_M_defineName 165 rfl) rfl hq)) ?_
    refine z_gd (fun g4 => ?_)
    refine z_go (fun Q hq => x_iadd (dA d_M_defineName 166 rfl) (x_aload_n (dA d_M_defineName 167 rfl) rfl rfl (x_getR (dA d_M_defineName 168 rfl) f_M_57 (L.sh (x := (12, 66)) rfl) (by decide) (by decide) rfl (L.rf 124 rfl) (x_iload_n (dA d_M_defineName 169 rfl) rfl rfl (x_iload (dA d_M_defineName 170 rfl) rfl hq))))) ?_
    refine z_gd (fun g5 => ?_)
    refine z_go (fun Q hq => x_iadd (dA d_M_defineName 171 rfl) hq) ?_
    refine z_gd (fun g6 => ?_)
    refine z_go (fun Q hq => x_lald (dA d_M_defineName 172 rfl) (L.sh (x := (103, 400)) rfl) g6.1 g6.2 (by decide) hq) ?_
    refine z_gd (fun g7 => ?_)
    refine z_sto Ext.pl (fun Q hq => x_last (dA d_M_defineName 173 rfl) (L.sh (x := (103, 96)) rfl) g7.1 g7.2 (by decide) hq) (fun h8 e9 => ?_)
    have L10 := L.ext e9
    refine z_go (fun Q hq => x_aload_n (dA d_M_defineName 174 rfl) rfl rfl (x_getR (dA d_M_defineName 175 rfl) f_M_75 (L10.sh (x := (12, 66)) rfl) (by decide) (by decide) rfl (L10.rf 130 rfl) (x_bipush (dA d_M_defineName 176 rfl) (by decide) (x_iload (dA d_M_defineName 177 rfl) rfl (x_imul (dA d_M_defineName 178 rfl) (x_iload (dA d_M_defineName 179 rfl) rfl (x_iadd (dA d_M_defineName 180 rfl) (x_aload_n (dA d_M_defineName 181 rfl) rfl rfl (x_aload_n (dA d_M_defineName 182 rfl) rfl rfl (x_getR (dA d_M_defineName 183 rfl) f_M_57 (L10.sh (x := (12, 66)) rfl) (by decide) (by decide) rfl (L10.rf 124 rfl) (x_iload_n (dA d_M_defineName 184 rfl) rfl rfl (x_iload (dA d_M_defineName 185 rfl) rfl (x_iadd (dA d_M_defineName 186 rfl) (x_lald (dA d_M_defineName 187 rfl) (L10.sh (x := (103, 400)) rfl) g6.1 g6.2 (by decide) (x_iload_n (dA d_M_defineName 188 rfl) rfl rfl hq))))))))))))))) ?_
    refine z_bnd (rest := [mI (((12 : Int) * v4) + v5), mR 129]) (st1 := fun v => mI v :: [mI (((12 : Int) * v4) + v5), mR 129]) (S_M_parameterOf (d := 2) (Nat.le_refl _) L10 rv3) (fun _ hx => absurd hx List.not_mem_nil) (fun _ => rfl) (fun Q' Q => x_callV (as := [mL (mGl h8 123 (v2 + v5).toNat), mI v3]) (rest := [mI (((12 : Int) * v4) + v5), mR 129]) (k' := k_M_parameterOf) (dA d_M_defineName 189 rfl) o_M_parameterOf lk_M_364 im_M_parameterOf se_M_parameterOf rfl (L10.sh (x := (12, 66)) rfl) (by decide) (Nat.le_of_ble_eq_true rfl) (Nat.le_trans (Nat.le_of_ble_eq_true rfl) hd) (Nat.le_of_ble_eq_true rfl)) (fun x13 h11 e12 p14 => ?_)
    have L15 := L10.ext e12
    refine z_sto (Ext.pi (L15.sh (x := (100, 96)) rfl) (by decide) p14) (fun Q hq => x_iast (dA d_M_defineName 190 rfl) (L15.sh (x := (100, 96)) rfl) g7.1 g7.2 (by decide) hq) (fun h16 e17 => ?_)
    have L18 := L15.ext e17
    refine z_gd (fun g19 => ?_)
    refine z_go (fun Q hq => x_iinc (dA d_M_defineName 191 rfl) rfl (by decide) rfl (x_goto (dA d_M_defineName 192 rfl) rfl hq)) ?_
    exact hG283 v2 v3 v4 (v5 + (1 : Int)) h16 L18 rv2 rv3 rv4 g19
noncomputable def F_M_defineName_283 (v2 : Int) (v3 : Int) (v4 : Int) (v5 : Int) (h : MH) : RS Unit := itr (fun self (q : Int × Int × Int × Int × MH) => F_M_defineName_283_b (fun v2 v3 v4 v5 h => self (v2, v3, v4, v5, h)) q.1 q.2.1 q.2.2.1 q.2.2.2.1 q.2.2.2.2) FU (v2, v3, v4, v5, h)
theorem S_M_defineName_283 {d : Nat} (hd : 4 ≤ d) {v2 : Int} {v3 : Int} {v4 : Int} {v5 : Int} {h : MH} (L : LayC h) (rv2 : inR v2) (rv3 : inR v3) (rv4 : inR v4) (rv5 : inR v5) : OK d k_M_defineName 283 [mR 107, mN, mI v2, mI v3, mI v4, mI v5] [] h cV pT (F_M_defineName_283  v2 v3 v4 v5 h) := by
  unfold F_M_defineName_283
  refine z_itr (P := fun q : Int × Int × Int × Int × MH => LayC q.2.2.2.2 ∧ inR q.1 ∧ inR q.2.1 ∧ inR q.2.2.1 ∧ inR q.2.2.2.1 ∧ True) (ls := fun q : Int × Int × Int × Int × MH => [mR 107, mN, mI q.1, mI q.2.1, mI q.2.2.1, mI q.2.2.2.1]) (hp := fun q : Int × Int × Int × Int × MH => q.2.2.2.2) (fun self hs q hq => ?_) FU (v2, v3, v4, v5, h) ⟨L, rv2, rv3, rv4, rv5, trivial⟩
  exact S_M_defineName_283_b hd (fun v2 v3 v4 v5 h L rv2 rv3 rv4 rv5 => hs (v2, v3, v4, v5, h) ⟨L, rv2, rv3, rv4, rv5, trivial⟩) hq.1 hq.2.1 hq.2.2.1 hq.2.2.2.1 hq.2.2.2.2.1
noncomputable def F_M_defineName_230 (v1 : Int) (v2 : Int) (v3 : Int) (v4 : Int) (h : MH) : RS Unit := gd (0 ≤ v4 ∧ v4 < 8) (sto (mPi h 130 v4.toNat (1 : Int)) fun h21 => gd (0 ≤ (2 : Int) ∧ (2 : Int) < 400) (sto (mPl h21 124 v4.toNat (mGl h21 123 (2 : Int).toNat)) fun h25 => gd (p01 v1) (sto (mPi h25 131 v4.toNat v1) fun h29 => sto (mPi h29 127 v4.toNat v3) fun h32 => gd (inR ((mGi h32 107 29) - v2)) (sto (mPi h32 128 v4.toNat ((mGi h32 107 29) - v2)) fun h36 => F_M_defineName_283 v2 v3 v4 (0 : Int) h36))))
theorem S_M_defineName_230 {d : Nat} (hd : 4 ≤ d) {v1 : Int} {v2 : Int} {v3 : Int} {v4 : Int} {h : MH} (L : LayC h) (rv1 : inR v1) (rv2 : inR v2) (rv3 : inR v3) (rv4 : inR v4) : OK d k_M_defineName 230 [mR 107, mI v1, mI v2, mI v3, mI v4, mN] [] h cV pT (F_M_defineName_230  v1 v2 v3 v4 h) := by
  unfold F_M_defineName_230
  refine z_go (fun Q hq => x_aload_n (dA d_M_defineName 121 rfl) rfl rfl (x_getR (dA d_M_defineName 122 rfl) f_M_78 (L.sh (x := (12, 66)) rfl) (by decide) (by decide) rfl (L.rf 131 rfl) (x_iload (dA d_M_defineName 123 rfl) rfl (x_iconst (dA d_M_defineName 124 rfl) hq)))) ?_
  refine z_gd (fun g20 => ?_)
  refine z_sto (Ext.pi (L.sh (x := (102, 8)) rfl) (by decide) (inR_lit (1 : Int) rfl)) (fun Q hq => x_zast (dA d_M_defineName 125 rfl) (L.sh (x := (102, 8)) rfl) g20.1 g20.2 (by decide) (.inr rfl) hq) (fun h21 e22 => ?_)
  have L23 := L.ext e22
  refine z_go (fun Q hq => x_aload_n (dA d_M_defineName 126 rfl) rfl rfl (x_getR (dA d_M_defineName 127 rfl) f_M_60 (L23.sh (x := (12, 66)) rfl) (by decide) (by decide) rfl (L23.rf 125 rfl) (x_iload (dA d_M_defineName 128 rfl) rfl (x_aload_n (dA d_M_defineName 129 rfl) rfl rfl (x_getR (dA d_M_defineName 130 rfl) f_M_57 (L23.sh (x := (12, 66)) rfl) (by decide) (by decide) rfl (L23.rf 124 rfl) (x_iconst (dA d_M_defineName 131 rfl) hq)))))) ?_
  refine z_gd (fun g24 => ?_)
  refine z_go (fun Q hq => x_lald (dA d_M_defineName 132 rfl) (L23.sh (x := (103, 400)) rfl) g24.1 g24.2 (by decide) hq) ?_
  refine z_sto Ext.pl (fun Q hq => x_last (dA d_M_defineName 133 rfl) (L23.sh (x := (103, 8)) rfl) g20.1 g20.2 (by decide) hq) (fun h25 e26 => ?_)
  have L27 := L23.ext e26
  refine z_go (fun Q hq => x_aload_n (dA d_M_defineName 134 rfl) rfl rfl (x_getR (dA d_M_defineName 135 rfl) f_M_82 (L27.sh (x := (12, 66)) rfl) (by decide) (by decide) rfl (L27.rf 132 rfl) (x_iload (dA d_M_defineName 136 rfl) rfl (x_iload_n (dA d_M_defineName 137 rfl) rfl rfl hq)))) ?_
  refine z_gd (fun g28 => ?_)
  refine z_sto (Ext.pi (L27.sh (x := (102, 8)) rfl) (by decide) rv1) (fun Q hq => x_zast (dA d_M_defineName 138 rfl) (L27.sh (x := (102, 8)) rfl) g20.1 g20.2 (by decide) g28 hq) (fun h29 e30 => ?_)
  have L31 := L27.ext e30
  refine z_go (fun Q hq => x_aload_n (dA d_M_defineName 139 rfl) rfl rfl (x_getR (dA d_M_defineName 140 rfl) f_M_69 (L31.sh (x := (12, 66)) rfl) (by decide) (by decide) rfl (L31.rf 128 rfl) (x_iload (dA d_M_defineName 141 rfl) rfl (x_iload_n (dA d_M_defineName 142 rfl) rfl rfl hq)))) ?_
  refine z_sto (Ext.pi (L31.sh (x := (100, 8)) rfl) (by decide) rv3) (fun Q hq => x_iast (dA d_M_defineName 143 rfl) (L31.sh (x := (100, 8)) rfl) g20.1 g20.2 (by decide) hq) (fun h32 e33 => ?_)
  have L34 := L31.ext e33
  refine z_go (fun Q hq => x_aload_n (dA d_M_defineName 144 rfl) rfl rfl (x_getR (dA d_M_defineName 145 rfl) f_M_72 (L34.sh (x := (12, 66)) rfl) (by decide) (by decide) rfl (L34.rf 129 rfl) (x_iload (dA d_M_defineName 146 rfl) rfl (x_aload_n (dA d_M_defineName 147 rfl) rfl rfl (x_getI (dA d_M_defineName 148 rfl) f_M_340 (L34.sh (x := (12, 66)) rfl) (by decide) (by decide) rfl (x_iload_n (dA d_M_defineName 149 rfl) rfl rfl hq)))))) ?_
  refine z_gd (fun g35 => ?_)
  refine z_go (fun Q hq => x_isub (dA d_M_defineName 150 rfl) hq) ?_
  refine z_sto (Ext.pi (L34.sh (x := (100, 8)) rfl) (by decide) g35) (fun Q hq => x_iast (dA d_M_defineName 151 rfl) (L34.sh (x := (100, 8)) rfl) g20.1 g20.2 (by decide) hq) (fun h36 e37 => ?_)
  have L38 := L34.ext e37
  refine z_go (fun Q hq => x_iconst (dA d_M_defineName 152 rfl) (x_istore (dA d_M_defineName 153 rfl) (by decide) rfl hq)) ?_
  refine z_fgt (ls' := [mR 107, mN, mI v2, mI v3, mI v4, mI (0 : Int)]) ⟨.inr rfl, .inl rfl, .inr rfl, .inr rfl, .inr rfl, .inr rfl, trivial⟩ ?_
  exact S_M_defineName_283 hd  L38 rv2 rv3 rv4 (inR_lit (0 : Int) rfl)
noncomputable def F_M_defineName_222 (G188 : Int → Int → Int → Int → Int → MH → RS Unit) (v1 : Int) (v2 : Int) (v3 : Int) (v5 : Int) (s0 : Int) (h : MH) : RS Unit := gd (inR (v5 + (-1 : Int))) (G188 v1 v2 v3 s0 (v5 + (-1 : Int)) h)
theorem S_M_defineName_222 {d : Nat} (hd : 4 ≤ d) {G188 : Int → Int → Int → Int → Int → MH → RS Unit} (hG188 : ∀ (v1 : Int) (v2 : Int) (v3 : Int) (v4 : Int) (v5 : Int) (h : MH), LayC h → inR v1 → inR v2 → inR v3 → inR v4 → inR v5 → OK d k_M_defineName 188 [mR 107, mI v1, mI v2, mI v3, mI v4, mI v5] [] h cV pT (G188 v1 v2 v3 v4 v5 h)) {v1 : Int} {v2 : Int} {v3 : Int} {v5 : Int} {s0 : Int} {h : MH} (L : LayC h) (rv1 : inR v1) (rv2 : inR v2) (rv3 : inR v3) (rv5 : inR v5) (rs0 : inR s0) : OK d k_M_defineName 222 [mR 107, mI v1, mI v2, mI v3, mN, mI v5] [mI s0] h cV pT (F_M_defineName_222 G188 v1 v2 v3 v5 s0 h) := by
  unfold F_M_defineName_222
  refine z_go (fun Q hq => x_istore (dA d_M_defineName 118 rfl) (by decide) rfl hq) ?_
  refine z_gd (fun g39 => ?_)
  refine z_go (fun Q hq => x_iinc (dA d_M_defineName 119 rfl) rfl (by decide) rfl (x_goto (dA d_M_defineName 120 rfl) rfl hq)) ?_
  exact hG188 v1 v2 v3 s0 (v5 + (-1 : Int)) h L rv1 rv2 rv3 rs0 g39
noncomputable def F_M_defineName_220 (G188 : Int → Int → Int → Int → Int → MH → RS Unit) (v1 : Int) (v2 : Int) (v3 : Int) (v4 : Int) (v5 : Int) (h : MH) : RS Unit := F_M_defineName_222 G188 v1 v2 v3 v5 v4 h
theorem S_M_defineName_220 {d : Nat} (hd : 4 ≤ d) {G188 : Int → Int → Int → Int → Int → MH → RS Unit} (hG188 : ∀ (v1 : Int) (v2 : Int) (v3 : Int) (v4 : Int) (v5 : Int) (h : MH), LayC h → inR v1 → inR v2 → inR v3 → inR v4 → inR v5 → OK d k_M_defineName 188 [mR 107, mI v1, mI v2, mI v3, mI v4, mI v5] [] h cV pT (G188 v1 v2 v3 v4 v5 h)) {v1 : Int} {v2 : Int} {v3 : Int} {v4 : Int} {v5 : Int} {h : MH} (L : LayC h) (rv1 : inR v1) (rv2 : inR v2) (rv3 : inR v3) (rv4 : inR v4) (rv5 : inR v5) : OK d k_M_defineName 220 [mR 107, mI v1, mI v2, mI v3, mI v4, mI v5] [] h cV pT (F_M_defineName_220 G188 v1 v2 v3 v4 v5 h) := by
  unfold F_M_defineName_220
  refine z_go (fun Q hq => x_iload (dA d_M_defineName 117 rfl) rfl hq) ?_
  refine z_fgt (ls' := [mR 107, mI v1, mI v2, mI v3, mN, mI v5]) ⟨.inr rfl, .inr rfl, .inr rfl, .inr rfl, .inl rfl, .inr rfl, trivial⟩ ?_
  exact S_M_defineName_222 hd hG188 L rv1 rv2 rv3 rv5 rv4
noncomputable def F_M_defineName_188_b (G188 : Int → Int → Int → Int → Int → MH → RS Unit) (v1 : Int) (v2 : Int) (v3 : Int) (v4 : Int) (v5 : Int) (h : MH) : RS Unit := if v5 < 0 then F_M_defineName_230 v1 v2 v3 v4 h else if (mGi h 107 32) ≤ 0 then F_M_defineName_230 v1 v2 v3 v4 h else if 0 ≤ v4 then F_M_defineName_220 G188 v1 v2 v3 v4 v5 h else gd (0 ≤ v5 ∧ v5 < 8) (if (mGi h 130 v5.toNat) = 0 then F_M_defineName_222 G188 v1 v2 v3 v5 v5 h else F_M_defineName_220 G188 v1 v2 v3 v4 v5 h)
theorem S_M_defineName_188_b {d : Nat} (hd : 4 ≤ d) {G188 : Int → Int → Int → Int → Int → MH → RS Unit} (hG188 : ∀ (v1 : Int) (v2 : Int) (v3 : Int) (v4 : Int) (v5 : Int) (h : MH), LayC h → inR v1 → inR v2 → inR v3 → inR v4 → inR v5 → OK d k_M_defineName 188 [mR 107, mI v1, mI v2, mI v3, mI v4, mI v5] [] h cV pT (G188 v1 v2 v3 v4 v5 h)) {v1 : Int} {v2 : Int} {v3 : Int} {v4 : Int} {v5 : Int} {h : MH} (L : LayC h) (rv1 : inR v1) (rv2 : inR v2) (rv3 : inR v3) (rv4 : inR v4) (rv5 : inR v5) : OK d k_M_defineName 188 [mR 107, mI v1, mI v2, mI v3, mI v4, mI v5] [] h cV pT (F_M_defineName_188_b G188 v1 v2 v3 v4 v5 h) := by
  unfold F_M_defineName_188_b
  refine z_go (fun Q hq => x_iload (dA d_M_defineName 103 rfl) rfl hq) ?_
  refine z_br (fun Q => x_if_lt (dA d_M_defineName 104 rfl) rfl rv5) (fun c40 => ?_) (fun c40 => ?_)
  · refine z_fgt (ls' := [mR 107, mI v1, mI v2, mI v3, mI v4, mN]) ⟨.inr rfl, .inr rfl, .inr rfl, .inr rfl, .inr rfl, .inl rfl, trivial⟩ ?_
    exact S_M_defineName_230 hd  L rv1 rv2 rv3 rv4
  · refine z_go (fun Q hq => x_aload_n (dA d_M_defineName 105 rfl) rfl rfl (x_getI (dA d_M_defineName 106 rfl) f_M_375 (L.sh (x := (12, 66)) rfl) (by decide) (by decide) rfl hq)) ?_
    refine z_br (fun Q => x_if_le (dA d_M_defineName 107 rfl) rfl (L.rg _ _)) (fun c41 => ?_) (fun c41 => ?_)
    · refine z_fgt (ls' := [mR 107, mI v1, mI v2, mI v3, mI v4, mN]) ⟨.inr rfl, .inr rfl, .inr rfl, .inr rfl, .inr rfl, .inl rfl, trivial⟩ ?_
      exact S_M_defineName_230 hd  L rv1 rv2 rv3 rv4
    · refine z_go (fun Q hq => x_iload (dA d_M_defineName 108 rfl) rfl hq) ?_
      refine z_br (fun Q => x_if_ge (dA d_M_defineName 109 rfl) rfl rv4) (fun c42 => ?_) (fun c42 => ?_)
      · exact S_M_defineName_220 hd hG188 L rv1 rv2 rv3 rv4 rv5
      · refine z_go (fun Q hq => x_aload_n (dA d_M_defineName 110 rfl) rfl rfl (x_getR (dA d_M_defineName 111 rfl) f_M_78 (L.sh (x := (12, 66)) rfl) (by decide) (by decide) rfl (L.rf 131 rfl) (x_iload (dA d_M_defineName 112 rfl) rfl hq))) ?_
        refine z_gd (fun g43 => ?_)
        refine z_go (fun Q hq => x_zald (dA d_M_defineName 113 rfl) (L.sh (x := (102, 8)) rfl) g43.1 g43.2 (by decide) hq) ?_
        refine z_brn (fun Q => x_if_ne (dA d_M_defineName 114 rfl) rfl (L.rg _ _)) (fun c44 => ?_) (fun c44 => ?_)
        · refine z_go (fun Q hq => x_iload (dA d_M_defineName 115 rfl) rfl (x_goto (dA d_M_defineName 116 rfl) rfl hq)) ?_
          refine z_fgt (ls' := [mR 107, mI v1, mI v2, mI v3, mN, mI v5]) ⟨.inr rfl, .inr rfl, .inr rfl, .inr rfl, .inl rfl, .inr rfl, trivial⟩ ?_
          exact S_M_defineName_222 hd hG188 L rv1 rv2 rv3 rv5 rv5
        · exact S_M_defineName_220 hd hG188 L rv1 rv2 rv3 rv4 rv5
noncomputable def F_M_defineName_188 (v1 : Int) (v2 : Int) (v3 : Int) (v4 : Int) (v5 : Int) (h : MH) : RS Unit := itr (fun self (q : Int × Int × Int × Int × Int × MH) => F_M_defineName_188_b (fun v1 v2 v3 v4 v5 h => self (v1, v2, v3, v4, v5, h)) q.1 q.2.1 q.2.2.1 q.2.2.2.1 q.2.2.2.2.1 q.2.2.2.2.2) FU (v1, v2, v3, v4, v5, h)
theorem S_M_defineName_188 {d : Nat} (hd : 4 ≤ d) {v1 : Int} {v2 : Int} {v3 : Int} {v4 : Int} {v5 : Int} {h : MH} (L : LayC h) (rv1 : inR v1) (rv2 : inR v2) (rv3 : inR v3) (rv4 : inR v4) (rv5 : inR v5) : OK d k_M_defineName 188 [mR 107, mI v1, mI v2, mI v3, mI v4, mI v5] [] h cV pT (F_M_defineName_188  v1 v2 v3 v4 v5 h) := by
  unfold F_M_defineName_188
  refine z_itr (P := fun q : Int × Int × Int × Int × Int × MH => LayC q.2.2.2.2.2 ∧ inR q.1 ∧ inR q.2.1 ∧ inR q.2.2.1 ∧ inR q.2.2.2.1 ∧ inR q.2.2.2.2.1 ∧ True) (ls := fun q : Int × Int × Int × Int × Int × MH => [mR 107, mI q.1, mI q.2.1, mI q.2.2.1, mI q.2.2.2.1, mI q.2.2.2.2.1]) (hp := fun q : Int × Int × Int × Int × Int × MH => q.2.2.2.2.2) (fun self hs q hq => ?_) FU (v1, v2, v3, v4, v5, h) ⟨L, rv1, rv2, rv3, rv4, rv5, trivial⟩
  exact S_M_defineName_188_b hd (fun v1 v2 v3 v4 v5 h L rv1 rv2 rv3 rv4 rv5 => hs (v1, v2, v3, v4, v5, h) ⟨L, rv1, rv2, rv3, rv4, rv5, trivial⟩) hq.1 hq.2.1 hq.2.2.1 hq.2.2.2.1 hq.2.2.2.2.1 hq.2.2.2.2.2.1
noncomputable def F_M_defineName_180 (v1 : Int) (v2 : Int) (v3 : Int) (v4 : Int) (s1 : Int) (s2 : Int) (h : MH) : RS Unit := gd (inR (s1 + s2)) (sto (mPi h 107 32 (s1 + s2)) fun h46 => F_M_defineName_188 v1 v2 v3 v4 (7 : Int) h46)
theorem S_M_defineName_180 {d : Nat} (hd : 4 ≤ d) {v1 : Int} {v2 : Int} {v3 : Int} {v4 : Int} {s1 : Int} {s2 : Int} {h : MH} (L : LayC h) (rv1 : inR v1) (rv2 : inR v2) (rv3 : inR v3) (rv4 : inR v4) (rs1 : inR s1) (rs2 : inR s2) : OK d k_M_defineName 180 [mR 107, mI v1, mI v2, mI v3, mI v4, mN] [mI s2, mI s1, mR 107] h cV pT (F_M_defineName_180  v1 v2 v3 v4 s1 s2 h) := by
  unfold F_M_defineName_180
  refine z_gd (fun g45 => ?_)
  refine z_go (fun Q hq => x_iadd (dA d_M_defineName 99 rfl) hq) ?_
  refine z_sto (Ext.pi (L.sh (x := (12, 66)) rfl) (by decide) g45) (fun Q hq => x_putI (dA d_M_defineName 100 rfl) p_M_375 (L.sh (x := (12, 66)) rfl) (by decide) cl_M rfl hq) (fun h46 e47 => ?_)
  have L48 := L.ext e47
  refine z_go (fun Q hq => x_bipush (dA d_M_defineName 101 rfl) (by decide) (x_istore (dA d_M_defineName 102 rfl) (by decide) rfl hq)) ?_
  exact S_M_defineName_188 hd  L48 rv1 rv2 rv3 rv4 (inR_lit (7 : Int) rfl)
noncomputable def F_M_defineName_157 (v1 : Int) (v2 : Int) (v3 : Int) (v4 : Int) (s1 : Int) (h : MH) : RS Unit := gd (p01 s1) (bnd (F_M_need s1 (1 : Int) h) fun x52 h50 => if x52 = 0 then some (.inl (), h50) else if 0 ≤ v4 then F_M_defineName_180 v1 v2 v3 v4 (mGi h50 107 32) (0 : Int) h50 else F_M_defineName_180 v1 v2 v3 v4 (mGi h50 107 32) (1 : Int) h50)
theorem S_M_defineName_157 {d : Nat} (hd : 4 ≤ d) {v1 : Int} {v2 : Int} {v3 : Int} {v4 : Int} {s1 : Int} {h : MH} (L : LayC h) (rv1 : inR v1) (rv2 : inR v2) (rv3 : inR v3) (rv4 : inR v4) (rs1 : inR s1) : OK d k_M_defineName 157 [mR 107, mI v1, mI v2, mI v3, mI v4, mN] [mI s1, mR 107] h cV pT (F_M_defineName_157  v1 v2 v3 v4 s1 h) := by
  unfold F_M_defineName_157
  refine z_go (fun Q hq => x_iconst (dA d_M_defineName 87 rfl) hq) ?_
  refine z_gd (fun g49 => ?_)
  refine z_bnd (rest := []) (st1 := fun v => mI v :: []) (S_M_need (d := 1) (Nat.le_refl _) L g49 (inR_lit (1 : Int) rfl)) (fun _ hx => absurd hx List.not_mem_nil) (fun _ => rfl) (fun Q' Q => x_callV (as := [mI s1, mI (1 : Int)]) (rest := []) (k' := k_M_need) (dA d_M_defineName 88 rfl) o_M_need lk_M_181 im_M_need se_M_need rfl (L.sh (x := (12, 66)) rfl) (by decide) (Nat.le_of_ble_eq_true rfl) (Nat.le_trans (Nat.le_of_ble_eq_true rfl) hd) (Nat.le_of_ble_eq_true rfl)) (fun x52 h50 e51 p53 => ?_)
  have L54 := L.ext e51
  refine z_brn (fun Q => x_if_ne (dA d_M_defineName 89 rfl) rfl p53.inR) (fun c55 => ?_) (fun c55 => ?_)
  · exact z_retv (dA d_M_defineName 90 rfl) rfl
  · refine z_go (fun Q hq => x_aload_n (dA d_M_defineName 91 rfl) rfl rfl (x_dup (dA d_M_defineName 92 rfl) rfl (x_getI (dA d_M_defineName 93 rfl) f_M_375 (L54.sh (x := (12, 66)) rfl) (by decide) (by decide) rfl (x_iload (dA d_M_defineName 94 rfl) rfl hq)))) ?_
    refine z_br (fun Q => x_if_ge (dA d_M_defineName 95 rfl) rfl rv4) (fun c56 => ?_) (fun c56 => ?_)
    · refine z_go (fun Q hq => x_iconst (dA d_M_defineName 98 rfl) hq) ?_
      exact S_M_defineName_180 hd  L54 rv1 rv2 rv3 rv4 (L54.rg _ _) (inR_lit (0 : Int) rfl)
    · refine z_go (fun Q hq => x_iconst (dA d_M_defineName 96 rfl) (x_goto (dA d_M_defineName 97 rfl) rfl hq)) ?_
      exact S_M_defineName_180 hd  L54 rv1 rv2 rv3 rv4 (L54.rg _ _) (inR_lit (1 : Int) rfl)
noncomputable def F_M_defineName_156 (v1 : Int) (v2 : Int) (v3 : Int) (v4 : Int) (h : MH) : RS Unit := F_M_defineName_157 v1 v2 v3 v4 (0 : Int) h
theorem S_M_defineName_156 {d : Nat} (hd : 4 ≤ d) {v1 : Int} {v2 : Int} {v3 : Int} {v4 : Int} {h : MH} (L : LayC h) (rv1 : inR v1) (rv2 : inR v2) (rv3 : inR v3) (rv4 : inR v4) : OK d k_M_defineName 156 [mR 107, mI v1, mI v2, mI v3, mI v4, mN] [mR 107] h cV pT (F_M_defineName_156  v1 v2 v3 v4 h) := by
  unfold F_M_defineName_156
  refine z_go (fun Q hq => x_iconst (dA d_M_defineName 86 rfl) hq) ?_
  exact S_M_defineName_157 hd  L rv1 rv2 rv3 rv4 (inR_lit (0 : Int) rfl)
noncomputable def F_M_defineName_152 (v1 : Int) (v2 : Int) (v3 : Int) (v4 : Int) (h : MH) : RS Unit := F_M_defineName_157 v1 v2 v3 v4 (1 : Int) h
theorem S_M_defineName_152 {d : Nat} (hd : 4 ≤ d) {v1 : Int} {v2 : Int} {v3 : Int} {v4 : Int} {h : MH} (L : LayC h) (rv1 : inR v1) (rv2 : inR v2) (rv3 : inR v3) (rv4 : inR v4) : OK d k_M_defineName 152 [mR 107, mI v1, mI v2, mI v3, mI v4, mN] [mR 107] h cV pT (F_M_defineName_152  v1 v2 v3 v4 h) := by
  unfold F_M_defineName_152
  refine z_go (fun Q hq => x_iconst (dA d_M_defineName 84 rfl) (x_goto (dA d_M_defineName 85 rfl) rfl hq)) ?_
  exact S_M_defineName_157 hd  L rv1 rv2 rv3 rv4 (inR_lit (1 : Int) rfl)
noncomputable def F_M_defineName_118 (v1 : Int) (v2 : Int) (v3 : Int) (v4 : Int) (s1 : Int) (h : MH) : RS Unit := gd (p01 s1) (bnd (F_M_need s1 (6 : Int) h) fun x60 h58 => if x60 = 0 then some (.inl (), h58) else gd (inR ((mGi h58 107 29) - v2)) (if (12 : Int) < ((mGi h58 107 29) - v2) then F_M_defineName_156 v1 v2 v3 v4 h58 else if 0 ≤ v4 then F_M_defineName_152 v1 v2 v3 v4 h58 else if (8 : Int) ≤ (mGi h58 107 32) then F_M_defineName_156 v1 v2 v3 v4 h58 else F_M_defineName_152 v1 v2 v3 v4 h58))
theorem S_M_defineName_118 {d : Nat} (hd : 4 ≤ d) {v1 : Int} {v2 : Int} {v3 : Int} {v4 : Int} {s1 : Int} {h : MH} (L : LayC h) (rv1 : inR v1) (rv2 : inR v2) (rv3 : inR v3) (rv4 : inR v4) (rs1 : inR s1) : OK d k_M_defineName 118 [mR 107, mI v1, mI v2, mI v3, mI v4, mN] [mI s1, mR 107] h cV pT (F_M_defineName_118  v1 v2 v3 v4 s1 h) := by
  unfold F_M_defineName_118
  refine z_go (fun Q hq => x_bipush (dA d_M_defineName 68 rfl) (by decide) hq) ?_
  refine z_gd (fun g57 => ?_)
  refine z_bnd (rest := []) (st1 := fun v => mI v :: []) (S_M_need (d := 1) (Nat.le_refl _) L g57 (inR_lit (6 : Int) rfl)) (fun _ hx => absurd hx List.not_mem_nil) (fun _ => rfl) (fun Q' Q => x_callV (as := [mI s1, mI (6 : Int)]) (rest := []) (k' := k_M_need) (dA d_M_defineName 69 rfl) o_M_need lk_M_181 im_M_need se_M_need rfl (L.sh (x := (12, 66)) rfl) (by decide) (Nat.le_of_ble_eq_true rfl) (Nat.le_trans (Nat.le_of_ble_eq_true rfl) hd) (Nat.le_of_ble_eq_true rfl)) (fun x60 h58 e59 p61 => ?_)
  have L62 := L.ext e59
  refine z_br (fun Q => x_if_eq (dA d_M_defineName 70 rfl) rfl p61.inR) (fun c63 => ?_) (fun c63 => ?_)
  · exact z_retv (dA d_M_defineName 90 rfl) rfl
  · refine z_go (fun Q hq => x_aload_n (dA d_M_defineName 71 rfl) rfl rfl (x_aload_n (dA d_M_defineName 72 rfl) rfl rfl (x_getI (dA d_M_defineName 73 rfl) f_M_340 (L62.sh (x := (12, 66)) rfl) (by decide) (by decide) rfl (x_iload_n (dA d_M_defineName 74 rfl) rfl rfl hq)))) ?_
    refine z_gd (fun g64 => ?_)
    refine z_go (fun Q hq => x_isub (dA d_M_defineName 75 rfl) (x_bipush (dA d_M_defineName 76 rfl) (by decide) hq)) ?_
    refine z_br (fun Q => x_icmp_gt (dA d_M_defineName 77 rfl) rfl g64 (inR_lit (12 : Int) rfl)) (fun c65 => ?_) (fun c65 => ?_)
    · exact S_M_defineName_156 hd  L62 rv1 rv2 rv3 rv4
    · refine z_go (fun Q hq => x_iload (dA d_M_defineName 78 rfl) rfl hq) ?_
      refine z_br (fun Q => x_if_ge (dA d_M_defineName 79 rfl) rfl rv4) (fun c66 => ?_) (fun c66 => ?_)
      · exact S_M_defineName_152 hd  L62 rv1 rv2 rv3 rv4
      · refine z_go (fun Q hq => x_aload_n (dA d_M_defineName 80 rfl) rfl rfl (x_getI (dA d_M_defineName 81 rfl) f_M_375 (L62.sh (x := (12, 66)) rfl) (by decide) (by decide) rfl (x_bipush (dA d_M_defineName 82 rfl) (by decide) hq))) ?_
        refine z_br (fun Q => x_icmp_ge (dA d_M_defineName 83 rfl) rfl (L62.rg _ _) (inR_lit (8 : Int) rfl)) (fun c67 => ?_) (fun c67 => ?_)
        · exact S_M_defineName_156 hd  L62 rv1 rv2 rv3 rv4
        · exact S_M_defineName_152 hd  L62 rv1 rv2 rv3 rv4
noncomputable def F_M_defineName_117 (v1 : Int) (v2 : Int) (v3 : Int) (v4 : Int) (h : MH) : RS Unit := F_M_defineName_118 v1 v2 v3 v4 (0 : Int) h
theorem S_M_defineName_117 {d : Nat} (hd : 4 ≤ d) {v1 : Int} {v2 : Int} {v3 : Int} {v4 : Int} {h : MH} (L : LayC h) (rv1 : inR v1) (rv2 : inR v2) (rv3 : inR v3) (rv4 : inR v4) : OK d k_M_defineName 117 [mR 107, mI v1, mI v2, mI v3, mI v4, mN] [mR 107] h cV pT (F_M_defineName_117  v1 v2 v3 v4 h) := by
  unfold F_M_defineName_117
  refine z_go (fun Q hq => x_iconst (dA d_M_defineName 67 rfl) hq) ?_
  exact S_M_defineName_118 hd  L rv1 rv2 rv3 rv4 (inR_lit (0 : Int) rfl)
noncomputable def F_M_defineName_97 (v1 : Int) (v2 : Int) (v3 : Int) (s0 : Int) (h : MH) : RS Unit := bnd (F_M_kindAt (2 : Int) h) fun x70 h68 => if x70 = (1 : Int) then if v2 < 0 then F_M_defineName_117 v1 v2 v3 s0 h68 else F_M_defineName_118 v1 v2 v3 s0 (1 : Int) h68 else F_M_defineName_117 v1 v2 v3 s0 h68
theorem S_M_defineName_97 {d : Nat} (hd : 4 ≤ d) {v1 : Int} {v2 : Int} {v3 : Int} {s0 : Int} {h : MH} (L : LayC h) (rv1 : inR v1) (rv2 : inR v2) (rv3 : inR v3) (rs0 : inR s0) : OK d k_M_defineName 97 [mR 107, mI v1, mI v2, mI v3, mN, mN] [mI s0] h cV pT (F_M_defineName_97  v1 v2 v3 s0 h) := by
  unfold F_M_defineName_97
  refine z_go (fun Q hq => x_istore (dA d_M_defineName 56 rfl) (by decide) rfl (x_aload_n (dA d_M_defineName 57 rfl) rfl rfl (x_aload_n (dA d_M_defineName 58 rfl) rfl rfl (x_iconst (dA d_M_defineName 59 rfl) hq)))) ?_
  refine z_bnd (rest := [mR 107]) (st1 := fun v => mI v :: [mR 107]) (S_M_kindAt (d := 1) (Nat.le_refl _) L (inR_lit (2 : Int) rfl)) (fun _ hx => absurd hx List.not_mem_nil) (fun _ => rfl) (fun Q' Q => x_callV (as := [mI (2 : Int)]) (rest := [mR 107]) (k' := k_M_kindAt) (dA d_M_defineName 60 rfl) o_M_kindAt lk_M_361 im_M_kindAt se_M_kindAt rfl (L.sh (x := (12, 66)) rfl) (by decide) (Nat.le_of_ble_eq_true rfl) (Nat.le_trans (Nat.le_of_ble_eq_true rfl) hd) (Nat.le_of_ble_eq_true rfl)) (fun x70 h68 e69 p71 => ?_)
  have L72 := L.ext e69
  refine z_go (fun Q hq => x_iconst (dA d_M_defineName 61 rfl) hq) ?_
  refine z_brn (fun Q => x_icmp_ne (dA d_M_defineName 62 rfl) rfl p71 (inR_lit (1 : Int) rfl)) (fun c73 => ?_) (fun c73 => ?_)
  · refine z_go (fun Q hq => x_iload_n (dA d_M_defineName 63 rfl) rfl rfl hq) ?_
    refine z_br (fun Q => x_if_lt (dA d_M_defineName 64 rfl) rfl rv2) (fun c74 => ?_) (fun c74 => ?_)
    · exact S_M_defineName_117 hd  L72 rv1 rv2 rv3 rs0
    · refine z_go (fun Q hq => x_iconst (dA d_M_defineName 65 rfl) (x_goto (dA d_M_defineName 66 rfl) rfl hq)) ?_
      exact S_M_defineName_118 hd  L72 rv1 rv2 rv3 rs0 (inR_lit (1 : Int) rfl)
  · exact S_M_defineName_117 hd  L72 rv1 rv2 rv3 rs0
noncomputable def F_M_defineName_73 (v1 : Int) (v2 : Int) (s0 : Int) (h : MH) : RS Unit := bnd (F_M_kindAt (2 : Int) h) fun x77 h75 => if x77 = (1 : Int) then gd (0 ≤ (2 : Int) ∧ (2 : Int) < 400) (bnd (F_M_nameOf (mGl h75 123 (2 : Int).toNat) h75) fun x84 h82 => F_M_defineName_97 v1 v2 s0 x84 h82) else F_M_defineName_97 v1 v2 s0 (-1 : Int) h75
theorem S_M_defineName_73 {d : Nat} (hd : 4 ≤ d) {v1 : Int} {v2 : Int} {s0 : Int} {h : MH} (L : LayC h) (rv1 : inR v1) (rv2 : inR v2) (rs0 : inR s0) : OK d k_M_defineName 73 [mR 107, mI v1, mI v2, mN, mN, mN] [mI s0] h cV pT (F_M_defineName_73  v1 v2 s0 h) := by
  unfold F_M_defineName_73
  refine z_go (fun Q hq => x_istore_n (dA d_M_defineName 42 rfl) rfl (by decide) rfl (x_aload_n (dA d_M_defineName 43 rfl) rfl rfl (x_iconst (dA d_M_defineName 44 rfl) hq))) ?_
  refine z_bnd (rest := []) (st1 := fun v => mI v :: []) (S_M_kindAt (d := 1) (Nat.le_refl _) L (inR_lit (2 : Int) rfl)) (fun _ hx => absurd hx List.not_mem_nil) (fun _ => rfl) (fun Q' Q => x_callV (as := [mI (2 : Int)]) (rest := []) (k' := k_M_kindAt) (dA d_M_defineName 45 rfl) o_M_kindAt lk_M_361 im_M_kindAt se_M_kindAt rfl (L.sh (x := (12, 66)) rfl) (by decide) (Nat.le_of_ble_eq_true rfl) (Nat.le_trans (Nat.le_of_ble_eq_true rfl) hd) (Nat.le_of_ble_eq_true rfl)) (fun x77 h75 e76 p78 => ?_)
  have L79 := L.ext e76
  refine z_go (fun Q hq => x_iconst (dA d_M_defineName 46 rfl) hq) ?_
  refine z_brn (fun Q => x_icmp_ne (dA d_M_defineName 47 rfl) rfl p78 (inR_lit (1 : Int) rfl)) (fun c80 => ?_) (fun c80 => ?_)
  · refine z_go (fun Q hq => x_aload_n (dA d_M_defineName 48 rfl) rfl rfl (x_aload_n (dA d_M_defineName 49 rfl) rfl rfl (x_getR (dA d_M_defineName 50 rfl) f_M_57 (L79.sh (x := (12, 66)) rfl) (by decide) (by decide) rfl (L79.rf 124 rfl) (x_iconst (dA d_M_defineName 51 rfl) hq)))) ?_
    refine z_gd (fun g81 => ?_)
    refine z_go (fun Q hq => x_lald (dA d_M_defineName 52 rfl) (L79.sh (x := (103, 400)) rfl) g81.1 g81.2 (by decide) hq) ?_
    refine z_bnd (rest := []) (st1 := fun v => mI v :: []) (S_M_nameOf (d := 2) (Nat.le_refl _) L79 ) (fun _ hx => absurd hx List.not_mem_nil) (fun _ => rfl) (fun Q' Q => x_callV (as := [mL (mGl h75 123 (2 : Int).toNat)]) (rest := []) (k' := k_M_nameOf) (dA d_M_defineName 53 rfl) o_M_nameOf lk_M_372 im_M_nameOf se_M_nameOf rfl (L79.sh (x := (12, 66)) rfl) (by decide) (Nat.le_of_ble_eq_true rfl) (Nat.le_trans (Nat.le_of_ble_eq_true rfl) hd) (Nat.le_of_ble_eq_true rfl)) (fun x84 h82 e83 p85 => ?_)
    have L86 := L79.ext e83
    refine z_go (fun Q hq => x_goto (dA d_M_defineName 54 rfl) rfl hq) ?_
    exact S_M_defineName_97 hd  L86 rv1 rv2 rs0 p85
  · refine z_go (fun Q hq => x_iconst (dA d_M_defineName 55 rfl) hq) ?_
    exact S_M_defineName_97 hd  L79 rv1 rv2 rs0 (inR_lit (-1 : Int) rfl)
noncomputable def F_M_defineName_59 (v1 : Int) (s0 : Int) (h : MH) : RS Unit := if v1 = 0 then F_M_defineName_73 v1 s0 (0 : Int) h else gd (inR (s0 - (4 : Int))) (F_M_defineName_73 v1 s0 (Int.tdiv (s0 - (4 : Int)) (2 : Int)) h)
theorem S_M_defineName_59 {d : Nat} (hd : 4 ≤ d) {v1 : Int} {s0 : Int} {h : MH} (L : LayC h) (rv1 : inR v1) (rs0 : inR s0) : OK d k_M_defineName 59 [mR 107, mI v1, mN, mN, mN, mN] [mI s0] h cV pT (F_M_defineName_59  v1 s0 h) := by
  unfold F_M_defineName_59
  refine z_go (fun Q hq => x_istore_n (dA d_M_defineName 32 rfl) rfl (by decide) rfl (x_iload_n (dA d_M_defineName 33 rfl) rfl rfl hq)) ?_
  refine z_br (fun Q => x_if_eq (dA d_M_defineName 34 rfl) rfl rv1) (fun c87 => ?_) (fun c87 => ?_)
  · refine z_go (fun Q hq => x_iconst (dA d_M_defineName 41 rfl) hq) ?_
    exact S_M_defineName_73 hd  L rv1 rs0 (inR_lit (0 : Int) rfl)
  · refine z_go (fun Q hq => x_iload_n (dA d_M_defineName 35 rfl) rfl rfl (x_iconst (dA d_M_defineName 36 rfl) hq)) ?_
    refine z_gd (fun g88 => ?_)
    refine z_go (fun Q hq => x_isub (dA d_M_defineName 37 rfl) (x_iconst (dA d_M_defineName 38 rfl) (x_idivT (dA d_M_defineName 39 rfl) g88 (inR_lit (2 : Int) rfl) (by decide) (x_goto (dA d_M_defineName 40 rfl) rfl hq)))) ?_
    exact S_M_defineName_73 hd  L rv1 rs0 (inR_tdiv g88 (inR_lit (2 : Int) rfl) (by decide))
noncomputable def F_M_defineName_46 (s0 : Int) (h : MH) : RS Unit := if s0 = 0 then F_M_defineName_59 s0 (3 : Int) h else bnd (F_M_takeParameters h) fun x92 h90 => F_M_defineName_59 s0 x92 h90
theorem S_M_defineName_46 {d : Nat} (hd : 4 ≤ d) {s0 : Int} {h : MH} (L : LayC h) (rs0 : inR s0) : OK d k_M_defineName 46 [mR 107, mN, mN, mN, mN, mN] [mI s0] h cV pT (F_M_defineName_46  s0 h) := by
  unfold F_M_defineName_46
  refine z_go (fun Q hq => x_istore_n (dA d_M_defineName 25 rfl) rfl (by decide) rfl (x_iload_n (dA d_M_defineName 26 rfl) rfl rfl hq)) ?_
  refine z_br (fun Q => x_if_eq (dA d_M_defineName 27 rfl) rfl rs0) (fun c89 => ?_) (fun c89 => ?_)
  · refine z_go (fun Q hq => x_iconst (dA d_M_defineName 31 rfl) hq) ?_
    exact S_M_defineName_59 hd  L rs0 (inR_lit (3 : Int) rfl)
  · refine z_go (fun Q hq => x_aload_n (dA d_M_defineName 28 rfl) rfl rfl hq) ?_
    refine z_bnd (rest := []) (st1 := fun v => mI v :: []) (S_M_takeParameters (d := 3) (Nat.le_refl _) L ) (fun _ hx => absurd hx List.not_mem_nil) (fun _ => rfl) (fun Q' Q => x_callV (as := []) (rest := []) (k' := k_M_takeParameters) (dA d_M_defineName 29 rfl) o_M_takeParameters lk_M_368 im_M_takeParameters se_M_takeParameters rfl (L.sh (x := (12, 66)) rfl) (by decide) (Nat.le_of_ble_eq_true rfl) (Nat.le_trans (Nat.le_of_ble_eq_true rfl) hd) (Nat.le_of_ble_eq_true rfl)) (fun x92 h90 e91 p93 => ?_)
    have L94 := L.ext e91
    refine z_go (fun Q hq => x_goto (dA d_M_defineName 30 rfl) rfl hq) ?_
    exact S_M_defineName_59 hd  L94 rs0 p93
noncomputable def F_M_defineName_45 (h : MH) : RS Unit := F_M_defineName_46 (0 : Int) h
theorem S_M_defineName_45 {d : Nat} (hd : 4 ≤ d) {h : MH} (L : LayC h) : OK d k_M_defineName 45 [mR 107, mN, mN, mN, mN, mN] [] h cV pT (F_M_defineName_45   h) := by
  unfold F_M_defineName_45
  refine z_go (fun Q hq => x_iconst (dA d_M_defineName 24 rfl) hq) ?_
  exact S_M_defineName_46 hd  L (inR_lit (0 : Int) rfl)
noncomputable def F_M_defineName (h : MH) : RS Unit := bnd (F_M_isSignAt (3 : Int) (40 : Int) h) fun x97 h95 => if x97 = 0 then F_M_defineName_45  h95 else gd (0 ≤ (3 : Int) ∧ (3 : Int) < 400) (bnd (F_M_placeOf (mGl h95 123 (3 : Int).toNat) h95) fun x104 h102 => gd (0 ≤ (2 : Int) ∧ (2 : Int) < 400) (bnd (F_M_placeOf (mGl h102 123 (2 : Int).toNat) h102) fun x110 h108 => bnd (F_M_sizeOf (mGl h108 123 (2 : Int).toNat) h108) fun x115 h113 => gd (inR (x110 + x115)) (if x104 = (x110 + x115) then F_M_defineName_46 (1 : Int) h113 else F_M_defineName_45  h113)))
theorem S_M_defineName {d : Nat} (hd : 4 ≤ d) {h : MH} (L : LayC h) : OK d k_M_defineName 0 [mR 107, mN, mN, mN, mN, mN] [] h cV pT (F_M_defineName   h) := by
  unfold F_M_defineName
  refine z_go (fun Q hq => x_aload_n (dA d_M_defineName 0 rfl) rfl rfl (x_iconst (dA d_M_defineName 1 rfl) (x_bipush (dA d_M_defineName 2 rfl) (by decide) hq))) ?_
  refine z_bnd (rest := []) (st1 := fun v => mI v :: []) (S_M_isSignAt (d := 2) (Nat.le_refl _) L (inR_lit (3 : Int) rfl) (inR_lit (40 : Int) rfl)) (fun _ hx => absurd hx List.not_mem_nil) (fun _ => rfl) (fun Q' Q => x_callV (as := [mI (3 : Int), mI (40 : Int)]) (rest := []) (k' := k_M_isSignAt) (dA d_M_defineName 3 rfl) o_M_isSignAt lk_M_358 im_M_isSignAt se_M_isSignAt rfl (L.sh (x := (12, 66)) rfl) (by decide) (Nat.le_of_ble_eq_true rfl) (Nat.le_trans (Nat.le_of_ble_eq_true rfl) hd) (Nat.le_of_ble_eq_true rfl)) (fun x97 h95 e96 p98 => ?_)
  have L99 := L.ext e96
  refine z_br (fun Q => x_if_eq (dA d_M_defineName 4 rfl) rfl p98.inR) (fun c100 => ?_) (fun c100 => ?_)
  · exact S_M_defineName_45 hd  L99 
  · refine z_go (fun Q hq => x_aload_n (dA d_M_defineName 5 rfl) rfl rfl (x_getR (dA d_M_defineName 6 rfl) f_M_57 (L99.sh (x := (12, 66)) rfl) (by decide) (by decide) rfl (L99.rf 124 rfl) (x_iconst (dA d_M_defineName 7 rfl) hq))) ?_
    refine z_gd (fun g101 => ?_)
    refine z_go (fun Q hq => x_lald (dA d_M_defineName 8 rfl) (L99.sh (x := (103, 400)) rfl) g101.1 g101.2 (by decide) hq) ?_
    refine z_bnd (rest := []) (st1 := fun v => mI v :: []) (S_M_placeOf (d := 0) (Nat.le_refl _) L99 ) (fun _ hx => absurd hx List.not_mem_nil) (fun _ => rfl) (fun Q' Q => x_callS (as := [mL (mGl h95 123 (3 : Int).toNat)]) (rest := []) (k' := k_M_placeOf) (dA d_M_defineName 9 rfl) o_M_placeOf lk_M_327 st_M_placeOf (Nat.le_of_ble_eq_true rfl) (Nat.le_trans (Nat.le_of_ble_eq_true rfl) hd) (Nat.le_of_ble_eq_true rfl)) (fun x104 h102 e103 p105 => ?_)
    have L106 := L99.ext e103
    refine z_go (fun Q hq => x_aload_n (dA d_M_defineName 10 rfl) rfl rfl (x_getR (dA d_M_defineName 11 rfl) f_M_57 (L106.sh (x := (12, 66)) rfl) (by decide) (by decide) rfl (L106.rf 124 rfl) (x_iconst (dA d_M_defineName 12 rfl) hq))) ?_
    refine z_gd (fun g107 => ?_)
    refine z_go (fun Q hq => x_lald (dA d_M_defineName 13 rfl) (L106.sh (x := (103, 400)) rfl) g107.1 g107.2 (by decide) hq) ?_
    refine z_bnd (rest := [mI x104]) (st1 := fun v => mI v :: [mI x104]) (S_M_placeOf (d := 0) (Nat.le_refl _) L106 ) (fun _ hx => absurd hx List.not_mem_nil) (fun _ => rfl) (fun Q' Q => x_callS (as := [mL (mGl h102 123 (2 : Int).toNat)]) (rest := [mI x104]) (k' := k_M_placeOf) (dA d_M_defineName 14 rfl) o_M_placeOf lk_M_327 st_M_placeOf (Nat.le_of_ble_eq_true rfl) (Nat.le_trans (Nat.le_of_ble_eq_true rfl) hd) (Nat.le_of_ble_eq_true rfl)) (fun x110 h108 e109 p111 => ?_)
    have L112 := L106.ext e109
    refine z_go (fun Q hq => x_aload_n (dA d_M_defineName 15 rfl) rfl rfl (x_getR (dA d_M_defineName 16 rfl) f_M_57 (L112.sh (x := (12, 66)) rfl) (by decide) (by decide) rfl (L112.rf 124 rfl) (x_iconst (dA d_M_defineName 17 rfl) (x_lald (dA d_M_defineName 18 rfl) (L112.sh (x := (103, 400)) rfl) g107.1 g107.2 (by decide) hq)))) ?_
    refine z_bnd (rest := [mI x110, mI x104]) (st1 := fun v => mI v :: [mI x110, mI x104]) (S_M_sizeOf (d := 0) (Nat.le_refl _) L112 ) (fun _ hx => absurd hx List.not_mem_nil) (fun _ => rfl) (fun Q' Q => x_callS (as := [mL (mGl h108 123 (2 : Int).toNat)]) (rest := [mI x110, mI x104]) (k' := k_M_sizeOf) (dA d_M_defineName 19 rfl) o_M_sizeOf lk_M_324 st_M_sizeOf (Nat.le_of_ble_eq_true rfl) (Nat.le_trans (Nat.le_of_ble_eq_true rfl) hd) (Nat.le_of_ble_eq_true rfl)) (fun x115 h113 e114 p116 => ?_)
    have L117 := L112.ext e114
    refine z_gd (fun g118 => ?_)
    refine z_go (fun Q hq => x_iadd (dA d_M_defineName 20 rfl) hq) ?_
    refine z_brn (fun Q => x_icmp_ne (dA d_M_defineName 21 rfl) rfl p105 g118) (fun c119 => ?_) (fun c119 => ?_)
    · refine z_go (fun Q hq => x_iconst (dA d_M_defineName 22 rfl) (x_goto (dA d_M_defineName 23 rfl) rfl hq)) ?_
      exact S_M_defineName_46 hd  L117 (inR_lit (1 : Int) rfl)
    · exact S_M_defineName_45 hd  L117 
/-! TwoMillsModel.undefine()V -/
noncomputable def F_M_undefine_57 (v1 : Int) (s1 : Int) (s2 : Int) (h : MH) : RS Unit := gd (inR (s1 - s2)) (sto (mPi h 107 32 (s1 - s2)) fun h2 => if v1 < 0 then some (.inl (), h2) else gd (0 ≤ v1 ∧ v1 < 8) (sto (mPi h2 130 v1.toNat (0 : Int)) fun h7 => some (.inl (), h7)))
theorem S_M_undefine_57 {d : Nat} (hd : 3 ≤ d) {v1 : Int} {s1 : Int} {s2 : Int} {h : MH} (L : LayC h) (rv1 : inR v1) (rs1 : inR s1) (rs2 : inR s2) : OK d k_M_undefine 57 [mR 107, mI v1] [mI s2, mI s1, mR 107] h cV pT (F_M_undefine_57  v1 s1 s2 h) := by
  unfold F_M_undefine_57
  refine z_gd (fun g1 => ?_)
  refine z_go (fun Q hq => x_isub (dA d_M_undefine 32 rfl) hq) ?_
  refine z_sto (Ext.pi (L.sh (x := (12, 66)) rfl) (by decide) g1) (fun Q hq => x_putI (dA d_M_undefine 33 rfl) p_M_375 (L.sh (x := (12, 66)) rfl) (by decide) cl_M rfl hq) (fun h2 e3 => ?_)
  have L4 := L.ext e3
  refine z_go (fun Q hq => x_iload_n (dA d_M_undefine 34 rfl) rfl rfl hq) ?_
  refine z_br (fun Q => x_if_lt (dA d_M_undefine 35 rfl) rfl rv1) (fun c5 => ?_) (fun c5 => ?_)
  · exact z_retv (dA d_M_undefine 41 rfl) rfl
  · refine z_go (fun Q hq => x_aload_n (dA d_M_undefine 36 rfl) rfl rfl (x_getR (dA d_M_undefine 37 rfl) f_M_78 (L4.sh (x := (12, 66)) rfl) (by decide) (by decide) rfl (L4.rf 131 rfl) (x_iload_n (dA d_M_undefine 38 rfl) rfl rfl (x_iconst (dA d_M_undefine 39 rfl) hq)))) ?_
    refine z_gd (fun g6 => ?_)
    refine z_sto (Ext.pi (L4.sh (x := (102, 8)) rfl) (by decide) (inR_lit (0 : Int) rfl)) (fun Q hq => x_zast (dA d_M_undefine 40 rfl) (L4.sh (x := (102, 8)) rfl) g6.1 g6.2 (by decide) (.inl rfl) hq) (fun h7 e8 => ?_)
    have L9 := L4.ext e8
    exact z_retv (dA d_M_undefine 41 rfl) rfl
noncomputable def F_M_undefine_23 (s1 : Int) (h : MH) : RS Unit := gd (p01 s1) (bnd (F_M_need s1 (6 : Int) h) fun x13 h11 => if x13 = 0 then some (.inl (), h11) else gd (0 ≤ (2 : Int) ∧ (2 : Int) < 400) (bnd (F_M_nameOf (mGl h11 123 (2 : Int).toNat) h11) fun x20 h18 => if 0 ≤ x20 then F_M_undefine_57 x20 (mGi h18 107 32) (1 : Int) h18 else F_M_undefine_57 x20 (mGi h18 107 32) (0 : Int) h18))
theorem S_M_undefine_23 {d : Nat} (hd : 3 ≤ d) {s1 : Int} {h : MH} (L : LayC h) (rs1 : inR s1) : OK d k_M_undefine 23 [mR 107, mN] [mI s1, mR 107] h cV pT (F_M_undefine_23  s1 h) := by
  unfold F_M_undefine_23
  refine z_go (fun Q hq => x_bipush (dA d_M_undefine 13 rfl) (by decide) hq) ?_
  refine z_gd (fun g10 => ?_)
  refine z_bnd (rest := []) (st1 := fun v => mI v :: []) (S_M_need (d := 1) (Nat.le_refl _) L g10 (inR_lit (6 : Int) rfl)) (fun _ hx => absurd hx List.not_mem_nil) (fun _ => rfl) (fun Q' Q => x_callV (as := [mI s1, mI (6 : Int)]) (rest := []) (k' := k_M_need) (dA d_M_undefine 14 rfl) o_M_need lk_M_181 im_M_need se_M_need rfl (L.sh (x := (12, 66)) rfl) (by decide) (Nat.le_of_ble_eq_true rfl) (Nat.le_trans (Nat.le_of_ble_eq_true rfl) hd) (Nat.le_of_ble_eq_true rfl)) (fun x13 h11 e12 p14 => ?_)
  have L15 := L.ext e12
  refine z_brn (fun Q => x_if_ne (dA d_M_undefine 15 rfl) rfl p14.inR) (fun c16 => ?_) (fun c16 => ?_)
  · exact z_retv (dA d_M_undefine 16 rfl) rfl
  · refine z_go (fun Q hq => x_aload_n (dA d_M_undefine 17 rfl) rfl rfl (x_aload_n (dA d_M_undefine 18 rfl) rfl rfl (x_getR (dA d_M_undefine 19 rfl) f_M_57 (L15.sh (x := (12, 66)) rfl) (by decide) (by decide) rfl (L15.rf 124 rfl) (x_iconst (dA d_M_undefine 20 rfl) hq)))) ?_
    refine z_gd (fun g17 => ?_)
    refine z_go (fun Q hq => x_lald (dA d_M_undefine 21 rfl) (L15.sh (x := (103, 400)) rfl) g17.1 g17.2 (by decide) hq) ?_
    refine z_bnd (rest := []) (st1 := fun v => mI v :: []) (S_M_nameOf (d := 2) (Nat.le_refl _) L15 ) (fun _ hx => absurd hx List.not_mem_nil) (fun _ => rfl) (fun Q' Q => x_callV (as := [mL (mGl h11 123 (2 : Int).toNat)]) (rest := []) (k' := k_M_nameOf) (dA d_M_undefine 22 rfl) o_M_nameOf lk_M_372 im_M_nameOf se_M_nameOf rfl (L15.sh (x := (12, 66)) rfl) (by decide) (Nat.le_of_ble_eq_true rfl) (Nat.le_trans (Nat.le_of_ble_eq_true rfl) hd) (Nat.le_of_ble_eq_true rfl)) (fun x20 h18 e19 p21 => ?_)
    have L22 := L15.ext e19
    refine z_go (fun Q hq => x_istore_n (dA d_M_undefine 23 rfl) rfl (by decide) rfl (x_aload_n (dA d_M_undefine 24 rfl) rfl rfl (x_dup (dA d_M_undefine 25 rfl) rfl (x_getI (dA d_M_undefine 26 rfl) f_M_375 (L22.sh (x := (12, 66)) rfl) (by decide) (by decide) rfl (x_iload_n (dA d_M_undefine 27 rfl) rfl rfl hq))))) ?_
    refine z_br (fun Q => x_if_ge (dA d_M_undefine 28 rfl) rfl p21) (fun c23 => ?_) (fun c23 => ?_)
    · refine z_go (fun Q hq => x_iconst (dA d_M_undefine 31 rfl) hq) ?_
      exact S_M_undefine_57 hd  L22 p21 (L22.rg _ _) (inR_lit (1 : Int) rfl)
    · refine z_go (fun Q hq => x_iconst (dA d_M_undefine 29 rfl) (x_goto (dA d_M_undefine 30 rfl) rfl hq)) ?_
      exact S_M_undefine_57 hd  L22 p21 (L22.rg _ _) (inR_lit (0 : Int) rfl)
noncomputable def F_M_undefine_22 (h : MH) : RS Unit := F_M_undefine_23 (0 : Int) h
theorem S_M_undefine_22 {d : Nat} (hd : 3 ≤ d) {h : MH} (L : LayC h) : OK d k_M_undefine 22 [mR 107, mN] [mR 107] h cV pT (F_M_undefine_22   h) := by
  unfold F_M_undefine_22
  refine z_go (fun Q hq => x_iconst (dA d_M_undefine 12 rfl) hq) ?_
  exact S_M_undefine_23 hd  L (inR_lit (0 : Int) rfl)
noncomputable def F_M_undefine (h : MH) : RS Unit := if (mGi h 107 29) = (3 : Int) then bnd (F_M_kindAt (2 : Int) h) fun x27 h25 => if x27 = (1 : Int) then F_M_undefine_23 (1 : Int) h25 else F_M_undefine_22  h25 else F_M_undefine_22  h
theorem S_M_undefine {d : Nat} (hd : 3 ≤ d) {h : MH} (L : LayC h) : OK d k_M_undefine 0 [mR 107, mN] [] h cV pT (F_M_undefine   h) := by
  unfold F_M_undefine
  refine z_go (fun Q hq => x_aload_n (dA d_M_undefine 0 rfl) rfl rfl (x_aload_n (dA d_M_undefine 1 rfl) rfl rfl (x_getI (dA d_M_undefine 2 rfl) f_M_340 (L.sh (x := (12, 66)) rfl) (by decide) (by decide) rfl (x_iconst (dA d_M_undefine 3 rfl) hq)))) ?_
  refine z_brn (fun Q => x_icmp_ne (dA d_M_undefine 4 rfl) rfl (L.rg _ _) (inR_lit (3 : Int) rfl)) (fun c24 => ?_) (fun c24 => ?_)
  · refine z_go (fun Q hq => x_aload_n (dA d_M_undefine 5 rfl) rfl rfl (x_iconst (dA d_M_undefine 6 rfl) hq)) ?_
    refine z_bnd (rest := [mR 107]) (st1 := fun v => mI v :: [mR 107]) (S_M_kindAt (d := 1) (Nat.le_refl _) L (inR_lit (2 : Int) rfl)) (fun _ hx => absurd hx List.not_mem_nil) (fun _ => rfl) (fun Q' Q => x_callV (as := [mI (2 : Int)]) (rest := [mR 107]) (k' := k_M_kindAt) (dA d_M_undefine 7 rfl) o_M_kindAt lk_M_361 im_M_kindAt se_M_kindAt rfl (L.sh (x := (12, 66)) rfl) (by decide) (Nat.le_of_ble_eq_true rfl) (Nat.le_trans (Nat.le_of_ble_eq_true rfl) hd) (Nat.le_of_ble_eq_true rfl)) (fun x27 h25 e26 p28 => ?_)
    have L29 := L.ext e26
    refine z_go (fun Q hq => x_iconst (dA d_M_undefine 8 rfl) hq) ?_
    refine z_brn (fun Q => x_icmp_ne (dA d_M_undefine 9 rfl) rfl p28 (inR_lit (1 : Int) rfl)) (fun c30 => ?_) (fun c30 => ?_)
    · refine z_go (fun Q hq => x_iconst (dA d_M_undefine 10 rfl) (x_goto (dA d_M_undefine 11 rfl) rfl hq)) ?_
      exact S_M_undefine_23 hd  L29 (inR_lit (1 : Int) rfl)
    · exact S_M_undefine_22 hd  L29 
  · exact S_M_undefine_22 hd  L 
/-! TwoMillsModel.beginRow(III)V -/
noncomputable def F_M_beginRow_80 (G34 : Int → Int → Int → Int → MH → RS Unit) (v1 : Int) (v2 : Int) (v3 : Int) (v4 : Int) (s1 : Int) (s2 : Int64) (h : MH) : RS Unit := gd (0 ≤ s1 ∧ s1 < 800) (sto (mPl h 135 s1.toNat s2) fun h2 => gd (inR (v4 + (1 : Int))) (G34 v1 v2 v3 (v4 + (1 : Int)) h2))
theorem S_M_beginRow_80 {d : Nat} (hd : 2 ≤ d) {G34 : Int → Int → Int → Int → MH → RS Unit} (hG34 : ∀ (v1 : Int) (v2 : Int) (v3 : Int) (v4 : Int) (h : MH), LayC h → inR v1 → inR v2 → inR v3 → inR v4 → OK d k_M_beginRow 34 [mR 107, mI v1, mI v2, mI v3, mI v4] [] h cV pT (G34 v1 v2 v3 v4 h)) {v1 : Int} {v2 : Int} {v3 : Int} {v4 : Int} {s1 : Int} {s2 : Int64} {h : MH} (L : LayC h) (rv1 : inR v1) (rv2 : inR v2) (rv3 : inR v3) (rv4 : inR v4) (rs1 : inR s1) : OK d k_M_beginRow 80 [mR 107, mI v1, mI v2, mI v3, mI v4] [mL s2, mI s1, mR 135] h cV pT (F_M_beginRow_80 G34 v1 v2 v3 v4 s1 s2 h) := by
  unfold F_M_beginRow_80
  refine z_gd (fun g1 => ?_)
  refine z_sto Ext.pl (fun Q hq => x_last (dA d_M_beginRow 48 rfl) (L.sh (x := (103, 800)) rfl) g1.1 g1.2 (by decide) hq) (fun h2 e3 => ?_)
  have L4 := L.ext e3
  refine z_gd (fun g5 => ?_)
  refine z_go (fun Q hq => x_iinc (dA d_M_beginRow 49 rfl) rfl (by decide) rfl (x_goto (dA d_M_beginRow 50 rfl) rfl hq)) ?_
  exact hG34 v1 v2 v3 (v4 + (1 : Int)) h2 L4 rv1 rv2 rv3 g5
noncomputable def F_M_beginRow_34_b (G34 : Int → Int → Int → Int → MH → RS Unit) (v1 : Int) (v2 : Int) (v3 : Int) (v4 : Int) (h : MH) : RS Unit := if v3 ≤ v4 then gd (0 ≤ v1 ∧ v1 < 8) (sto (mPi h 140 v1.toNat v3) fun h8 => sto (mPi h8 141 v1.toNat (0 : Int)) fun h11 => sto (mPi h11 144 v1.toNat (-1 : Int)) fun h14 => some (.inl (), h14)) else gd (inR ((100 : Int) * v1)) (gd (inR (((100 : Int) * v1) + v3)) (gd (inR ((((100 : Int) * v1) + v3) - (1 : Int))) (gd (inR (((((100 : Int) * v1) + v3) - (1 : Int)) - v4)) (if v1 = 0 then gd (inR (v2 + v4)) (gd (0 ≤ (v2 + v4) ∧ (v2 + v4) < 400) (F_M_beginRow_80 G34 v1 v2 v3 v4 (((((100 : Int) * v1) + v3) - (1 : Int)) - v4) (mGl h 123 (v2 + v4).toNat) h)) else gd (inR (v2 + v4)) (gd (0 ≤ (v2 + v4) ∧ (v2 + v4) < 800) (F_M_beginRow_80 G34 v1 v2 v3 v4 (((((100 : Int) * v1) + v3) - (1 : Int)) - v4) (mGl h 137 (v2 + v4).toNat) h))))))
theorem S_M_beginRow_34_b {d : Nat} (hd : 2 ≤ d) {G34 : Int → Int → Int → Int → MH → RS Unit} (hG34 : ∀ (v1 : Int) (v2 : Int) (v3 : Int) (v4 : Int) (h : MH), LayC h → inR v1 → inR v2 → inR v3 → inR v4 → OK d k_M_beginRow 34 [mR 107, mI v1, mI v2, mI v3, mI v4] [] h cV pT (G34 v1 v2 v3 v4 h)) {v1 : Int} {v2 : Int} {v3 : Int} {v4 : Int} {h : MH} (L : LayC h) (rv1 : inR v1) (rv2 : inR v2) (rv3 : inR v3) (rv4 : inR v4) : OK d k_M_beginRow 34 [mR 107, mI v1, mI v2, mI v3, mI v4] [] h cV pT (F_M_beginRow_34_b G34 v1 v2 v3 v4 h) := by
  unfold F_M_beginRow_34_b
  refine z_go (fun Q hq => x_iload (dA d_M_beginRow 19 rfl) rfl (x_iload_n (dA d_M_beginRow 20 rfl) rfl rfl hq)) ?_
  refine z_br (fun Q => x_icmp_ge (dA d_M_beginRow 21 rfl) rfl rv4 rv3) (fun c6 => ?_) (fun c6 => ?_)
  · refine z_go (fun Q hq => x_aload_n (dA d_M_beginRow 51 rfl) rfl rfl (x_getR (dA d_M_beginRow 52 rfl) f_M_109 (L.sh (x := (12, 66)) rfl) (by decide) (by decide) rfl (L.rf 141 rfl) (x_iload_n (dA d_M_beginRow 53 rfl) rfl rfl (x_iload_n (dA d_M_beginRow 54 rfl) rfl rfl hq)))) ?_
    refine z_gd (fun g7 => ?_)
    refine z_sto (Ext.pi (L.sh (x := (100, 8)) rfl) (by decide) rv3) (fun Q hq => x_iast (dA d_M_beginRow 55 rfl) (L.sh (x := (100, 8)) rfl) g7.1 g7.2 (by decide) hq) (fun h8 e9 => ?_)
    have L10 := L.ext e9
    refine z_go (fun Q hq => x_aload_n (dA d_M_beginRow 56 rfl) rfl rfl (x_getR (dA d_M_beginRow 57 rfl) f_M_112 (L10.sh (x := (12, 66)) rfl) (by decide) (by decide) rfl (L10.rf 142 rfl) (x_iload_n (dA d_M_beginRow 58 rfl) rfl rfl (x_iconst (dA d_M_beginRow 59 rfl) hq)))) ?_
    refine z_sto (Ext.pi (L10.sh (x := (100, 8)) rfl) (by decide) (inR_lit (0 : Int) rfl)) (fun Q hq => x_iast (dA d_M_beginRow 60 rfl) (L10.sh (x := (100, 8)) rfl) g7.1 g7.2 (by decide) hq) (fun h11 e12 => ?_)
    have L13 := L10.ext e12
    refine z_go (fun Q hq => x_aload_n (dA d_M_beginRow 61 rfl) rfl rfl (x_getR (dA d_M_beginRow 62 rfl) f_M_121 (L13.sh (x := (12, 66)) rfl) (by decide) (by decide) rfl (L13.rf 145 rfl) (x_iload_n (dA d_M_beginRow 63 rfl) rfl rfl (x_iconst (dA d_M_beginRow 64 rfl) hq)))) ?_
    refine z_sto (Ext.pi (L13.sh (x := (100, 8)) rfl) (by decide) (inR_lit (-1 : Int) rfl)) (fun Q hq => x_iast (dA d_M_beginRow 65 rfl) (L13.sh (x := (100, 8)) rfl) g7.1 g7.2 (by decide) hq) (fun h14 e15 => ?_)
    have L16 := L13.ext e15
    exact z_retv (dA d_M_beginRow 66 rfl) rfl
  · refine z_go (fun Q hq => x_aload_n (dA d_M_beginRow 22 rfl) rfl rfl (x_getR (dA d_M_beginRow 23 rfl) f_M_94 (L.sh (x := (12, 66)) rfl) (by decide) (by decide) rfl (L.rf 136 rfl) (x_bipush (dA d_M_beginRow 24 rfl) (by decide) (x_iload_n (dA d_M_beginRow 25 rfl) rfl rfl hq)))) ?_
    refine z_gd (fun g17 => ?_)
    refine z_go (fun Q hq => x_imul (dA d_M_beginRow 26 rfl) (x_iload_n (dA d_M_beginRow 27 rfl) rfl rfl hq)) ?_
    refine z_gd (fun g18 => ?_)
    refine z_go (fun Q hq => x_iadd (dA d_M_beginRow 28 rfl) (x_iconst (dA d_M_beginRow 29 rfl) hq)) ?_
    refine z_gd (fun g19 => ?_)
    refine z_go (fun Q hq => x_isub (dA d_M_beginRow 30 rfl) (x_iload (dA d_M_beginRow 31 rfl) rfl hq)) ?_
    refine z_gd (fun g20 => ?_)
    refine z_go (fun Q hq => x_isub (dA d_M_beginRow 32 rfl) (x_iload_n (dA d_M_beginRow 33 rfl) rfl rfl hq)) ?_
    refine z_brn (fun Q => x_if_ne (dA d_M_beginRow 34 rfl) rfl rv1) (fun c21 => ?_) (fun c21 => ?_)
    · refine z_go (fun Q hq => x_aload_n (dA d_M_beginRow 35 rfl) rfl rfl (x_getR (dA d_M_beginRow 36 rfl) f_M_57 (L.sh (x := (12, 66)) rfl) (by decide) (by decide) rfl (L.rf 124 rfl) (x_iload_n (dA d_M_beginRow 37 rfl) rfl rfl (x_iload (dA d_M_beginRow 38 rfl) rfl hq)))) ?_
      refine z_gd (fun g22 => ?_)
      refine z_go (fun Q hq => x_iadd (dA d_M_beginRow 39 rfl) hq) ?_
      refine z_gd (fun g23 => ?_)
      refine z_go (fun Q hq => x_lald (dA d_M_beginRow 40 rfl) (L.sh (x := (103, 400)) rfl) g23.1 g23.2 (by decide) (x_goto (dA d_M_beginRow 41 rfl) rfl hq)) ?_
      exact S_M_beginRow_80 hd hG34 L rv1 rv2 rv3 rv4 g20
    · refine z_go (fun Q hq => x_aload_n (dA d_M_beginRow 42 rfl) rfl rfl (x_getR (dA d_M_beginRow 43 rfl) f_M_100 (L.sh (x := (12, 66)) rfl) (by decide) (by decide) rfl (L.rf 138 rfl) (x_iload_n (dA d_M_beginRow 44 rfl) rfl rfl (x_iload (dA d_M_beginRow 45 rfl) rfl hq)))) ?_
      refine z_gd (fun g24 => ?_)
      refine z_go (fun Q hq => x_iadd (dA d_M_beginRow 46 rfl) hq) ?_
      refine z_gd (fun g25 => ?_)
      refine z_go (fun Q hq => x_lald (dA d_M_beginRow 47 rfl) (L.sh (x := (103, 800)) rfl) g25.1 g25.2 (by decide) hq) ?_
      exact S_M_beginRow_80 hd hG34 L rv1 rv2 rv3 rv4 g20
noncomputable def F_M_beginRow_34 (v1 : Int) (v2 : Int) (v3 : Int) (v4 : Int) (h : MH) : RS Unit := itr (fun self (q : Int × Int × Int × Int × MH) => F_M_beginRow_34_b (fun v1 v2 v3 v4 h => self (v1, v2, v3, v4, h)) q.1 q.2.1 q.2.2.1 q.2.2.2.1 q.2.2.2.2) FU (v1, v2, v3, v4, h)
theorem S_M_beginRow_34 {d : Nat} (hd : 2 ≤ d) {v1 : Int} {v2 : Int} {v3 : Int} {v4 : Int} {h : MH} (L : LayC h) (rv1 : inR v1) (rv2 : inR v2) (rv3 : inR v3) (rv4 : inR v4) : OK d k_M_beginRow 34 [mR 107, mI v1, mI v2, mI v3, mI v4] [] h cV pT (F_M_beginRow_34  v1 v2 v3 v4 h) := by
  unfold F_M_beginRow_34
  refine z_itr (P := fun q : Int × Int × Int × Int × MH => LayC q.2.2.2.2 ∧ inR q.1 ∧ inR q.2.1 ∧ inR q.2.2.1 ∧ inR q.2.2.2.1 ∧ True) (ls := fun q : Int × Int × Int × Int × MH => [mR 107, mI q.1, mI q.2.1, mI q.2.2.1, mI q.2.2.2.1]) (hp := fun q : Int × Int × Int × Int × MH => q.2.2.2.2) (fun self hs q hq => ?_) FU (v1, v2, v3, v4, h) ⟨L, rv1, rv2, rv3, rv4, trivial⟩
  exact S_M_beginRow_34_b hd (fun v1 v2 v3 v4 h L rv1 rv2 rv3 rv4 => hs (v1, v2, v3, v4, h) ⟨L, rv1, rv2, rv3, rv4, trivial⟩) hq.1 hq.2.1 hq.2.2.1 hq.2.2.2.1 hq.2.2.2.2.1
noncomputable def F_M_beginRow_18 (v1 : Int) (v2 : Int) (v3 : Int) (s1 : Int) (h : MH) : RS Unit := gd (p01 s1) (bnd (F_M_need s1 (1 : Int) h) fun x29 h27 => if x29 = 0 then some (.inl (), h27) else sto (mPi h27 107 48 v1) fun h33 => F_M_beginRow_34 v1 v2 v3 (0 : Int) h33)
theorem S_M_beginRow_18 {d : Nat} (hd : 2 ≤ d) {v1 : Int} {v2 : Int} {v3 : Int} {s1 : Int} {h : MH} (L : LayC h) (rv1 : inR v1) (rv2 : inR v2) (rv3 : inR v3) (rs1 : inR s1) : OK d k_M_beginRow 18 [mR 107, mI v1, mI v2, mI v3, mN] [mI s1, mR 107] h cV pT (F_M_beginRow_18  v1 v2 v3 s1 h) := by
  unfold F_M_beginRow_18
  refine z_go (fun Q hq => x_iconst (dA d_M_beginRow 10 rfl) hq) ?_
  refine z_gd (fun g26 => ?_)
  refine z_bnd (rest := []) (st1 := fun v => mI v :: []) (S_M_need (d := 1) (Nat.le_refl _) L g26 (inR_lit (1 : Int) rfl)) (fun _ hx => absurd hx List.not_mem_nil) (fun _ => rfl) (fun Q' Q => x_callV (as := [mI s1, mI (1 : Int)]) (rest := []) (k' := k_M_need) (dA d_M_beginRow 11 rfl) o_M_need lk_M_181 im_M_need se_M_need rfl (L.sh (x := (12, 66)) rfl) (by decide) (Nat.le_of_ble_eq_true rfl) (Nat.le_trans (Nat.le_of_ble_eq_true rfl) hd) (Nat.le_of_ble_eq_true rfl)) (fun x29 h27 e28 p30 => ?_)
  have L31 := L.ext e28
  refine z_brn (fun Q => x_if_ne (dA d_M_beginRow 12 rfl) rfl p30.inR) (fun c32 => ?_) (fun c32 => ?_)
  · exact z_retv (dA d_M_beginRow 13 rfl) rfl
  · refine z_go (fun Q hq => x_aload_n (dA d_M_beginRow 14 rfl) rfl rfl (x_iload_n (dA d_M_beginRow 15 rfl) rfl rfl hq)) ?_
    refine z_sto (Ext.pi (L31.sh (x := (12, 66)) rfl) (by decide) rv1) (fun Q hq => x_putI (dA d_M_beginRow 16 rfl) p_M_378 (L31.sh (x := (12, 66)) rfl) (by decide) cl_M rfl hq) (fun h33 e34 => ?_)
    have L35 := L31.ext e34
    refine z_go (fun Q hq => x_iconst (dA d_M_beginRow 17 rfl) (x_istore (dA d_M_beginRow 18 rfl) (by decide) rfl hq)) ?_
    exact S_M_beginRow_34 hd  L35 rv1 rv2 rv3 (inR_lit (0 : Int) rfl)
noncomputable def F_M_beginRow_17 (v1 : Int) (v2 : Int) (v3 : Int) (h : MH) : RS Unit := F_M_beginRow_18 v1 v2 v3 (0 : Int) h
theorem S_M_beginRow_17 {d : Nat} (hd : 2 ≤ d) {v1 : Int} {v2 : Int} {v3 : Int} {h : MH} (L : LayC h) (rv1 : inR v1) (rv2 : inR v2) (rv3 : inR v3) : OK d k_M_beginRow 17 [mR 107, mI v1, mI v2, mI v3, mN] [mR 107] h cV pT (F_M_beginRow_17  v1 v2 v3 h) := by
  unfold F_M_beginRow_17
  refine z_go (fun Q hq => x_iconst (dA d_M_beginRow 9 rfl) hq) ?_
  exact S_M_beginRow_18 hd  L rv1 rv2 rv3 (inR_lit (0 : Int) rfl)
noncomputable def F_M_beginRow (a1 : Int) (a2 : Int) (a3 : Int) (h : MH) : RS Unit := if (8 : Int) ≤ a1 then F_M_beginRow_17 a1 a2 a3 h else if (100 : Int) < a3 then F_M_beginRow_17 a1 a2 a3 h else F_M_beginRow_18 a1 a2 a3 (1 : Int) h
theorem S_M_beginRow {d : Nat} (hd : 2 ≤ d) {a1 : Int} {a2 : Int} {a3 : Int} {h : MH} (L : LayC h) (ra1 : inR a1) (ra2 : inR a2) (ra3 : inR a3) : OK d k_M_beginRow 0 [mR 107, mI a1, mI a2, mI a3, mN] [] h cV pT (F_M_beginRow  a1 a2 a3 h) := by
  unfold F_M_beginRow
  refine z_go (fun Q hq => x_aload_n (dA d_M_beginRow 0 rfl) rfl rfl (x_iload_n (dA d_M_beginRow 1 rfl) rfl rfl (x_bipush (dA d_M_beginRow 2 rfl) (by decide) hq))) ?_
  refine z_br (fun Q => x_icmp_ge (dA d_M_beginRow 3 rfl) rfl ra1 (inR_lit (8 : Int) rfl)) (fun c36 => ?_) (fun c36 => ?_)
  · exact S_M_beginRow_17 hd  L ra1 ra2 ra3
  · refine z_go (fun Q hq => x_iload_n (dA d_M_beginRow 4 rfl) rfl rfl (x_bipush (dA d_M_beginRow 5 rfl) (by decide) hq)) ?_
    refine z_br (fun Q => x_icmp_gt (dA d_M_beginRow 6 rfl) rfl ra3 (inR_lit (100 : Int) rfl)) (fun c37 => ?_) (fun c37 => ?_)
    · exact S_M_beginRow_17 hd  L ra1 ra2 ra3
    · refine z_go (fun Q hq => x_iconst (dA d_M_beginRow 7 rfl) (x_goto (dA d_M_beginRow 8 rfl) rfl hq)) ?_
      exact S_M_beginRow_18 hd  L ra1 ra2 ra3 (inR_lit (1 : Int) rfl)
/-! TwoMillsModel.addSign(I)V -/
noncomputable def F_M_addSign (a1 : Int) (h : MH) : RS Unit := gd (0 ≤ a1 ∧ a1 < 65536) (gd (0 ≤ (mGi h 107 24) ∧ (mGi h 107 24) < 1302) (sto (mPi h 121 (mGi h 107 24).toNat a1) fun h3 => gd (inR ((mGi h3 107 24) + (1 : Int))) (sto (mPi h3 107 24 ((mGi h3 107 24) + (1 : Int))) fun h7 => some (.inl (), h7))))
theorem S_M_addSign {d : Nat} (hd : 0 ≤ d) {a1 : Int} {h : MH} (L : LayC h) (ra1 : inR a1) : OK d k_M_addSign 0 [mR 107, mI a1] [] h cV pT (F_M_addSign  a1 h) := by
  unfold F_M_addSign
  refine z_go (fun Q hq => x_aload_n (dA d_M_addSign 0 rfl) rfl rfl (x_getR (dA d_M_addSign 1 rfl) f_M_51 (L.sh (x := (12, 66)) rfl) (by decide) (by decide) rfl (L.rf 122 rfl) (x_aload_n (dA d_M_addSign 2 rfl) rfl rfl (x_getI (dA d_M_addSign 3 rfl) f_M_428 (L.sh (x := (12, 66)) rfl) (by decide) (by decide) rfl (x_iload_n (dA d_M_addSign 4 rfl) rfl rfl hq))))) ?_
  refine z_gd (fun g1 => ?_)
  refine z_go (fun Q hq => x_i2c (dA d_M_addSign 5 rfl) g1.1 g1.2 hq) ?_
  refine z_gd (fun g2 => ?_)
  refine z_sto (Ext.pc g1.1 g1.2) (fun Q hq => x_cast (dA d_M_addSign 6 rfl) (L.sh (x := (101, 1302)) rfl) g2.1 g2.2 (by decide) g1.1 g1.2 hq) (fun h3 e4 => ?_)
  have L5 := L.ext e4
  refine z_go (fun Q hq => x_aload_n (dA d_M_addSign 7 rfl) rfl rfl (x_dup (dA d_M_addSign 8 rfl) rfl (x_getI (dA d_M_addSign 9 rfl) f_M_428 (L5.sh (x := (12, 66)) rfl) (by decide) (by decide) rfl (x_iconst (dA d_M_addSign 10 rfl) hq)))) ?_
  refine z_gd (fun g6 => ?_)
  refine z_go (fun Q hq => x_iadd (dA d_M_addSign 11 rfl) hq) ?_
  refine z_sto (Ext.pi (L5.sh (x := (12, 66)) rfl) (by decide) g6) (fun Q hq => x_putI (dA d_M_addSign 12 rfl) p_M_428 (L5.sh (x := (12, 66)) rfl) (by decide) cl_M rfl hq) (fun h7 e8 => ?_)
  have L9 := L5.ext e8
  exact z_retv (dA d_M_addSign 13 rfl) rfl
/-! TwoMillsModel.copyText(J)V -/
noncomputable def F_M_copyText_2_b (G2 : Int64 → Int → MH → RS Unit) (v1 : Int64) (v3 : Int) (h : MH) : RS Unit := bnd (F_M_sizeOf v1 h) fun x3 h1 => if x3 ≤ v3 then some (.inl (), h1) else bnd (F_M_placeOf v1 h1) fun x9 h7 => gd (inR (x9 + v3)) (gd (0 ≤ (x9 + v3) ∧ (x9 + v3) < 1302) (bnd (F_M_addSign (mGi h7 121 (x9 + v3).toNat) h7) fun x16 h14 => gd (inR (v3 + (1 : Int))) (G2 v1 (v3 + (1 : Int)) h14)))
theorem S_M_copyText_2_b {d : Nat} (hd : 1 ≤ d) {G2 : Int64 → Int → MH → RS Unit} (hG2 : ∀ (v1 : Int64) (v3 : Int) (h : MH), LayC h → inR v3 → OK d k_M_copyText 2 [mR 107, mL v1, mN, mI v3] [] h cV pT (G2 v1 v3 h)) {v1 : Int64} {v3 : Int} {h : MH} (L : LayC h) (rv3 : inR v3) : OK d k_M_copyText 2 [mR 107, mL v1, mN, mI v3] [] h cV pT (F_M_copyText_2_b G2 v1 v3 h) := by
  unfold F_M_copyText_2_b
  refine z_go (fun Q hq => x_iload_n (dA d_M_copyText 2 rfl) rfl rfl (x_lload_n (dA d_M_copyText 3 rfl) rfl rfl hq)) ?_
  refine z_bnd (rest := [mI v3]) (st1 := fun v => mI v :: [mI v3]) (S_M_sizeOf (d := 0) (Nat.le_refl _) L ) (fun _ hx => absurd hx List.not_mem_nil) (fun _ => rfl) (fun Q' Q => x_callS (as := [mL v1]) (rest := [mI v3]) (k' := k_M_sizeOf) (dA d_M_copyText 4 rfl) o_M_sizeOf lk_M_324 st_M_sizeOf (Nat.le_of_ble_eq_true rfl) (Nat.le_trans (Nat.le_of_ble_eq_true rfl) hd) (Nat.le_of_ble_eq_true rfl)) (fun x3 h1 e2 p4 => ?_)
  have L5 := L.ext e2
  refine z_br (fun Q => x_icmp_ge (dA d_M_copyText 5 rfl) rfl rv3 p4) (fun c6 => ?_) (fun c6 => ?_)
  · exact z_retv (dA d_M_copyText 17 rfl) rfl
  · refine z_go (fun Q hq => x_aload_n (dA d_M_copyText 6 rfl) rfl rfl (x_aload_n (dA d_M_copyText 7 rfl) rfl rfl (x_getR (dA d_M_copyText 8 rfl) f_M_51 (L5.sh (x := (12, 66)) rfl) (by decide) (by decide) rfl (L5.rf 122 rfl) (x_lload_n (dA d_M_copyText 9 rfl) rfl rfl hq)))) ?_
    refine z_bnd (rest := [mR 121, mR 107]) (st1 := fun v => mI v :: [mR 121, mR 107]) (S_M_placeOf (d := 0) (Nat.le_refl _) L5 ) (fun _ hx => absurd hx List.not_mem_nil) (fun _ => rfl) (fun Q' Q => x_callS (as := [mL v1]) (rest := [mR 121, mR 107]) (k' := k_M_placeOf) (dA d_M_copyText 10 rfl) o_M_placeOf lk_M_327 st_M_placeOf (Nat.le_of_ble_eq_true rfl) (Nat.le_trans (Nat.le_of_ble_eq_true rfl) hd) (Nat.le_of_ble_eq_true rfl)) (fun x9 h7 e8 p10 => ?_)
    have L11 := L5.ext e8
    refine z_go (fun Q hq => x_iload_n (dA d_M_copyText 11 rfl) rfl rfl hq) ?_
    refine z_gd (fun g12 => ?_)
    refine z_go (fun Q hq => x_iadd (dA d_M_copyText 12 rfl) hq) ?_
    refine z_gd (fun g13 => ?_)
    refine z_go (fun Q hq => x_cald (dA d_M_copyText 13 rfl) (L11.sh (x := (101, 1302)) rfl) g13.1 g13.2 (by decide) hq) ?_
    refine z_bnd (rest := []) (st1 := fun _ => []) (S_M_addSign (d := 0) (Nat.le_refl _) L11 (L11.rg _ _)) (fun _ hx => absurd hx List.not_mem_nil) (fun _ => rfl) (fun Q' Q => x_callV (as := [mI (mGi h7 121 (x9 + v3).toNat)]) (rest := []) (k' := k_M_addSign) (dA d_M_copyText 14 rfl) o_M_addSign lk_M_425 im_M_addSign se_M_addSign rfl (L11.sh (x := (12, 66)) rfl) (by decide) (Nat.le_of_ble_eq_true rfl) (Nat.le_trans (Nat.le_of_ble_eq_true rfl) hd) (Nat.le_of_ble_eq_true rfl)) (fun x16 h14 e15 p17 => ?_)
    have L18 := L11.ext e15
    refine z_gd (fun g19 => ?_)
    refine z_go (fun Q hq => x_iinc (dA d_M_copyText 15 rfl) rfl (by decide) rfl (x_goto (dA d_M_copyText 16 rfl) rfl hq)) ?_
    exact hG2 v1 (v3 + (1 : Int)) h14 L18 g19
noncomputable def F_M_copyText_2 (v1 : Int64) (v3 : Int) (h : MH) : RS Unit := itr (fun self (q : Int64 × Int × MH) => F_M_copyText_2_b (fun v1 v3 h => self (v1, v3, h)) q.1 q.2.1 q.2.2) FU (v1, v3, h)
theorem S_M_copyText_2 {d : Nat} (hd : 1 ≤ d) {v1 : Int64} {v3 : Int} {h : MH} (L : LayC h) (rv3 : inR v3) : OK d k_M_copyText 2 [mR 107, mL v1, mN, mI v3] [] h cV pT (F_M_copyText_2  v1 v3 h) := by
  unfold F_M_copyText_2
  refine z_itr (P := fun q : Int64 × Int × MH => LayC q.2.2 ∧ inR q.2.1 ∧ True) (ls := fun q : Int64 × Int × MH => [mR 107, mL q.1, mN, mI q.2.1]) (hp := fun q : Int64 × Int × MH => q.2.2) (fun self hs q hq => ?_) FU (v1, v3, h) ⟨L, rv3, trivial⟩
  exact S_M_copyText_2_b hd (fun v1 v3 h L rv3 => hs (v1, v3, h) ⟨L, rv3, trivial⟩) hq.1 hq.2.1
noncomputable def F_M_copyText (a1 : Int64) (h : MH) : RS Unit := F_M_copyText_2 a1 (0 : Int) h
theorem S_M_copyText {d : Nat} (hd : 1 ≤ d) {a1 : Int64} {h : MH} (L : LayC h) : OK d k_M_copyText 0 [mR 107, mL a1, mN, mN] [] h cV pT (F_M_copyText  a1 h) := by
  unfold F_M_copyText
  refine z_go (fun Q hq => x_iconst (dA d_M_copyText 0 rfl) (x_istore_n (dA d_M_copyText 1 rfl) rfl (by decide) rfl hq)) ?_
  exact S_M_copyText_2 hd  L (inR_lit (0 : Int) rfl)
/-! TwoMillsModel.makes(I)Z -/
noncomputable def F_M_makes_26 (s1 : Int) (h : MH) : RS Int := gd (p01 s1) (bnd (F_M_need s1 (1 : Int) h) fun x4 h2 => some (.inl x4, h2))
theorem S_M_makes_26 {d : Nat} (hd : 2 ≤ d) {s1 : Int} {h : MH} (L : LayC h) (rs1 : inR s1) : OK d k_M_makes 26 [mN, mN] [mI s1, mR 107] h cI p01 (F_M_makes_26  s1 h) := by
  unfold F_M_makes_26
  refine z_go (fun Q hq => x_iconst (dA d_M_makes 14 rfl) hq) ?_
  refine z_gd (fun g1 => ?_)
  refine z_bnd (rest := []) (st1 := fun v => mI v :: []) (S_M_need (d := 1) (Nat.le_refl _) L g1 (inR_lit (1 : Int) rfl)) (fun _ hx => absurd hx List.not_mem_nil) (fun _ => rfl) (fun Q' Q => x_callV (as := [mI s1, mI (1 : Int)]) (rest := []) (k' := k_M_need) (dA d_M_makes 15 rfl) o_M_need lk_M_181 im_M_need se_M_need rfl (L.sh (x := (12, 66)) rfl) (by decide) (Nat.le_of_ble_eq_true rfl) (Nat.le_trans (Nat.le_of_ble_eq_true rfl) hd) (Nat.le_of_ble_eq_true rfl)) (fun x4 h2 e3 p5 => ?_)
  have L6 := L.ext e3
  exact z_retz (dA d_M_makes 16 rfl) rfl p5
noncomputable def F_M_makes (a1 : Int) (h : MH) : RS Int := gd (inR ((mGi h 107 25) + a1)) (sto (mPi h 107 25 ((mGi h 107 25) + a1)) fun h8 => if (900 : Int) < (mGi h8 107 25) then F_M_makes_26 (0 : Int) h8 else F_M_makes_26 (1 : Int) h8)
theorem S_M_makes {d : Nat} (hd : 2 ≤ d) {a1 : Int} {h : MH} (L : LayC h) (ra1 : inR a1) : OK d k_M_makes 0 [mR 107, mI a1] [] h cI p01 (F_M_makes  a1 h) := by
  unfold F_M_makes
  refine z_go (fun Q hq => x_aload_n (dA d_M_makes 0 rfl) rfl rfl (x_dup (dA d_M_makes 1 rfl) rfl (x_getI (dA d_M_makes 2 rfl) f_M_422 (L.sh (x := (12, 66)) rfl) (by decide) (by decide) rfl (x_iload_n (dA d_M_makes 3 rfl) rfl rfl hq)))) ?_
  refine z_gd (fun g7 => ?_)
  refine z_go (fun Q hq => x_iadd (dA d_M_makes 4 rfl) hq) ?_
  refine z_sto (Ext.pi (L.sh (x := (12, 66)) rfl) (by decide) g7) (fun Q hq => x_putI (dA d_M_makes 5 rfl) p_M_422 (L.sh (x := (12, 66)) rfl) (by decide) cl_M rfl hq) (fun h8 e9 => ?_)
  have L10 := L.ext e9
  refine z_go (fun Q hq => x_aload_n (dA d_M_makes 6 rfl) rfl rfl (x_aload_n (dA d_M_makes 7 rfl) rfl rfl (x_getI (dA d_M_makes 8 rfl) f_M_422 (L10.sh (x := (12, 66)) rfl) (by decide) (by decide) rfl (x_sipush (dA d_M_makes 9 rfl) (by decide) hq)))) ?_
  refine z_br (fun Q => x_icmp_gt (dA d_M_makes 10 rfl) rfl (L10.rg _ _) (inR_lit (900 : Int) rfl)) (fun c11 => ?_) (fun c11 => ?_)
  · refine z_go (fun Q hq => x_iconst (dA d_M_makes 13 rfl) hq) ?_
    refine z_fgt (ls' := [mN, mN]) ⟨.inl rfl, .inl rfl, trivial⟩ ?_
    exact S_M_makes_26 hd  L10 (inR_lit (0 : Int) rfl)
  · refine z_go (fun Q hq => x_iconst (dA d_M_makes 11 rfl) (x_goto (dA d_M_makes 12 rfl) rfl hq)) ?_
    refine z_fgt (ls' := [mN, mN]) ⟨.inl rfl, .inl rfl, trivial⟩ ?_
    exact S_M_makes_26 hd  L10 (inR_lit (1 : Int) rfl)
/-! TwoMillsModel.joined(JJ)J -/
noncomputable def F_M_joined_82 (v1 : Int64) (v3 : Int64) (v5 : Int) (v6 : Int) (h : MH) : RS Int64 := bnd (F_M_hidesOf v1 h) fun x3 h1 => bnd (F_M_hidesOf v3 h1) fun x8 h6 => bnd (F_M_token v6 v5 (mGi h 107 30) (iAnd x3 x8) h6) fun x13 h11 => some (.inl x13, h11)
theorem S_M_joined_82 {d : Nat} (hd : 3 ≤ d) {v1 : Int64} {v3 : Int64} {v5 : Int} {v6 : Int} {h : MH} (L : LayC h) (rv5 : inR v5) (rv6 : inR v6) : OK d k_M_joined 82 [mR 107, mL v1, mN, mL v3, mN, mI v5, mI v6] [] h cJ pT (F_M_joined_82  v1 v3 v5 v6 h) := by
  unfold F_M_joined_82
  refine z_go (fun Q hq => x_iload (dA d_M_joined 43 rfl) rfl (x_iload (dA d_M_joined 44 rfl) rfl (x_aload_n (dA d_M_joined 45 rfl) rfl rfl (x_getI (dA d_M_joined 46 rfl) f_M_330 (L.sh (x := (12, 66)) rfl) (by decide) (by decide) rfl (x_lload_n (dA d_M_joined 47 rfl) rfl rfl hq))))) ?_
  refine z_bnd (rest := [mI (mGi h 107 30), mI v5, mI v6]) (st1 := fun v => mI v :: [mI (mGi h 107 30), mI v5, mI v6]) (S_M_hidesOf (d := 0) (Nat.le_refl _) L ) (fun _ hx => absurd hx List.not_mem_nil) (fun _ => rfl) (fun Q' Q => x_callS (as := [mL v1]) (rest := [mI (mGi h 107 30), mI v5, mI v6]) (k' := k_M_hidesOf) (dA d_M_joined 48 rfl) o_M_hidesOf lk_M_398 st_M_hidesOf (Nat.le_of_ble_eq_true rfl) (Nat.le_trans (Nat.le_of_ble_eq_true rfl) hd) (Nat.le_of_ble_eq_true rfl)) (fun x3 h1 e2 p4 => ?_)
  have L5 := L.ext e2
  refine z_go (fun Q hq => x_lload_n (dA d_M_joined 49 rfl) rfl rfl hq) ?_
  refine z_bnd (rest := [mI x3, mI (mGi h 107 30), mI v5, mI v6]) (st1 := fun v => mI v :: [mI x3, mI (mGi h 107 30), mI v5, mI v6]) (S_M_hidesOf (d := 0) (Nat.le_refl _) L5 ) (fun _ hx => absurd hx List.not_mem_nil) (fun _ => rfl) (fun Q' Q => x_callS (as := [mL v3]) (rest := [mI x3, mI (mGi h 107 30), mI v5, mI v6]) (k' := k_M_hidesOf) (dA d_M_joined 50 rfl) o_M_hidesOf lk_M_398 st_M_hidesOf (Nat.le_of_ble_eq_true rfl) (Nat.le_trans (Nat.le_of_ble_eq_true rfl) hd) (Nat.le_of_ble_eq_true rfl)) (fun x8 h6 e7 p9 => ?_)
  have L10 := L5.ext e7
  refine z_go (fun Q hq => x_andI (dA d_M_joined 51 rfl) hq) ?_
  refine z_bnd (rest := []) (st1 := fun v => mL v :: []) (S_M_token (d := 0) (Nat.le_refl _) L10 rv6 rv5 (L.rg _ _) (inR_and _ _)) (fun _ hx => absurd hx List.not_mem_nil) (fun _ => rfl) (fun Q' Q => x_callS (as := [mI v6, mI v5, mI (mGi h 107 30), mI (iAnd x3 x8)]) (rest := []) (k' := k_M_token) (dA d_M_joined 52 rfl) o_M_token lk_M_346 st_M_token (Nat.le_of_ble_eq_true rfl) (Nat.le_trans (Nat.le_of_ble_eq_true rfl) hd) (Nat.le_of_ble_eq_true rfl)) (fun x13 h11 e12 p14 => ?_)
  have L15 := L10.ext e12
  exact z_retj (dA d_M_joined 53 rfl) rfl
noncomputable def F_M_joined_76 (v1 : Int64) (v3 : Int64) (v5 : Int) (v6 : Int) (h : MH) : RS Int64 := bnd (F_M_fail (7 : Int) h) fun x18 h16 => F_M_joined_82 v1 v3 v5 v6 h16
theorem S_M_joined_76 {d : Nat} (hd : 3 ≤ d) {v1 : Int64} {v3 : Int64} {v5 : Int} {v6 : Int} {h : MH} (L : LayC h) (rv5 : inR v5) (rv6 : inR v6) : OK d k_M_joined 76 [mR 107, mL v1, mN, mL v3, mN, mI v5, mI v6] [] h cJ pT (F_M_joined_76  v1 v3 v5 v6 h) := by
  unfold F_M_joined_76
  refine z_go (fun Q hq => x_aload_n (dA d_M_joined 40 rfl) rfl rfl (x_bipush (dA d_M_joined 41 rfl) (by decide) hq)) ?_
  refine z_bnd (rest := []) (st1 := fun _ => []) (S_M_fail (d := 0) (Nat.le_refl _) L (inR_lit (7 : Int) rfl)) (fun _ hx => absurd hx List.not_mem_nil) (fun _ => rfl) (fun Q' Q => x_callV (as := [mI (7 : Int)]) (rest := []) (k' := k_M_fail) (dA d_M_joined 42 rfl) o_M_fail lk_M_146 im_M_fail se_M_fail rfl (L.sh (x := (12, 66)) rfl) (by decide) (Nat.le_of_ble_eq_true rfl) (Nat.le_trans (Nat.le_of_ble_eq_true rfl) hd) (Nat.le_of_ble_eq_true rfl)) (fun x18 h16 e17 p19 => ?_)
  have L20 := L.ext e17
  exact S_M_joined_82 hd  L20 rv5 rv6
noncomputable def F_M_joined_25 (h : MH) : RS Int64 := bnd (F_M_token (0 : Int) (0 : Int) (5 : Int) (0 : Int) h) fun x23 h21 => some (.inl x23, h21)
theorem S_M_joined_25 {d : Nat} (hd : 3 ≤ d) {h : MH} (L : LayC h) : OK d k_M_joined 25 [mN, mN, mN, mN, mN, mN, mN] [] h cJ pT (F_M_joined_25   h) := by
  unfold F_M_joined_25
  refine z_go (fun Q hq => x_iconst (dA d_M_joined 12 rfl) (x_iconst (dA d_M_joined 13 rfl) (x_iconst (dA d_M_joined 14 rfl) (x_iconst (dA d_M_joined 15 rfl) hq)))) ?_
  refine z_bnd (rest := []) (st1 := fun v => mL v :: []) (S_M_token (d := 0) (Nat.le_refl _) L (inR_lit (0 : Int) rfl) (inR_lit (0 : Int) rfl) (inR_lit (5 : Int) rfl) (inR_lit (0 : Int) rfl)) (fun _ hx => absurd hx List.not_mem_nil) (fun _ => rfl) (fun Q' Q => x_callS (as := [mI (0 : Int), mI (0 : Int), mI (5 : Int), mI (0 : Int)]) (rest := []) (k' := k_M_token) (dA d_M_joined 16 rfl) o_M_token lk_M_346 st_M_token (Nat.le_of_ble_eq_true rfl) (Nat.le_trans (Nat.le_of_ble_eq_true rfl) hd) (Nat.le_of_ble_eq_true rfl)) (fun x23 h21 e22 p24 => ?_)
  have L25 := L.ext e22
  exact z_retj (dA d_M_joined 17 rfl) rfl
noncomputable def F_M_joined (a1 : Int64) (a2 : Int64) (h : MH) : RS Int64 := bnd (F_M_sizeOf a1 h) fun x28 h26 => bnd (F_M_sizeOf a2 h26) fun x33 h31 => gd (inR (x28 + x33)) (bnd (F_M_makes (x28 + x33) h31) fun x39 h37 => if x39 = 0 then F_M_joined_25  h37 else if (x28 + x33) = 0 then F_M_joined_25  h37 else bnd (F_M_copyText a1 h37) fun x46 h44 => bnd (F_M_copyText a2 h44) fun x51 h49 => bnd (F_M_look (mGi h37 107 24) (mGi h49 107 24) h49) fun x56 h54 => if (mGi h54 107 31) = (x28 + x33) then if (mGi h54 107 30) = (3 : Int) then F_M_joined_76 a1 a2 (x28 + x33) (mGi h37 107 24) h54 else F_M_joined_82 a1 a2 (x28 + x33) (mGi h37 107 24) h54 else F_M_joined_76 a1 a2 (x28 + x33) (mGi h37 107 24) h54)
theorem S_M_joined {d : Nat} (hd : 3 ≤ d) {a1 : Int64} {a2 : Int64} {h : MH} (L : LayC h) : OK d k_M_joined 0 [mR 107, mL a1, mN, mL a2, mN, mN, mN] [] h cJ pT (F_M_joined  a1 a2 h) := by
  unfold F_M_joined
  refine z_go (fun Q hq => x_lload_n (dA d_M_joined 0 rfl) rfl rfl hq) ?_
  refine z_bnd (rest := []) (st1 := fun v => mI v :: []) (S_M_sizeOf (d := 0) (Nat.le_refl _) L ) (fun _ hx => absurd hx List.not_mem_nil) (fun _ => rfl) (fun Q' Q => x_callS (as := [mL a1]) (rest := []) (k' := k_M_sizeOf) (dA d_M_joined 1 rfl) o_M_sizeOf lk_M_324 st_M_sizeOf (Nat.le_of_ble_eq_true rfl) (Nat.le_trans (Nat.le_of_ble_eq_true rfl) hd) (Nat.le_of_ble_eq_true rfl)) (fun x28 h26 e27 p29 => ?_)
  have L30 := L.ext e27
  refine z_go (fun Q hq => x_lload_n (dA d_M_joined 2 rfl) rfl rfl hq) ?_
  refine z_bnd (rest := [mI x28]) (st1 := fun v => mI v :: [mI x28]) (S_M_sizeOf (d := 0) (Nat.le_refl _) L30 ) (fun _ hx => absurd hx List.not_mem_nil) (fun _ => rfl) (fun Q' Q => x_callS (as := [mL a2]) (rest := [mI x28]) (k' := k_M_sizeOf) (dA d_M_joined 3 rfl) o_M_sizeOf lk_M_324 st_M_sizeOf (Nat.le_of_ble_eq_true rfl) (Nat.le_trans (Nat.le_of_ble_eq_true rfl) hd) (Nat.le_of_ble_eq_true rfl)) (fun x33 h31 e32 p34 => ?_)
  have L35 := L30.ext e32
  refine z_gd (fun g36 => ?_)
  refine z_go (fun Q hq => x_iadd (dA d_M_joined 4 rfl) (x_istore (dA d_M_joined 5 rfl) (by decide) rfl (x_aload_n (dA d_M_joined 6 rfl) rfl rfl (x_iload (dA d_M_joined 7 rfl) rfl hq)))) ?_
  refine z_bnd (rest := []) (st1 := fun v => mI v :: []) (S_M_makes (d := 2) (Nat.le_refl _) L35 g36) (fun _ hx => absurd hx List.not_mem_nil) (fun _ => rfl) (fun Q' Q => x_callV (as := [mI (x28 + x33)]) (rest := []) (k' := k_M_makes) (dA d_M_joined 8 rfl) o_M_makes lk_M_431 im_M_makes se_M_makes rfl (L35.sh (x := (12, 66)) rfl) (by decide) (Nat.le_of_ble_eq_true rfl) (Nat.le_trans (Nat.le_of_ble_eq_true rfl) hd) (Nat.le_of_ble_eq_true rfl)) (fun x39 h37 e38 p40 => ?_)
  have L41 := L35.ext e38
  refine z_br (fun Q => x_if_eq (dA d_M_joined 9 rfl) rfl p40.inR) (fun c42 => ?_) (fun c42 => ?_)
  · refine z_fgt (ls' := [mN, mN, mN, mN, mN, mN, mN]) ⟨.inl rfl, .inl rfl, .inl rfl, .inl rfl, .inl rfl, .inl rfl, .inl rfl, trivial⟩ ?_
    exact S_M_joined_25 hd  L41 
  · refine z_go (fun Q hq => x_iload (dA d_M_joined 10 rfl) rfl hq) ?_
    refine z_brn (fun Q => x_if_ne (dA d_M_joined 11 rfl) rfl g36) (fun c43 => ?_) (fun c43 => ?_)
    · refine z_fgt (ls' := [mN, mN, mN, mN, mN, mN, mN]) ⟨.inl rfl, .inl rfl, .inl rfl, .inl rfl, .inl rfl, .inl rfl, .inl rfl, trivial⟩ ?_
      exact S_M_joined_25 hd  L41 
    · refine z_go (fun Q hq => x_aload_n (dA d_M_joined 18 rfl) rfl rfl (x_getI (dA d_M_joined 19 rfl) f_M_428 (L41.sh (x := (12, 66)) rfl) (by decide) (by decide) rfl (x_istore (dA d_M_joined 20 rfl) (by decide) rfl (x_aload_n (dA d_M_joined 21 rfl) rfl rfl (x_lload_n (dA d_M_joined 22 rfl) rfl rfl hq))))) ?_
      refine z_bnd (rest := []) (st1 := fun _ => []) (S_M_copyText (d := 1) (Nat.le_refl _) L41 ) (fun _ hx => absurd hx List.not_mem_nil) (fun _ => rfl) (fun Q' Q => x_callV (as := [mL a1]) (rest := []) (k' := k_M_copyText) (dA d_M_joined 23 rfl) o_M_copyText lk_M_434 im_M_copyText se_M_copyText rfl (L41.sh (x := (12, 66)) rfl) (by decide) (Nat.le_of_ble_eq_true rfl) (Nat.le_trans (Nat.le_of_ble_eq_true rfl) hd) (Nat.le_of_ble_eq_true rfl)) (fun x46 h44 e45 p47 => ?_)
      have L48 := L41.ext e45
      refine z_go (fun Q hq => x_aload_n (dA d_M_joined 24 rfl) rfl rfl (x_lload_n (dA d_M_joined 25 rfl) rfl rfl hq)) ?_
      refine z_bnd (rest := []) (st1 := fun _ => []) (S_M_copyText (d := 1) (Nat.le_refl _) L48 ) (fun _ hx => absurd hx List.not_mem_nil) (fun _ => rfl) (fun Q' Q => x_callV (as := [mL a2]) (rest := []) (k' := k_M_copyText) (dA d_M_joined 26 rfl) o_M_copyText lk_M_434 im_M_copyText se_M_copyText rfl (L48.sh (x := (12, 66)) rfl) (by decide) (Nat.le_of_ble_eq_true rfl) (Nat.le_trans (Nat.le_of_ble_eq_true rfl) hd) (Nat.le_of_ble_eq_true rfl)) (fun x51 h49 e50 p52 => ?_)
      have L53 := L48.ext e50
      refine z_go (fun Q hq => x_aload_n (dA d_M_joined 27 rfl) rfl rfl (x_iload (dA d_M_joined 28 rfl) rfl (x_aload_n (dA d_M_joined 29 rfl) rfl rfl (x_getI (dA d_M_joined 30 rfl) f_M_428 (L53.sh (x := (12, 66)) rfl) (by decide) (by decide) rfl hq)))) ?_
      refine z_bnd (rest := []) (st1 := fun _ => []) (S_M_look (d := 2) (Nat.le_refl _) L53 (L41.rg _ _) (L53.rg _ _)) (fun _ hx => absurd hx List.not_mem_nil) (fun _ => rfl) (fun Q' Q => x_callV (as := [mI (mGi h37 107 24), mI (mGi h49 107 24)]) (rest := []) (k' := k_M_look) (dA d_M_joined 31 rfl) o_M_look lk_M_343 im_M_look se_M_look rfl (L53.sh (x := (12, 66)) rfl) (by decide) (Nat.le_of_ble_eq_true rfl) (Nat.le_trans (Nat.le_of_ble_eq_true rfl) hd) (Nat.le_of_ble_eq_true rfl)) (fun x56 h54 e55 p57 => ?_)
      have L58 := L53.ext e55
      refine z_go (fun Q hq => x_aload_n (dA d_M_joined 32 rfl) rfl rfl (x_getI (dA d_M_joined 33 rfl) f_M_337 (L58.sh (x := (12, 66)) rfl) (by decide) (by decide) rfl (x_iload (dA d_M_joined 34 rfl) rfl hq))) ?_
      refine z_brn (fun Q => x_icmp_ne (dA d_M_joined 35 rfl) rfl (L58.rg _ _) g36) (fun c59 => ?_) (fun c59 => ?_)
      · refine z_go (fun Q hq => x_aload_n (dA d_M_joined 36 rfl) rfl rfl (x_getI (dA d_M_joined 37 rfl) f_M_330 (L58.sh (x := (12, 66)) rfl) (by decide) (by decide) rfl (x_iconst (dA d_M_joined 38 rfl) hq))) ?_
        refine z_brn (fun Q => x_icmp_ne (dA d_M_joined 39 rfl) rfl (L58.rg _ _) (inR_lit (3 : Int) rfl)) (fun c60 => ?_) (fun c60 => ?_)
        · exact S_M_joined_76 hd  L58 g36 (L41.rg _ _)
        · exact S_M_joined_82 hd  L58 g36 (L41.rg _ _)
      · exact S_M_joined_76 hd  L58 g36 (L41.rg _ _)
/-! TwoMillsModel.comeIn(I)V -/
noncomputable def F_M_comeIn_285_b (G285 : Int → Int → Int → Int → MH → RS Unit) (v1 : Int) (v2 : Int) (v6 : Int) (v7 : Int) (h : MH) : RS Unit := if v6 ≤ v7 then gd (0 ≤ v1 ∧ v1 < 8) (gd (inR ((mGi h 140 v1.toNat) + v6)) (sto (mPi h 140 v1.toNat ((mGi h 140 v1.toNat) + v6)) fun h4 => sto (mPi h4 144 v1.toNat (-1 : Int)) fun h7 => some (.inl (), h7))) else gd (inR ((100 : Int) * v1)) (gd (0 ≤ v1 ∧ v1 < 8) (gd (inR (((100 : Int) * v1) + (mGi h 140 v1.toNat))) (gd (inR ((((100 : Int) * v1) + (mGi h 140 v1.toNat)) + v6)) (gd (inR (((((100 : Int) * v1) + (mGi h 140 v1.toNat)) + v6) - (1 : Int))) (gd (inR ((((((100 : Int) * v1) + (mGi h 140 v1.toNat)) + v6) - (1 : Int)) - v7)) (gd (inR (v2 + v7)) (gd (0 ≤ (v2 + v7) ∧ (v2 + v7) < 10400) (gd (0 ≤ ((((((100 : Int) * v1) + (mGi h 140 v1.toNat)) + v6) - (1 : Int)) - v7) ∧ ((((((100 : Int) * v1) + (mGi h 140 v1.toNat)) + v6) - (1 : Int)) - v7) < 800) (sto (mPl h 135 ((((((100 : Int) * v1) + (mGi h 140 v1.toNat)) + v6) - (1 : Int)) - v7).toNat (mGl h 138 (v2 + v7).toNat)) fun h19 => gd (inR (v7 + (1 : Int))) (G285 v1 v2 v6 (v7 + (1 : Int)) h19))))))))))
theorem S_M_comeIn_285_b {d : Nat} (hd : 4 ≤ d) {G285 : Int → Int → Int → Int → MH → RS Unit} (hG285 : ∀ (v1 : Int) (v2 : Int) (v6 : Int) (v7 : Int) (h : MH), LayC h → inR v1 → inR v2 → inR v6 → inR v7 → OK d k_M_comeIn 285 [mR 107, mI v1, mI v2, mN, mN, mN, mI v6, mI v7, mN, mN] [] h cV pT (G285 v1 v2 v6 v7 h)) {v1 : Int} {v2 : Int} {v6 : Int} {v7 : Int} {h : MH} (L : LayC h) (rv1 : inR v1) (rv2 : inR v2) (rv6 : inR v6) (rv7 : inR v7) : OK d k_M_comeIn 285 [mR 107, mI v1, mI v2, mN, mN, mN, mI v6, mI v7, mN, mN] [] h cV pT (F_M_comeIn_285_b G285 v1 v2 v6 v7 h) := by
  unfold F_M_comeIn_285_b
  refine z_go (fun Q hq => x_iload (dA d_M_comeIn 165 rfl) rfl (x_iload (dA d_M_comeIn 166 rfl) rfl hq)) ?_
  refine z_br (fun Q => x_icmp_ge (dA d_M_comeIn 167 rfl) rfl rv7 rv6) (fun c1 => ?_) (fun c1 => ?_)
  · refine z_go (fun Q hq => x_aload_n (dA d_M_comeIn 193 rfl) rfl rfl (x_getR (dA d_M_comeIn 194 rfl) f_M_109 (L.sh (x := (12, 66)) rfl) (by decide) (by decide) rfl (L.rf 141 rfl) (x_iload_n (dA d_M_comeIn 195 rfl) rfl rfl (x_dup2 (dA d_M_comeIn 196 rfl) rfl rfl hq)))) ?_
    refine z_gd (fun g2 => ?_)
    refine z_go (fun Q hq => x_iald (dA d_M_comeIn 197 rfl) (L.sh (x := (100, 8)) rfl) g2.1 g2.2 (by decide) (x_iload (dA d_M_comeIn 198 rfl) rfl hq)) ?_
    refine z_gd (fun g3 => ?_)
    refine z_go (fun Q hq => x_iadd (dA d_M_comeIn 199 rfl) hq) ?_
    refine z_sto (Ext.pi (L.sh (x := (100, 8)) rfl) (by decide) g3) (fun Q hq => x_iast (dA d_M_comeIn 200 rfl) (L.sh (x := (100, 8)) rfl) g2.1 g2.2 (by decide) hq) (fun h4 e5 => ?_)
    have L6 := L.ext e5
    refine z_go (fun Q hq => x_aload_n (dA d_M_comeIn 201 rfl) rfl rfl (x_getR (dA d_M_comeIn 202 rfl) f_M_121 (L6.sh (x := (12, 66)) rfl) (by decide) (by decide) rfl (L6.rf 145 rfl) (x_iload_n (dA d_M_comeIn 203 rfl) rfl rfl (x_iconst (dA d_M_comeIn 204 rfl) hq)))) ?_
    refine z_sto (Ext.pi (L6.sh (x := (100, 8)) rfl) (by decide) (inR_lit (-1 : Int) rfl)) (fun Q hq => x_iast (dA d_M_comeIn 205 rfl) (L6.sh (x := (100, 8)) rfl) g2.1 g2.2 (by decide) hq) (fun h7 e8 => ?_)
    have L9 := L6.ext e8
    exact z_retv (dA d_M_comeIn 206 rfl) rfl
  · refine z_go (fun Q hq => x_aload_n (dA d_M_comeIn 168 rfl) rfl rfl (x_getR (dA d_M_comeIn 169 rfl) f_M_94 (L.sh (x := (12, 66)) rfl) (by decide) (by decide) rfl (L.rf 136 rfl) (x_bipush (dA d_M_comeIn 170 rfl) (by decide) (x_iload_n (dA d_M_comeIn 171 rfl) rfl rfl hq)))) ?_
    refine z_gd (fun g10 => ?_)
    refine z_go (fun Q hq => x_imul (dA d_M_comeIn 172 rfl) (x_aload_n (dA d_M_comeIn 173 rfl) rfl rfl (x_getR (dA d_M_comeIn 174 rfl) f_M_109 (L.sh (x := (12, 66)) rfl) (by decide) (by decide) rfl (L.rf 141 rfl) (x_iload_n (dA d_M_comeIn 175 rfl) rfl rfl hq)))) ?_
    refine z_gd (fun g11 => ?_)
    refine z_go (fun Q hq => x_iald (dA d_M_comeIn 176 rfl) (L.sh (x := (100, 8)) rfl) g11.1 g11.2 (by decide) hq) ?_
    refine z_gd (fun g12 => ?_)
    refine z_go (fun Q hq => x_iadd (dA d_M_comeIn 177 rfl) (x_iload (dA d_M_comeIn 178 rfl) rfl hq)) ?_
    refine z_gd (fun g13 => ?_)
    refine z_go (fun Q hq => x_iadd (dA d_M_comeIn 179 rfl) (x_iconst (dA d_M_comeIn 180 rfl) hq)) ?_
    refine z_gd (fun g14 => ?_)
    refine z_go (fun Q hq => x_isub (dA d_M_comeIn 181 rfl) (x_iload (dA d_M_comeIn 182 rfl) rfl hq)) ?_
    refine z_gd (fun g15 => ?_)
    refine z_go (fun Q hq => x_isub (dA d_M_comeIn 183 rfl) (x_aload_n (dA d_M_comeIn 184 rfl) rfl rfl (x_getR (dA d_M_comeIn 185 rfl) f_M_103 (L.sh (x := (12, 66)) rfl) (by decide) (by decide) rfl (L.rf 139 rfl) (x_iload_n (dA d_M_comeIn 186 rfl) rfl rfl (x_iload (dA d_M_comeIn 187 rfl) rfl hq))))) ?_
    refine z_gd (fun g16 => ?_)
    refine z_go (fun Q hq => x_iadd (dA d_M_comeIn 188 rfl) hq) ?_
    refine z_gd (fun g17 => ?_)
    refine z_go (fun Q hq => x_lald (dA d_M_comeIn 189 rfl) (L.sh (x := (103, 10400)) rfl) g17.1 g17.2 (by decide) hq) ?_
    refine z_gd (fun g18 => ?_)
    refine z_sto Ext.pl (fun Q hq => x_last (dA d_M_comeIn 190 rfl) (L.sh (x := (103, 800)) rfl) g18.1 g18.2 (by decide) hq) (fun h19 e20 => ?_)
    have L21 := L.ext e20
    refine z_gd (fun g22 => ?_)
    refine z_go (fun Q hq => x_iinc (dA d_M_comeIn 191 rfl) rfl (by decide) rfl (x_goto (dA d_M_comeIn 192 rfl) rfl hq)) ?_
    exact hG285 v1 v2 v6 (v7 + (1 : Int)) h19 L21 rv1 rv2 rv6 g22
noncomputable def F_M_comeIn_285 (v1 : Int) (v2 : Int) (v6 : Int) (v7 : Int) (h : MH) : RS Unit := itr (fun self (q : Int × Int × Int × Int × MH) => F_M_comeIn_285_b (fun v1 v2 v6 v7 h => self (v1, v2, v6, v7, h)) q.1 q.2.1 q.2.2.1 q.2.2.2.1 q.2.2.2.2) FU (v1, v2, v6, v7, h)
theorem S_M_comeIn_285 {d : Nat} (hd : 4 ≤ d) {v1 : Int} {v2 : Int} {v6 : Int} {v7 : Int} {h : MH} (L : LayC h) (rv1 : inR v1) (rv2 : inR v2) (rv6 : inR v6) (rv7 : inR v7) : OK d k_M_comeIn 285 [mR 107, mI v1, mI v2, mN, mN, mN, mI v6, mI v7, mN, mN] [] h cV pT (F_M_comeIn_285  v1 v2 v6 v7 h) := by
  unfold F_M_comeIn_285
  refine z_itr (P := fun q : Int × Int × Int × Int × MH => LayC q.2.2.2.2 ∧ inR q.1 ∧ inR q.2.1 ∧ inR q.2.2.1 ∧ inR q.2.2.2.1 ∧ True) (ls := fun q : Int × Int × Int × Int × MH => [mR 107, mI q.1, mI q.2.1, mN, mN, mN, mI q.2.2.1, mI q.2.2.2.1, mN, mN]) (hp := fun q : Int × Int × Int × Int × MH => q.2.2.2.2) (fun self hs q hq => ?_) FU (v1, v2, v6, v7, h) ⟨L, rv1, rv2, rv6, rv7, trivial⟩
  exact S_M_comeIn_285_b hd (fun v1 v2 v6 v7 h L rv1 rv2 rv6 rv7 => hs (v1, v2, v6, v7, h) ⟨L, rv1, rv2, rv6, rv7, trivial⟩) hq.1 hq.2.1 hq.2.2.1 hq.2.2.2.1 hq.2.2.2.2.1
noncomputable def F_M_comeIn_274 (v1 : Int) (v2 : Int) (v6 : Int) (s1 : Int) (h : MH) : RS Unit := gd (p01 s1) (bnd (F_M_need s1 (1 : Int) h) fun x26 h24 => if x26 = 0 then some (.inl (), h24) else F_M_comeIn_285 v1 v2 v6 (0 : Int) h24)
theorem S_M_comeIn_274 {d : Nat} (hd : 4 ≤ d) {v1 : Int} {v2 : Int} {v6 : Int} {s1 : Int} {h : MH} (L : LayC h) (rv1 : inR v1) (rv2 : inR v2) (rv6 : inR v6) (rs1 : inR s1) : OK d k_M_comeIn 274 [mR 107, mI v1, mI v2, mN, mN, mN, mI v6, mN, mN, mN] [mI s1, mR 107] h cV pT (F_M_comeIn_274  v1 v2 v6 s1 h) := by
  unfold F_M_comeIn_274
  refine z_go (fun Q hq => x_iconst (dA d_M_comeIn 159 rfl) hq) ?_
  refine z_gd (fun g23 => ?_)
  refine z_bnd (rest := []) (st1 := fun v => mI v :: []) (S_M_need (d := 1) (Nat.le_refl _) L g23 (inR_lit (1 : Int) rfl)) (fun _ hx => absurd hx List.not_mem_nil) (fun _ => rfl) (fun Q' Q => x_callV (as := [mI s1, mI (1 : Int)]) (rest := []) (k' := k_M_need) (dA d_M_comeIn 160 rfl) o_M_need lk_M_181 im_M_need se_M_need rfl (L.sh (x := (12, 66)) rfl) (by decide) (Nat.le_of_ble_eq_true rfl) (Nat.le_trans (Nat.le_of_ble_eq_true rfl) hd) (Nat.le_of_ble_eq_true rfl)) (fun x26 h24 e25 p27 => ?_)
  have L28 := L.ext e25
  refine z_brn (fun Q => x_if_ne (dA d_M_comeIn 161 rfl) rfl p27.inR) (fun c29 => ?_) (fun c29 => ?_)
  · exact z_retv (dA d_M_comeIn 162 rfl) rfl
  · refine z_go (fun Q hq => x_iconst (dA d_M_comeIn 163 rfl) (x_istore (dA d_M_comeIn 164 rfl) (by decide) rfl hq)) ?_
    exact S_M_comeIn_285 hd  L28 rv1 rv2 rv6 (inR_lit (0 : Int) rfl)
noncomputable def F_M_comeIn_245 (G186 : Int → Int → Int → Int → Int → MH → RS Unit) (v1 : Int) (v2 : Int) (v5 : Int) (v7 : Int) (s0 : Int) (s1 : Int) (h : MH) : RS Unit := gd (inR (s0 + s1)) (gd (inR (v7 + (1 : Int))) (G186 v1 v2 v5 (s0 + s1) (v7 + (1 : Int)) h))
theorem S_M_comeIn_245 {d : Nat} (hd : 4 ≤ d) {G186 : Int → Int → Int → Int → Int → MH → RS Unit} (hG186 : ∀ (v1 : Int) (v2 : Int) (v5 : Int) (v6 : Int) (v7 : Int) (h : MH), LayC h → inR v1 → inR v2 → inR v5 → inR v6 → inR v7 → OK d k_M_comeIn 186 [mR 107, mI v1, mI v2, mN, mN, mI v5, mI v6, mI v7, mN, mN] [] h cV pT (G186 v1 v2 v5 v6 v7 h)) {v1 : Int} {v2 : Int} {v5 : Int} {v7 : Int} {s0 : Int} {s1 : Int} {h : MH} (L : LayC h) (rv1 : inR v1) (rv2 : inR v2) (rv5 : inR v5) (rv7 : inR v7) (rs0 : inR s0) (rs1 : inR s1) : OK d k_M_comeIn 245 [mR 107, mI v1, mI v2, mN, mN, mI v5, mN, mI v7, mN, mN] [mI s1, mI s0] h cV pT (F_M_comeIn_245 G186 v1 v2 v5 v7 s0 s1 h) := by
  unfold F_M_comeIn_245
  refine z_gd (fun g30 => ?_)
  refine z_go (fun Q hq => x_iadd (dA d_M_comeIn 143 rfl) (x_istore (dA d_M_comeIn 144 rfl) (by decide) rfl hq)) ?_
  refine z_gd (fun g31 => ?_)
  refine z_go (fun Q hq => x_iinc (dA d_M_comeIn 145 rfl) rfl (by decide) rfl (x_goto (dA d_M_comeIn 146 rfl) rfl hq)) ?_
  exact hG186 v1 v2 v5 (s0 + s1) (v7 + (1 : Int)) h L rv1 rv2 rv5 g30 g31
noncomputable def F_M_comeIn_186_b (G186 : Int → Int → Int → Int → Int → MH → RS Unit) (v1 : Int) (v2 : Int) (v5 : Int) (v6 : Int) (v7 : Int) (h : MH) : RS Unit := if v5 ≤ v7 then gd (0 ≤ v1 ∧ v1 < 8) (gd (inR ((mGi h 140 v1.toNat) + v6)) (if (100 : Int) < ((mGi h 140 v1.toNat) + v6) then F_M_comeIn_274 v1 v2 v6 (0 : Int) h else F_M_comeIn_274 v1 v2 v6 (1 : Int) h)) else gd (inR (v2 + v6)) (gd (inR (v2 + v7)) (gd (0 ≤ (v2 + v7) ∧ (v2 + v7) < 10400) (gd (0 ≤ v1 ∧ v1 < 8) (gd (0 ≤ (v2 + v6) ∧ (v2 + v6) < 10400) (sto (mPl h 138 (v2 + v6).toNat ((mGl h 138 (v2 + v7).toNat) ||| (((Int32.ofInt (mGi h 146 v1.toNat)).toInt64) <<< ((Int32.ofInt (28 : Int)).toInt64 &&& 63)))) fun h41 => bnd (F_M_kindOf (mGl h41 138 (v2 + v7).toNat) h41) fun x46 h44 => if x46 = (5 : Int) then F_M_comeIn_245 G186 v1 v2 v5 v7 v6 (0 : Int) h44 else F_M_comeIn_245 G186 v1 v2 v5 v7 v6 (1 : Int) h44)))))
theorem S_M_comeIn_186_b {d : Nat} (hd : 4 ≤ d) {G186 : Int → Int → Int → Int → Int → MH → RS Unit} (hG186 : ∀ (v1 : Int) (v2 : Int) (v5 : Int) (v6 : Int) (v7 : Int) (h : MH), LayC h → inR v1 → inR v2 → inR v5 → inR v6 → inR v7 → OK d k_M_comeIn 186 [mR 107, mI v1, mI v2, mN, mN, mI v5, mI v6, mI v7, mN, mN] [] h cV pT (G186 v1 v2 v5 v6 v7 h)) {v1 : Int} {v2 : Int} {v5 : Int} {v6 : Int} {v7 : Int} {h : MH} (L : LayC h) (rv1 : inR v1) (rv2 : inR v2) (rv5 : inR v5) (rv6 : inR v6) (rv7 : inR v7) : OK d k_M_comeIn 186 [mR 107, mI v1, mI v2, mN, mN, mI v5, mI v6, mI v7, mN, mN] [] h cV pT (F_M_comeIn_186_b G186 v1 v2 v5 v6 v7 h) := by
  unfold F_M_comeIn_186_b
  refine z_go (fun Q hq => x_iload (dA d_M_comeIn 107 rfl) rfl (x_iload (dA d_M_comeIn 108 rfl) rfl hq)) ?_
  refine z_br (fun Q => x_icmp_ge (dA d_M_comeIn 109 rfl) rfl rv7 rv5) (fun c32 => ?_) (fun c32 => ?_)
  · refine z_go (fun Q hq => x_aload_n (dA d_M_comeIn 147 rfl) rfl rfl (x_aload_n (dA d_M_comeIn 148 rfl) rfl rfl (x_getR (dA d_M_comeIn 149 rfl) f_M_109 (L.sh (x := (12, 66)) rfl) (by decide) (by decide) rfl (L.rf 141 rfl) (x_iload_n (dA d_M_comeIn 150 rfl) rfl rfl hq)))) ?_
    refine z_gd (fun g33 => ?_)
    refine z_go (fun Q hq => x_iald (dA d_M_comeIn 151 rfl) (L.sh (x := (100, 8)) rfl) g33.1 g33.2 (by decide) (x_iload (dA d_M_comeIn 152 rfl) rfl hq)) ?_
    refine z_gd (fun g34 => ?_)
    refine z_go (fun Q hq => x_iadd (dA d_M_comeIn 153 rfl) (x_bipush (dA d_M_comeIn 154 rfl) (by decide) hq)) ?_
    refine z_br (fun Q => x_icmp_gt (dA d_M_comeIn 155 rfl) rfl g34 (inR_lit (100 : Int) rfl)) (fun c35 => ?_) (fun c35 => ?_)
    · refine z_go (fun Q hq => x_iconst (dA d_M_comeIn 158 rfl) hq) ?_
      refine z_fgt (ls' := [mR 107, mI v1, mI v2, mN, mN, mN, mI v6, mN, mN, mN]) ⟨.inr rfl, .inr rfl, .inr rfl, .inl rfl, .inl rfl, .inl rfl, .inr rfl, .inl rfl, .inl rfl, .inl rfl, trivial⟩ ?_
      exact S_M_comeIn_274 hd  L rv1 rv2 rv6 (inR_lit (0 : Int) rfl)
    · refine z_go (fun Q hq => x_iconst (dA d_M_comeIn 156 rfl) (x_goto (dA d_M_comeIn 157 rfl) rfl hq)) ?_
      refine z_fgt (ls' := [mR 107, mI v1, mI v2, mN, mN, mN, mI v6, mN, mN, mN]) ⟨.inr rfl, .inr rfl, .inr rfl, .inl rfl, .inl rfl, .inl rfl, .inr rfl, .inl rfl, .inl rfl, .inl rfl, trivial⟩ ?_
      exact S_M_comeIn_274 hd  L rv1 rv2 rv6 (inR_lit (1 : Int) rfl)
  · refine z_go (fun Q hq => x_aload_n (dA d_M_comeIn 110 rfl) rfl rfl (x_getR (dA d_M_comeIn 111 rfl) f_M_103 (L.sh (x := (12, 66)) rfl) (by decide) (by decide) rfl (L.rf 139 rfl) (x_iload_n (dA d_M_comeIn 112 rfl) rfl rfl (x_iload (dA d_M_comeIn 113 rfl) rfl hq)))) ?_
    refine z_gd (fun g36 => ?_)
    refine z_go (fun Q hq => x_iadd (dA d_M_comeIn 114 rfl) (x_aload_n (dA d_M_comeIn 115 rfl) rfl rfl (x_getR (dA d_M_comeIn 116 rfl) f_M_103 (L.sh (x := (12, 66)) rfl) (by decide) (by decide) rfl (L.rf 139 rfl) (x_iload_n (dA d_M_comeIn 117 rfl) rfl rfl (x_iload (dA d_M_comeIn 118 rfl) rfl hq))))) ?_
    refine z_gd (fun g37 => ?_)
    refine z_go (fun Q hq => x_iadd (dA d_M_comeIn 119 rfl) hq) ?_
    refine z_gd (fun g38 => ?_)
    refine z_go (fun Q hq => x_lald (dA d_M_comeIn 120 rfl) (L.sh (x := (103, 10400)) rfl) g38.1 g38.2 (by decide) (x_aload_n (dA d_M_comeIn 121 rfl) rfl rfl (x_getR (dA d_M_comeIn 122 rfl) f_M_127 (L.sh (x := (12, 66)) rfl) (by decide) (by decide) rfl (L.rf 147 rfl) (x_iload_n (dA d_M_comeIn 123 rfl) rfl rfl hq)))) ?_
    refine z_gd (fun g39 => ?_)
    refine z_go (fun Q hq => x_iald (dA d_M_comeIn 124 rfl) (L.sh (x := (100, 8)) rfl) g39.1 g39.2 (by decide) (x_i2l (dA d_M_comeIn 125 rfl) (x_bipush (dA d_M_comeIn 126 rfl) (by decide) (x_lshl (dA d_M_comeIn 127 rfl) (x_lor (dA d_M_comeIn 128 rfl) hq))))) ?_
    refine z_gd (fun g40 => ?_)
    refine z_sto Ext.pl (fun Q hq => x_last (dA d_M_comeIn 129 rfl) (L.sh (x := (103, 10400)) rfl) g40.1 g40.2 (by decide) hq) (fun h41 e42 => ?_)
    have L43 := L.ext e42
    refine z_go (fun Q hq => x_iload (dA d_M_comeIn 130 rfl) rfl (x_aload_n (dA d_M_comeIn 131 rfl) rfl rfl (x_getR (dA d_M_comeIn 132 rfl) f_M_103 (L43.sh (x := (12, 66)) rfl) (by decide) (by decide) rfl (L43.rf 139 rfl) (x_iload_n (dA d_M_comeIn 133 rfl) rfl rfl (x_iload (dA d_M_comeIn 134 rfl) rfl (x_iadd (dA d_M_comeIn 135 rfl) (x_lald (dA d_M_comeIn 136 rfl) (L43.sh (x := (103, 10400)) rfl) g38.1 g38.2 (by decide) hq))))))) ?_
    refine z_bnd (rest := [mI v6]) (st1 := fun v => mI v :: [mI v6]) (S_M_kindOf (d := 0) (Nat.le_refl _) L43 ) (fun _ hx => absurd hx List.not_mem_nil) (fun _ => rfl) (fun Q' Q => x_callS (as := [mL (mGl h41 138 (v2 + v7).toNat)]) (rest := [mI v6]) (k' := k_M_kindOf) (dA d_M_comeIn 137 rfl) o_M_kindOf lk_M_321 st_M_kindOf (Nat.le_of_ble_eq_true rfl) (Nat.le_trans (Nat.le_of_ble_eq_true rfl) hd) (Nat.le_of_ble_eq_true rfl)) (fun x46 h44 e45 p47 => ?_)
    have L48 := L43.ext e45
    refine z_go (fun Q hq => x_iconst (dA d_M_comeIn 138 rfl) hq) ?_
    refine z_brn (fun Q => x_icmp_ne (dA d_M_comeIn 139 rfl) rfl p47 (inR_lit (5 : Int) rfl)) (fun c49 => ?_) (fun c49 => ?_)
    · refine z_go (fun Q hq => x_iconst (dA d_M_comeIn 140 rfl) (x_goto (dA d_M_comeIn 141 rfl) rfl hq)) ?_
      refine z_fgt (ls' := [mR 107, mI v1, mI v2, mN, mN, mI v5, mN, mI v7, mN, mN]) ⟨.inr rfl, .inr rfl, .inr rfl, .inl rfl, .inl rfl, .inr rfl, .inl rfl, .inr rfl, .inl rfl, .inl rfl, trivial⟩ ?_
      exact S_M_comeIn_245 hd hG186 L48 rv1 rv2 rv5 rv7 rv6 (inR_lit (0 : Int) rfl)
    · refine z_go (fun Q hq => x_iconst (dA d_M_comeIn 142 rfl) hq) ?_
      refine z_fgt (ls' := [mR 107, mI v1, mI v2, mN, mN, mI v5, mN, mI v7, mN, mN]) ⟨.inr rfl, .inr rfl, .inr rfl, .inl rfl, .inl rfl, .inr rfl, .inl rfl, .inr rfl, .inl rfl, .inl rfl, trivial⟩ ?_
      exact S_M_comeIn_245 hd hG186 L48 rv1 rv2 rv5 rv7 rv6 (inR_lit (1 : Int) rfl)
noncomputable def F_M_comeIn_186 (v1 : Int) (v2 : Int) (v5 : Int) (v6 : Int) (v7 : Int) (h : MH) : RS Unit := itr (fun self (q : Int × Int × Int × Int × Int × MH) => F_M_comeIn_186_b (fun v1 v2 v5 v6 v7 h => self (v1, v2, v5, v6, v7, h)) q.1 q.2.1 q.2.2.1 q.2.2.2.1 q.2.2.2.2.1 q.2.2.2.2.2) FU (v1, v2, v5, v6, v7, h)
theorem S_M_comeIn_186 {d : Nat} (hd : 4 ≤ d) {v1 : Int} {v2 : Int} {v5 : Int} {v6 : Int} {v7 : Int} {h : MH} (L : LayC h) (rv1 : inR v1) (rv2 : inR v2) (rv5 : inR v5) (rv6 : inR v6) (rv7 : inR v7) : OK d k_M_comeIn 186 [mR 107, mI v1, mI v2, mN, mN, mI v5, mI v6, mI v7, mN, mN] [] h cV pT (F_M_comeIn_186  v1 v2 v5 v6 v7 h) := by
  unfold F_M_comeIn_186
  refine z_itr (P := fun q : Int × Int × Int × Int × Int × MH => LayC q.2.2.2.2.2 ∧ inR q.1 ∧ inR q.2.1 ∧ inR q.2.2.1 ∧ inR q.2.2.2.1 ∧ inR q.2.2.2.2.1 ∧ True) (ls := fun q : Int × Int × Int × Int × Int × MH => [mR 107, mI q.1, mI q.2.1, mN, mN, mI q.2.2.1, mI q.2.2.2.1, mI q.2.2.2.2.1, mN, mN]) (hp := fun q : Int × Int × Int × Int × Int × MH => q.2.2.2.2.2) (fun self hs q hq => ?_) FU (v1, v2, v5, v6, v7, h) ⟨L, rv1, rv2, rv5, rv6, rv7, trivial⟩
  exact S_M_comeIn_186_b hd (fun v1 v2 v5 v6 v7 h L rv1 rv2 rv5 rv6 rv7 => hs (v1, v2, v5, v6, v7, h) ⟨L, rv1, rv2, rv5, rv6, rv7, trivial⟩) hq.1 hq.2.1 hq.2.2.1 hq.2.2.2.1 hq.2.2.2.2.1 hq.2.2.2.2.2.1
noncomputable def F_M_comeIn_180 (v1 : Int) (v2 : Int) (v5 : Int) (h : MH) : RS Unit := F_M_comeIn_186 v1 v2 v5 (0 : Int) (0 : Int) h
theorem S_M_comeIn_180 {d : Nat} (hd : 4 ≤ d) {v1 : Int} {v2 : Int} {v5 : Int} {h : MH} (L : LayC h) (rv1 : inR v1) (rv2 : inR v2) (rv5 : inR v5) : OK d k_M_comeIn 180 [mR 107, mI v1, mI v2, mN, mN, mI v5, mN, mN, mN, mN] [] h cV pT (F_M_comeIn_180  v1 v2 v5 h) := by
  unfold F_M_comeIn_180
  refine z_go (fun Q hq => x_iconst (dA d_M_comeIn 103 rfl) (x_istore (dA d_M_comeIn 104 rfl) (by decide) rfl (x_iconst (dA d_M_comeIn 105 rfl) (x_istore (dA d_M_comeIn 106 rfl) (by decide) rfl hq)))) ?_
  exact S_M_comeIn_186 hd  L rv1 rv2 rv5 (inR_lit (0 : Int) rfl) (inR_lit (0 : Int) rfl)
noncomputable def F_M_comeIn_171 (G20 : Int → Int → Int64 → Int → Int → MH → RS Unit) (v1 : Int) (v2 : Int) (v3 : Int64) (v5 : Int) (s0 : Int) (s1 : Int) (h : MH) : RS Unit := gd (inR (s0 + s1)) (gd (inR ((s0 + s1) + (1 : Int))) (G20 v1 v2 v3 v5 ((s0 + s1) + (1 : Int)) h))
theorem S_M_comeIn_171 {d : Nat} (hd : 4 ≤ d) {G20 : Int → Int → Int64 → Int → Int → MH → RS Unit} (hG20 : ∀ (v1 : Int) (v2 : Int) (v3 : Int64) (v5 : Int) (v6 : Int) (h : MH), LayC h → inR v1 → inR v2 → inR v5 → inR v6 → OK d k_M_comeIn 20 [mR 107, mI v1, mI v2, mL v3, mN, mI v5, mI v6, mN, mN, mN] [] h cV pT (G20 v1 v2 v3 v5 v6 h)) {v1 : Int} {v2 : Int} {v3 : Int64} {v5 : Int} {s0 : Int} {s1 : Int} {h : MH} (L : LayC h) (rv1 : inR v1) (rv2 : inR v2) (rv5 : inR v5) (rs0 : inR s0) (rs1 : inR s1) : OK d k_M_comeIn 171 [mR 107, mI v1, mI v2, mL v3, mN, mI v5, mN, mN, mN, mN] [mI s1, mI s0] h cV pT (F_M_comeIn_171 G20 v1 v2 v3 v5 s0 s1 h) := by
  unfold F_M_comeIn_171
  refine z_gd (fun g50 => ?_)
  refine z_go (fun Q hq => x_iadd (dA d_M_comeIn 99 rfl) (x_istore (dA d_M_comeIn 100 rfl) (by decide) rfl hq)) ?_
  refine z_gd (fun g51 => ?_)
  refine z_go (fun Q hq => x_iinc (dA d_M_comeIn 101 rfl) rfl (by decide) rfl (x_goto (dA d_M_comeIn 102 rfl) rfl hq)) ?_
  exact hG20 v1 v2 v3 v5 ((s0 + s1) + (1 : Int)) h L rv1 rv2 rv5 g51
noncomputable def F_M_comeIn_145 (G20 : Int → Int → Int64 → Int → Int → MH → RS Unit) (v1 : Int) (v2 : Int) (v3 : Int64) (v5 : Int) (v6 : Int) (v7 : Int64) (v9 : Int) (h : MH) : RS Unit := gd (inR (v2 + v5)) (gd (0 ≤ (v2 + v5) ∧ (v2 + v5) < 10400) (sto (mPl h 138 (v2 + v5).toNat v7) fun h54 => gd (inR (v5 + (1 : Int))) (if v9 = 0 then F_M_comeIn_171 G20 v1 v2 v3 (v5 + (1 : Int)) v6 (0 : Int) h54 else F_M_comeIn_171 G20 v1 v2 v3 (v5 + (1 : Int)) v6 (1 : Int) h54)))
theorem S_M_comeIn_145 {d : Nat} (hd : 4 ≤ d) {G20 : Int → Int → Int64 → Int → Int → MH → RS Unit} (hG20 : ∀ (v1 : Int) (v2 : Int) (v3 : Int64) (v5 : Int) (v6 : Int) (h : MH), LayC h → inR v1 → inR v2 → inR v5 → inR v6 → OK d k_M_comeIn 20 [mR 107, mI v1, mI v2, mL v3, mN, mI v5, mI v6, mN, mN, mN] [] h cV pT (G20 v1 v2 v3 v5 v6 h)) {v1 : Int} {v2 : Int} {v3 : Int64} {v5 : Int} {v6 : Int} {v7 : Int64} {v9 : Int} {h : MH} (L : LayC h) (rv1 : inR v1) (rv2 : inR v2) (rv5 : inR v5) (rv6 : inR v6) (rv9 : inR v9) : OK d k_M_comeIn 145 [mR 107, mI v1, mI v2, mL v3, mN, mI v5, mI v6, mL v7, mN, mI v9] [] h cV pT (F_M_comeIn_145 G20 v1 v2 v3 v5 v6 v7 v9 h) := by
  unfold F_M_comeIn_145
  refine z_go (fun Q hq => x_aload_n (dA d_M_comeIn 85 rfl) rfl rfl (x_getR (dA d_M_comeIn 86 rfl) f_M_103 (L.sh (x := (12, 66)) rfl) (by decide) (by decide) rfl (L.rf 139 rfl) (x_iload_n (dA d_M_comeIn 87 rfl) rfl rfl (x_iload (dA d_M_comeIn 88 rfl) rfl hq)))) ?_
  refine z_gd (fun g52 => ?_)
  refine z_go (fun Q hq => x_iadd (dA d_M_comeIn 89 rfl) (x_lload (dA d_M_comeIn 90 rfl) rfl hq)) ?_
  refine z_gd (fun g53 => ?_)
  refine z_sto Ext.pl (fun Q hq => x_last (dA d_M_comeIn 91 rfl) (L.sh (x := (103, 10400)) rfl) g53.1 g53.2 (by decide) hq) (fun h54 e55 => ?_)
  have L56 := L.ext e55
  refine z_gd (fun g57 => ?_)
  refine z_go (fun Q hq => x_iinc (dA d_M_comeIn 92 rfl) rfl (by decide) rfl (x_iload (dA d_M_comeIn 93 rfl) rfl (x_iload (dA d_M_comeIn 94 rfl) rfl hq))) ?_
  refine z_br (fun Q => x_if_eq (dA d_M_comeIn 95 rfl) rfl rv9) (fun c58 => ?_) (fun c58 => ?_)
  · refine z_go (fun Q hq => x_iconst (dA d_M_comeIn 98 rfl) hq) ?_
    refine z_fgt (ls' := [mR 107, mI v1, mI v2, mL v3, mN, mI (v5 + (1 : Int)), mN, mN, mN, mN]) ⟨.inr rfl, .inr rfl, .inr rfl, .inr rfl, .inl rfl, .inr rfl, .inl rfl, .inl rfl, .inl rfl, .inl rfl, trivial⟩ ?_
    exact S_M_comeIn_171 hd hG20 L56 rv1 rv2 g57 rv6 (inR_lit (0 : Int) rfl)
  · refine z_go (fun Q hq => x_iconst (dA d_M_comeIn 96 rfl) (x_goto (dA d_M_comeIn 97 rfl) rfl hq)) ?_
    refine z_fgt (ls' := [mR 107, mI v1, mI v2, mL v3, mN, mI (v5 + (1 : Int)), mN, mN, mN, mN]) ⟨.inr rfl, .inr rfl, .inr rfl, .inr rfl, .inl rfl, .inr rfl, .inl rfl, .inl rfl, .inl rfl, .inl rfl, trivial⟩ ?_
    exact S_M_comeIn_171 hd hG20 L56 rv1 rv2 g57 rv6 (inR_lit (1 : Int) rfl)
noncomputable def F_M_comeIn_142 (G20 : Int → Int → Int64 → Int → Int → MH → RS Unit) (v1 : Int) (v2 : Int) (v3 : Int64) (v6 : Int) (v7 : Int64) (v9 : Int) (s0 : Int) (s1 : Int) (h : MH) : RS Unit := gd (inR (s0 - s1)) (F_M_comeIn_145 G20 v1 v2 v3 (s0 - s1) v6 v7 v9 h)
theorem S_M_comeIn_142 {d : Nat} (hd : 4 ≤ d) {G20 : Int → Int → Int64 → Int → Int → MH → RS Unit} (hG20 : ∀ (v1 : Int) (v2 : Int) (v3 : Int64) (v5 : Int) (v6 : Int) (h : MH), LayC h → inR v1 → inR v2 → inR v5 → inR v6 → OK d k_M_comeIn 20 [mR 107, mI v1, mI v2, mL v3, mN, mI v5, mI v6, mN, mN, mN] [] h cV pT (G20 v1 v2 v3 v5 v6 h)) {v1 : Int} {v2 : Int} {v3 : Int64} {v6 : Int} {v7 : Int64} {v9 : Int} {s0 : Int} {s1 : Int} {h : MH} (L : LayC h) (rv1 : inR v1) (rv2 : inR v2) (rv6 : inR v6) (rv9 : inR v9) (rs0 : inR s0) (rs1 : inR s1) : OK d k_M_comeIn 142 [mR 107, mI v1, mI v2, mL v3, mN, mN, mI v6, mL v7, mN, mI v9] [mI s1, mI s0] h cV pT (F_M_comeIn_142 G20 v1 v2 v3 v6 v7 v9 s0 s1 h) := by
  unfold F_M_comeIn_142
  refine z_gd (fun g59 => ?_)
  refine z_go (fun Q hq => x_isub (dA d_M_comeIn 83 rfl) (x_istore (dA d_M_comeIn 84 rfl) (by decide) rfl hq)) ?_
  exact S_M_comeIn_145 hd hG20 L rv1 rv2 g59 rv6 rv9
noncomputable def F_M_comeIn_125 (G20 : Int → Int → Int64 → Int → Int → MH → RS Unit) (v1 : Int) (v2 : Int) (v3 : Int64) (v5 : Int) (v6 : Int) (v9 : Int) (s1 : Int64) (s2 : Int64) (h : MH) : RS Unit := bnd (F_M_joined s1 s2 h) fun x62 h60 => if v5 ≤ 0 then F_M_comeIn_142 G20 v1 v2 v3 v6 x62 v9 v5 (0 : Int) h60 else F_M_comeIn_142 G20 v1 v2 v3 v6 x62 v9 v5 (1 : Int) h60
theorem S_M_comeIn_125 {d : Nat} (hd : 4 ≤ d) {G20 : Int → Int → Int64 → Int → Int → MH → RS Unit} (hG20 : ∀ (v1 : Int) (v2 : Int) (v3 : Int64) (v5 : Int) (v6 : Int) (h : MH), LayC h → inR v1 → inR v2 → inR v5 → inR v6 → OK d k_M_comeIn 20 [mR 107, mI v1, mI v2, mL v3, mN, mI v5, mI v6, mN, mN, mN] [] h cV pT (G20 v1 v2 v3 v5 v6 h)) {v1 : Int} {v2 : Int} {v3 : Int64} {v5 : Int} {v6 : Int} {v9 : Int} {s1 : Int64} {s2 : Int64} {h : MH} (L : LayC h) (rv1 : inR v1) (rv2 : inR v2) (rv5 : inR v5) (rv6 : inR v6) (rv9 : inR v9) : OK d k_M_comeIn 125 [mR 107, mI v1, mI v2, mL v3, mN, mI v5, mI v6, mN, mN, mI v9] [mL s2, mL s1, mR 107] h cV pT (F_M_comeIn_125 G20 v1 v2 v3 v5 v6 v9 s1 s2 h) := by
  unfold F_M_comeIn_125
  refine z_bnd (rest := []) (st1 := fun v => mL v :: []) (S_M_joined (d := 3) (Nat.le_refl _) L ) (fun _ hx => absurd hx List.not_mem_nil) (fun _ => rfl) (fun Q' Q => x_callV (as := [mL s1, mL s2]) (rest := []) (k' := k_M_joined) (dA d_M_comeIn 75 rfl) o_M_joined lk_M_439 im_M_joined se_M_joined rfl (L.sh (x := (12, 66)) rfl) (by decide) (Nat.le_of_ble_eq_true rfl) (Nat.le_trans (Nat.le_of_ble_eq_true rfl) hd) (Nat.le_of_ble_eq_true rfl)) (fun x62 h60 e61 p63 => ?_)
  have L64 := L.ext e61
  refine z_go (fun Q hq => x_lstore (dA d_M_comeIn 76 rfl) (by decide) rfl (x_iload (dA d_M_comeIn 77 rfl) rfl (x_iload (dA d_M_comeIn 78 rfl) rfl hq))) ?_
  refine z_br (fun Q => x_if_le (dA d_M_comeIn 79 rfl) rfl rv5) (fun c65 => ?_) (fun c65 => ?_)
  · refine z_go (fun Q hq => x_iconst (dA d_M_comeIn 82 rfl) hq) ?_
    refine z_fgt (ls' := [mR 107, mI v1, mI v2, mL v3, mN, mN, mI v6, mL x62, mN, mI v9]) ⟨.inr rfl, .inr rfl, .inr rfl, .inr rfl, .inl rfl, .inl rfl, .inr rfl, .inr rfl, .inl rfl, .inr rfl, trivial⟩ ?_
    exact S_M_comeIn_142 hd hG20 L64 rv1 rv2 rv6 rv9 rv5 (inR_lit (0 : Int) rfl)
  · refine z_go (fun Q hq => x_iconst (dA d_M_comeIn 80 rfl) (x_goto (dA d_M_comeIn 81 rfl) rfl hq)) ?_
    refine z_fgt (ls' := [mR 107, mI v1, mI v2, mL v3, mN, mN, mI v6, mL x62, mN, mI v9]) ⟨.inr rfl, .inr rfl, .inr rfl, .inr rfl, .inl rfl, .inl rfl, .inr rfl, .inr rfl, .inl rfl, .inr rfl, trivial⟩ ?_
    exact S_M_comeIn_142 hd hG20 L64 rv1 rv2 rv6 rv9 rv5 (inR_lit (1 : Int) rfl)
noncomputable def F_M_comeIn_93 (G20 : Int → Int → Int64 → Int → Int → MH → RS Unit) (v1 : Int) (v2 : Int) (v3 : Int64) (v5 : Int) (v6 : Int) (v9 : Int) (s1 : Int64) (h : MH) : RS Unit := gd (inR (v6 + (1 : Int))) (gd (0 ≤ v1 ∧ v1 < 8) (if (mGi h 143 v1.toNat) ≤ (v6 + (1 : Int)) then F_M_comeIn_125 G20 v1 v2 v3 v5 v6 v9 s1 v3 h else gd (inR (v2 + v6)) (gd (inR ((v2 + v6) + (1 : Int))) (gd (0 ≤ ((v2 + v6) + (1 : Int)) ∧ ((v2 + v6) + (1 : Int)) < 10400) (F_M_comeIn_125 G20 v1 v2 v3 v5 v6 v9 s1 ((mGl h 138 ((v2 + v6) + (1 : Int)).toNat) &&& (-68719476737 : Int64)) h)))))
theorem S_M_comeIn_93 {d : Nat} (hd : 4 ≤ d) {G20 : Int → Int → Int64 → Int → Int → MH → RS Unit} (hG20 : ∀ (v1 : Int) (v2 : Int) (v3 : Int64) (v5 : Int) (v6 : Int) (h : MH), LayC h → inR v1 → inR v2 → inR v5 → inR v6 → OK d k_M_comeIn 20 [mR 107, mI v1, mI v2, mL v3, mN, mI v5, mI v6, mN, mN, mN] [] h cV pT (G20 v1 v2 v3 v5 v6 h)) {v1 : Int} {v2 : Int} {v3 : Int64} {v5 : Int} {v6 : Int} {v9 : Int} {s1 : Int64} {h : MH} (L : LayC h) (rv1 : inR v1) (rv2 : inR v2) (rv5 : inR v5) (rv6 : inR v6) (rv9 : inR v9) : OK d k_M_comeIn 93 [mR 107, mI v1, mI v2, mL v3, mN, mI v5, mI v6, mN, mN, mI v9] [mL s1, mR 107] h cV pT (F_M_comeIn_93 G20 v1 v2 v3 v5 v6 v9 s1 h) := by
  unfold F_M_comeIn_93
  refine z_go (fun Q hq => x_iload (dA d_M_comeIn 55 rfl) rfl (x_iconst (dA d_M_comeIn 56 rfl) hq)) ?_
  refine z_gd (fun g66 => ?_)
  refine z_go (fun Q hq => x_iadd (dA d_M_comeIn 57 rfl) (x_aload_n (dA d_M_comeIn 58 rfl) rfl rfl (x_getR (dA d_M_comeIn 59 rfl) f_M_118 (L.sh (x := (12, 66)) rfl) (by decide) (by decide) rfl (L.rf 144 rfl) (x_iload_n (dA d_M_comeIn 60 rfl) rfl rfl hq)))) ?_
  refine z_gd (fun g67 => ?_)
  refine z_go (fun Q hq => x_iald (dA d_M_comeIn 61 rfl) (L.sh (x := (100, 8)) rfl) g67.1 g67.2 (by decide) hq) ?_
  refine z_br (fun Q => x_icmp_ge (dA d_M_comeIn 62 rfl) rfl g66 (L.rg _ _)) (fun c68 => ?_) (fun c68 => ?_)
  · refine z_go (fun Q hq => x_lload_n (dA d_M_comeIn 74 rfl) rfl rfl hq) ?_
    exact S_M_comeIn_125 hd hG20 L rv1 rv2 rv5 rv6 rv9
  · refine z_go (fun Q hq => x_aload_n (dA d_M_comeIn 63 rfl) rfl rfl (x_getR (dA d_M_comeIn 64 rfl) f_M_103 (L.sh (x := (12, 66)) rfl) (by decide) (by decide) rfl (L.rf 139 rfl) (x_iload_n (dA d_M_comeIn 65 rfl) rfl rfl (x_iload (dA d_M_comeIn 66 rfl) rfl hq)))) ?_
    refine z_gd (fun g69 => ?_)
    refine z_go (fun Q hq => x_iadd (dA d_M_comeIn 67 rfl) (x_iconst (dA d_M_comeIn 68 rfl) hq)) ?_
    refine z_gd (fun g70 => ?_)
    refine z_go (fun Q hq => x_iadd (dA d_M_comeIn 69 rfl) hq) ?_
    refine z_gd (fun g71 => ?_)
    refine z_go (fun Q hq => x_lald (dA d_M_comeIn 70 rfl) (L.sh (x := (103, 10400)) rfl) g71.1 g71.2 (by decide) (x_ldc2 (dA d_M_comeIn 71 rfl) kl_M_437 (x_land (dA d_M_comeIn 72 rfl) (x_goto (dA d_M_comeIn 73 rfl) rfl hq)))) ?_
    exact S_M_comeIn_125 hd hG20 L rv1 rv2 rv5 rv6 rv9
noncomputable def F_M_comeIn_65 (G20 : Int → Int → Int64 → Int → Int → MH → RS Unit) (v1 : Int) (v2 : Int) (v3 : Int64) (v5 : Int) (v6 : Int) (v7 : Int64) (s0 : Int) (h : MH) : RS Unit := if s0 = 0 then F_M_comeIn_145 G20 v1 v2 v3 v5 v6 v7 s0 h else if v5 ≤ 0 then F_M_comeIn_93 G20 v1 v2 v3 v5 v6 s0 v3 h else gd (inR (v2 + v5)) (gd (inR ((v2 + v5) - (1 : Int))) (gd (0 ≤ ((v2 + v5) - (1 : Int)) ∧ ((v2 + v5) - (1 : Int)) < 10400) (F_M_comeIn_93 G20 v1 v2 v3 v5 v6 s0 (mGl h 138 ((v2 + v5) - (1 : Int)).toNat) h)))
theorem S_M_comeIn_65 {d : Nat} (hd : 4 ≤ d) {G20 : Int → Int → Int64 → Int → Int → MH → RS Unit} (hG20 : ∀ (v1 : Int) (v2 : Int) (v3 : Int64) (v5 : Int) (v6 : Int) (h : MH), LayC h → inR v1 → inR v2 → inR v5 → inR v6 → OK d k_M_comeIn 20 [mR 107, mI v1, mI v2, mL v3, mN, mI v5, mI v6, mN, mN, mN] [] h cV pT (G20 v1 v2 v3 v5 v6 h)) {v1 : Int} {v2 : Int} {v3 : Int64} {v5 : Int} {v6 : Int} {v7 : Int64} {s0 : Int} {h : MH} (L : LayC h) (rv1 : inR v1) (rv2 : inR v2) (rv5 : inR v5) (rv6 : inR v6) (rs0 : inR s0) : OK d k_M_comeIn 65 [mR 107, mI v1, mI v2, mL v3, mN, mI v5, mI v6, mL v7, mN, mN] [mI s0] h cV pT (F_M_comeIn_65 G20 v1 v2 v3 v5 v6 v7 s0 h) := by
  unfold F_M_comeIn_65
  refine z_go (fun Q hq => x_istore (dA d_M_comeIn 39 rfl) (by decide) rfl (x_iload (dA d_M_comeIn 40 rfl) rfl hq)) ?_
  refine z_br (fun Q => x_if_eq (dA d_M_comeIn 41 rfl) rfl rs0) (fun c72 => ?_) (fun c72 => ?_)
  · exact S_M_comeIn_145 hd hG20 L rv1 rv2 rv5 rv6 rs0
  · refine z_go (fun Q hq => x_aload_n (dA d_M_comeIn 42 rfl) rfl rfl (x_iload (dA d_M_comeIn 43 rfl) rfl hq)) ?_
    refine z_br (fun Q => x_if_le (dA d_M_comeIn 44 rfl) rfl rv5) (fun c73 => ?_) (fun c73 => ?_)
    · refine z_go (fun Q hq => x_lload_n (dA d_M_comeIn 54 rfl) rfl rfl hq) ?_
      refine z_fgt (ls' := [mR 107, mI v1, mI v2, mL v3, mN, mI v5, mI v6, mN, mN, mI s0]) ⟨.inr rfl, .inr rfl, .inr rfl, .inr rfl, .inl rfl, .inr rfl, .inr rfl, .inl rfl, .inl rfl, .inr rfl, trivial⟩ ?_
      exact S_M_comeIn_93 hd hG20 L rv1 rv2 rv5 rv6 rs0
    · refine z_go (fun Q hq => x_aload_n (dA d_M_comeIn 45 rfl) rfl rfl (x_getR (dA d_M_comeIn 46 rfl) f_M_103 (L.sh (x := (12, 66)) rfl) (by decide) (by decide) rfl (L.rf 139 rfl) (x_iload_n (dA d_M_comeIn 47 rfl) rfl rfl (x_iload (dA d_M_comeIn 48 rfl) rfl hq)))) ?_
      refine z_gd (fun g74 => ?_)
      refine z_go (fun Q hq => x_iadd (dA d_M_comeIn 49 rfl) (x_iconst (dA d_M_comeIn 50 rfl) hq)) ?_
      refine z_gd (fun g75 => ?_)
      refine z_go (fun Q hq => x_isub (dA d_M_comeIn 51 rfl) hq) ?_
      refine z_gd (fun g76 => ?_)
      refine z_go (fun Q hq => x_lald (dA d_M_comeIn 52 rfl) (L.sh (x := (103, 10400)) rfl) g76.1 g76.2 (by decide) (x_goto (dA d_M_comeIn 53 rfl) rfl hq)) ?_
      refine z_fgt (ls' := [mR 107, mI v1, mI v2, mL v3, mN, mI v5, mI v6, mN, mN, mI s0]) ⟨.inr rfl, .inr rfl, .inr rfl, .inr rfl, .inl rfl, .inr rfl, .inr rfl, .inl rfl, .inl rfl, .inr rfl, trivial⟩ ?_
      exact S_M_comeIn_93 hd hG20 L rv1 rv2 rv5 rv6 rs0
noncomputable def F_M_comeIn_20_b (G20 : Int → Int → Int64 → Int → Int → MH → RS Unit) (v1 : Int) (v2 : Int) (v3 : Int64) (v5 : Int) (v6 : Int) (h : MH) : RS Unit := gd (0 ≤ v1 ∧ v1 < 8) (if (mGi h 143 v1.toNat) ≤ v6 then F_M_comeIn_180 v1 v2 v5 h else if (mGi h 107 1) = 0 then gd (inR (v2 + v6)) (gd (0 ≤ (v2 + v6) ∧ (v2 + v6) < 10400) (if (lgI ((mGl h 138 (v2 + v6).toNat) &&& (68719476736 : Int64)) (0 : Int64)) = 0 then F_M_comeIn_65 G20 v1 v2 v3 v5 v6 (mGl h 138 (v2 + v6).toNat) (0 : Int) h else F_M_comeIn_65 G20 v1 v2 v3 v5 v6 (mGl h 138 (v2 + v6).toNat) (1 : Int) h)) else F_M_comeIn_180 v1 v2 v5 h)
theorem S_M_comeIn_20_b {d : Nat} (hd : 4 ≤ d) {G20 : Int → Int → Int64 → Int → Int → MH → RS Unit} (hG20 : ∀ (v1 : Int) (v2 : Int) (v3 : Int64) (v5 : Int) (v6 : Int) (h : MH), LayC h → inR v1 → inR v2 → inR v5 → inR v6 → OK d k_M_comeIn 20 [mR 107, mI v1, mI v2, mL v3, mN, mI v5, mI v6, mN, mN, mN] [] h cV pT (G20 v1 v2 v3 v5 v6 h)) {v1 : Int} {v2 : Int} {v3 : Int64} {v5 : Int} {v6 : Int} {h : MH} (L : LayC h) (rv1 : inR v1) (rv2 : inR v2) (rv5 : inR v5) (rv6 : inR v6) : OK d k_M_comeIn 20 [mR 107, mI v1, mI v2, mL v3, mN, mI v5, mI v6, mN, mN, mN] [] h cV pT (F_M_comeIn_20_b G20 v1 v2 v3 v5 v6 h) := by
  unfold F_M_comeIn_20_b
  refine z_go (fun Q hq => x_iload (dA d_M_comeIn 14 rfl) rfl (x_aload_n (dA d_M_comeIn 15 rfl) rfl rfl (x_getR (dA d_M_comeIn 16 rfl) f_M_118 (L.sh (x := (12, 66)) rfl) (by decide) (by decide) rfl (L.rf 144 rfl) (x_iload_n (dA d_M_comeIn 17 rfl) rfl rfl hq)))) ?_
  refine z_gd (fun g77 => ?_)
  refine z_go (fun Q hq => x_iald (dA d_M_comeIn 18 rfl) (L.sh (x := (100, 8)) rfl) g77.1 g77.2 (by decide) hq) ?_
  refine z_br (fun Q => x_icmp_ge (dA d_M_comeIn 19 rfl) rfl rv6 (L.rg _ _)) (fun c78 => ?_) (fun c78 => ?_)
  · refine z_fgt (ls' := [mR 107, mI v1, mI v2, mN, mN, mI v5, mN, mN, mN, mN]) ⟨.inr rfl, .inr rfl, .inr rfl, .inl rfl, .inl rfl, .inr rfl, .inl rfl, .inl rfl, .inl rfl, .inl rfl, trivial⟩ ?_
    exact S_M_comeIn_180 hd  L rv1 rv2 rv5
  · refine z_go (fun Q hq => x_aload_n (dA d_M_comeIn 20 rfl) rfl rfl (x_getI (dA d_M_comeIn 21 rfl) f_M_140 (L.sh (x := (12, 66)) rfl) (by decide) (by decide) rfl hq)) ?_
    refine z_brn (fun Q => x_if_ne (dA d_M_comeIn 22 rfl) rfl (L.rg _ _)) (fun c79 => ?_) (fun c79 => ?_)
    · refine z_go (fun Q hq => x_aload_n (dA d_M_comeIn 23 rfl) rfl rfl (x_getR (dA d_M_comeIn 24 rfl) f_M_103 (L.sh (x := (12, 66)) rfl) (by decide) (by decide) rfl (L.rf 139 rfl) (x_iload_n (dA d_M_comeIn 25 rfl) rfl rfl (x_iload (dA d_M_comeIn 26 rfl) rfl hq)))) ?_
      refine z_gd (fun g80 => ?_)
      refine z_go (fun Q hq => x_iadd (dA d_M_comeIn 27 rfl) hq) ?_
      refine z_gd (fun g81 => ?_)
      refine z_go (fun Q hq => x_lald (dA d_M_comeIn 28 rfl) (L.sh (x := (103, 10400)) rfl) g81.1 g81.2 (by decide) (x_lstore (dA d_M_comeIn 29 rfl) (by decide) rfl (x_lload (dA d_M_comeIn 30 rfl) rfl (x_ldc2 (dA d_M_comeIn 31 rfl) kl_M_414 (x_land (dA d_M_comeIn 32 rfl) (x_lconst (v := 0) (dA d_M_comeIn 33 rfl) rfl (x_lcmp (dA d_M_comeIn 34 rfl) hq))))))) ?_
      refine z_br (fun Q => x_if_eq (dA d_M_comeIn 35 rfl) rfl (inR_lgI _ _)) (fun c82 => ?_) (fun c82 => ?_)
      · refine z_go (fun Q hq => x_iconst (dA d_M_comeIn 38 rfl) hq) ?_
        exact S_M_comeIn_65 hd hG20 L rv1 rv2 rv5 rv6 (inR_lit (0 : Int) rfl)
      · refine z_go (fun Q hq => x_iconst (dA d_M_comeIn 36 rfl) (x_goto (dA d_M_comeIn 37 rfl) rfl hq)) ?_
        exact S_M_comeIn_65 hd hG20 L rv1 rv2 rv5 rv6 (inR_lit (1 : Int) rfl)
    · refine z_fgt (ls' := [mR 107, mI v1, mI v2, mN, mN, mI v5, mN, mN, mN, mN]) ⟨.inr rfl, .inr rfl, .inr rfl, .inl rfl, .inl rfl, .inr rfl, .inl rfl, .inl rfl, .inl rfl, .inl rfl, trivial⟩ ?_
      exact S_M_comeIn_180 hd  L rv1 rv2 rv5
noncomputable def F_M_comeIn_20 (v1 : Int) (v2 : Int) (v3 : Int64) (v5 : Int) (v6 : Int) (h : MH) : RS Unit := itr (fun self (q : Int × Int × Int64 × Int × Int × MH) => F_M_comeIn_20_b (fun v1 v2 v3 v5 v6 h => self (v1, v2, v3, v5, v6, h)) q.1 q.2.1 q.2.2.1 q.2.2.2.1 q.2.2.2.2.1 q.2.2.2.2.2) FU (v1, v2, v3, v5, v6, h)
theorem S_M_comeIn_20 {d : Nat} (hd : 4 ≤ d) {v1 : Int} {v2 : Int} {v3 : Int64} {v5 : Int} {v6 : Int} {h : MH} (L : LayC h) (rv1 : inR v1) (rv2 : inR v2) (rv5 : inR v5) (rv6 : inR v6) : OK d k_M_comeIn 20 [mR 107, mI v1, mI v2, mL v3, mN, mI v5, mI v6, mN, mN, mN] [] h cV pT (F_M_comeIn_20  v1 v2 v3 v5 v6 h) := by
  unfold F_M_comeIn_20
  refine z_itr (P := fun q : Int × Int × Int64 × Int × Int × MH => LayC q.2.2.2.2.2 ∧ inR q.1 ∧ inR q.2.1 ∧ inR q.2.2.2.1 ∧ inR q.2.2.2.2.1 ∧ True) (ls := fun q : Int × Int × Int64 × Int × Int × MH => [mR 107, mI q.1, mI q.2.1, mL q.2.2.1, mN, mI q.2.2.2.1, mI q.2.2.2.2.1, mN, mN, mN]) (hp := fun q : Int × Int × Int64 × Int × Int × MH => q.2.2.2.2.2) (fun self hs q hq => ?_) FU (v1, v2, v3, v5, v6, h) ⟨L, rv1, rv2, rv5, rv6, trivial⟩
  exact S_M_comeIn_20_b hd (fun v1 v2 v3 v5 v6 h L rv1 rv2 rv5 rv6 => hs (v1, v2, v3, v5, v6, h) ⟨L, rv1, rv2, rv5, rv6, trivial⟩) hq.1 hq.2.1 hq.2.2.1 hq.2.2.2.1 hq.2.2.2.2.1
noncomputable def F_M_comeIn (a1 : Int) (h : MH) : RS Unit := gd (inR ((1300 : Int) * a1)) (bnd (F_M_token (0 : Int) (0 : Int) (5 : Int) (0 : Int) h) fun x86 h84 => F_M_comeIn_20 a1 ((1300 : Int) * a1) x86 (0 : Int) (0 : Int) h84)
theorem S_M_comeIn {d : Nat} (hd : 4 ≤ d) {a1 : Int} {h : MH} (L : LayC h) (ra1 : inR a1) : OK d k_M_comeIn 0 [mR 107, mI a1, mN, mN, mN, mN, mN, mN, mN, mN] [] h cV pT (F_M_comeIn  a1 h) := by
  unfold F_M_comeIn
  refine z_go (fun Q hq => x_sipush (dA d_M_comeIn 0 rfl) (by decide) (x_iload_n (dA d_M_comeIn 1 rfl) rfl rfl hq)) ?_
  refine z_gd (fun g83 => ?_)
  refine z_go (fun Q hq => x_imul (dA d_M_comeIn 2 rfl) (x_istore_n (dA d_M_comeIn 3 rfl) rfl (by decide) rfl (x_iconst (dA d_M_comeIn 4 rfl) (x_iconst (dA d_M_comeIn 5 rfl) (x_iconst (dA d_M_comeIn 6 rfl) (x_iconst (dA d_M_comeIn 7 rfl) hq)))))) ?_
  refine z_bnd (rest := []) (st1 := fun v => mL v :: []) (S_M_token (d := 0) (Nat.le_refl _) L (inR_lit (0 : Int) rfl) (inR_lit (0 : Int) rfl) (inR_lit (5 : Int) rfl) (inR_lit (0 : Int) rfl)) (fun _ hx => absurd hx List.not_mem_nil) (fun _ => rfl) (fun Q' Q => x_callS (as := [mI (0 : Int), mI (0 : Int), mI (5 : Int), mI (0 : Int)]) (rest := []) (k' := k_M_token) (dA d_M_comeIn 8 rfl) o_M_token lk_M_346 st_M_token (Nat.le_of_ble_eq_true rfl) (Nat.le_trans (Nat.le_of_ble_eq_true rfl) hd) (Nat.le_of_ble_eq_true rfl)) (fun x86 h84 e85 p87 => ?_)
  have L88 := L.ext e85
  refine z_go (fun Q hq => x_lstore_n (dA d_M_comeIn 9 rfl) rfl (by decide) rfl (x_iconst (dA d_M_comeIn 10 rfl) (x_istore (dA d_M_comeIn 11 rfl) (by decide) rfl (x_iconst (dA d_M_comeIn 12 rfl) (x_istore (dA d_M_comeIn 13 rfl) (by decide) rfl hq))))) ?_
  exact S_M_comeIn_20 hd  L88 ra1 g83 (inR_lit (0 : Int) rfl) (inR_lit (0 : Int) rfl)
/-! TwoMillsModel.append(IJ)V -/
noncomputable def F_M_append (a1 : Int) (a2 : Int64) (h : MH) : RS Unit := gd (inR ((1300 : Int) * a1)) (gd (0 ≤ a1 ∧ a1 < 8) (gd (inR (((1300 : Int) * a1) + (mGi h 143 a1.toNat))) (gd (0 ≤ (((1300 : Int) * a1) + (mGi h 143 a1.toNat)) ∧ (((1300 : Int) * a1) + (mGi h 143 a1.toNat)) < 10400) (sto (mPl h 138 (((1300 : Int) * a1) + (mGi h 143 a1.toNat)).toNat a2) fun h5 => gd (inR ((mGi h5 143 a1.toNat) + (1 : Int))) (sto (mPi h5 143 a1.toNat ((mGi h5 143 a1.toNat) + (1 : Int))) fun h9 => some (.inl (), h9))))))
theorem S_M_append {d : Nat} (hd : 0 ≤ d) {a1 : Int} {a2 : Int64} {h : MH} (L : LayC h) (ra1 : inR a1) : OK d k_M_append 0 [mR 107, mI a1, mL a2, mN] [] h cV pT (F_M_append  a1 a2 h) := by
  unfold F_M_append
  refine z_go (fun Q hq => x_aload_n (dA d_M_append 0 rfl) rfl rfl (x_getR (dA d_M_append 1 rfl) f_M_103 (L.sh (x := (12, 66)) rfl) (by decide) (by decide) rfl (L.rf 139 rfl) (x_sipush (dA d_M_append 2 rfl) (by decide) (x_iload_n (dA d_M_append 3 rfl) rfl rfl hq)))) ?_
  refine z_gd (fun g1 => ?_)
  refine z_go (fun Q hq => x_imul (dA d_M_append 4 rfl) (x_aload_n (dA d_M_append 5 rfl) rfl rfl (x_getR (dA d_M_append 6 rfl) f_M_118 (L.sh (x := (12, 66)) rfl) (by decide) (by decide) rfl (L.rf 144 rfl) (x_iload_n (dA d_M_append 7 rfl) rfl rfl hq)))) ?_
  refine z_gd (fun g2 => ?_)
  refine z_go (fun Q hq => x_iald (dA d_M_append 8 rfl) (L.sh (x := (100, 8)) rfl) g2.1 g2.2 (by decide) hq) ?_
  refine z_gd (fun g3 => ?_)
  refine z_go (fun Q hq => x_iadd (dA d_M_append 9 rfl) (x_lload_n (dA d_M_append 10 rfl) rfl rfl hq)) ?_
  refine z_gd (fun g4 => ?_)
  refine z_sto Ext.pl (fun Q hq => x_last (dA d_M_append 11 rfl) (L.sh (x := (103, 10400)) rfl) g4.1 g4.2 (by decide) hq) (fun h5 e6 => ?_)
  have L7 := L.ext e6
  refine z_go (fun Q hq => x_aload_n (dA d_M_append 12 rfl) rfl rfl (x_getR (dA d_M_append 13 rfl) f_M_118 (L7.sh (x := (12, 66)) rfl) (by decide) (by decide) rfl (L7.rf 144 rfl) (x_iload_n (dA d_M_append 14 rfl) rfl rfl (x_dup2 (dA d_M_append 15 rfl) rfl rfl (x_iald (dA d_M_append 16 rfl) (L7.sh (x := (100, 8)) rfl) g2.1 g2.2 (by decide) (x_iconst (dA d_M_append 17 rfl) hq)))))) ?_
  refine z_gd (fun g8 => ?_)
  refine z_go (fun Q hq => x_iadd (dA d_M_append 18 rfl) hq) ?_
  refine z_sto (Ext.pi (L7.sh (x := (100, 8)) rfl) (by decide) g8) (fun Q hq => x_iast (dA d_M_append 19 rfl) (L7.sh (x := (100, 8)) rfl) g2.1 g2.2 (by decide) hq) (fun h9 e10 => ?_)
  have L11 := L7.ext e10
  exact z_retv (dA d_M_append 20 rfl) rfl
/-! TwoMillsModel.replace(IIII)V -/
noncomputable def F_M_replace_16 (v1 : Int) (v2 : Int) (v3 : Int) (v4 : Int) (s1 : Int) (h : MH) : RS Unit := gd (p01 s1) (bnd (F_M_need s1 (2 : Int) h) fun x4 h2 => if x4 = 0 then some (.inl (), h2) else gd (inR ((mGi h2 107 28) + (1 : Int))) (sto (mPi h2 107 28 ((mGi h2 107 28) + (1 : Int))) fun h9 => gd (0 ≤ v1 ∧ v1 < 8) (sto (mPi h9 140 v1.toNat v3) fun h13 => sto (mPi h13 144 v1.toNat v2) fun h16 => sto (mPi h16 145 v1.toNat (0 : Int)) fun h19 => sto (mPi h19 143 v1.toNat (0 : Int)) fun h22 => sto (mPi h22 146 v1.toNat (iOr v4 (iShl (1 : Int) v2))) fun h25 => some (.inl (), h25))))
theorem S_M_replace_16 {d : Nat} (hd : 2 ≤ d) {v1 : Int} {v2 : Int} {v3 : Int} {v4 : Int} {s1 : Int} {h : MH} (L : LayC h) (rv1 : inR v1) (rv2 : inR v2) (rv3 : inR v3) (rv4 : inR v4) (rs1 : inR s1) : OK d k_M_replace 16 [mR 107, mI v1, mI v2, mI v3, mI v4] [mI s1, mR 107] h cV pT (F_M_replace_16  v1 v2 v3 v4 s1 h) := by
  unfold F_M_replace_16
  refine z_go (fun Q hq => x_iconst (dA d_M_replace 8 rfl) hq) ?_
  refine z_gd (fun g1 => ?_)
  refine z_bnd (rest := []) (st1 := fun v => mI v :: []) (S_M_need (d := 1) (Nat.le_refl _) L g1 (inR_lit (2 : Int) rfl)) (fun _ hx => absurd hx List.not_mem_nil) (fun _ => rfl) (fun Q' Q => x_callV (as := [mI s1, mI (2 : Int)]) (rest := []) (k' := k_M_need) (dA d_M_replace 9 rfl) o_M_need lk_M_181 im_M_need se_M_need rfl (L.sh (x := (12, 66)) rfl) (by decide) (Nat.le_of_ble_eq_true rfl) (Nat.le_trans (Nat.le_of_ble_eq_true rfl) hd) (Nat.le_of_ble_eq_true rfl)) (fun x4 h2 e3 p5 => ?_)
  have L6 := L.ext e3
  refine z_brn (fun Q => x_if_ne (dA d_M_replace 10 rfl) rfl p5.inR) (fun c7 => ?_) (fun c7 => ?_)
  · exact z_retv (dA d_M_replace 11 rfl) rfl
  · refine z_go (fun Q hq => x_aload_n (dA d_M_replace 12 rfl) rfl rfl (x_dup (dA d_M_replace 13 rfl) rfl (x_getI (dA d_M_replace 14 rfl) f_M_408 (L6.sh (x := (12, 66)) rfl) (by decide) (by decide) rfl (x_iconst (dA d_M_replace 15 rfl) hq)))) ?_
    refine z_gd (fun g8 => ?_)
    refine z_go (fun Q hq => x_iadd (dA d_M_replace 16 rfl) hq) ?_
    refine z_sto (Ext.pi (L6.sh (x := (12, 66)) rfl) (by decide) g8) (fun Q hq => x_putI (dA d_M_replace 17 rfl) p_M_408 (L6.sh (x := (12, 66)) rfl) (by decide) cl_M rfl hq) (fun h9 e10 => ?_)
    have L11 := L6.ext e10
    refine z_go (fun Q hq => x_aload_n (dA d_M_replace 18 rfl) rfl rfl (x_getR (dA d_M_replace 19 rfl) f_M_109 (L11.sh (x := (12, 66)) rfl) (by decide) (by decide) rfl (L11.rf 141 rfl) (x_iload_n (dA d_M_replace 20 rfl) rfl rfl (x_iload_n (dA d_M_replace 21 rfl) rfl rfl hq)))) ?_
    refine z_gd (fun g12 => ?_)
    refine z_sto (Ext.pi (L11.sh (x := (100, 8)) rfl) (by decide) rv3) (fun Q hq => x_iast (dA d_M_replace 22 rfl) (L11.sh (x := (100, 8)) rfl) g12.1 g12.2 (by decide) hq) (fun h13 e14 => ?_)
    have L15 := L11.ext e14
    refine z_go (fun Q hq => x_aload_n (dA d_M_replace 23 rfl) rfl rfl (x_getR (dA d_M_replace 24 rfl) f_M_121 (L15.sh (x := (12, 66)) rfl) (by decide) (by decide) rfl (L15.rf 145 rfl) (x_iload_n (dA d_M_replace 25 rfl) rfl rfl (x_iload_n (dA d_M_replace 26 rfl) rfl rfl hq)))) ?_
    refine z_sto (Ext.pi (L15.sh (x := (100, 8)) rfl) (by decide) rv2) (fun Q hq => x_iast (dA d_M_replace 27 rfl) (L15.sh (x := (100, 8)) rfl) g12.1 g12.2 (by decide) hq) (fun h16 e17 => ?_)
    have L18 := L15.ext e17
    refine z_go (fun Q hq => x_aload_n (dA d_M_replace 28 rfl) rfl rfl (x_getR (dA d_M_replace 29 rfl) f_M_124 (L18.sh (x := (12, 66)) rfl) (by decide) (by decide) rfl (L18.rf 146 rfl) (x_iload_n (dA d_M_replace 30 rfl) rfl rfl (x_iconst (dA d_M_replace 31 rfl) hq)))) ?_
    refine z_sto (Ext.pi (L18.sh (x := (100, 8)) rfl) (by decide) (inR_lit (0 : Int) rfl)) (fun Q hq => x_iast (dA d_M_replace 32 rfl) (L18.sh (x := (100, 8)) rfl) g12.1 g12.2 (by decide) hq) (fun h19 e20 => ?_)
    have L21 := L18.ext e20
    refine z_go (fun Q hq => x_aload_n (dA d_M_replace 33 rfl) rfl rfl (x_getR (dA d_M_replace 34 rfl) f_M_118 (L21.sh (x := (12, 66)) rfl) (by decide) (by decide) rfl (L21.rf 144 rfl) (x_iload_n (dA d_M_replace 35 rfl) rfl rfl (x_iconst (dA d_M_replace 36 rfl) hq)))) ?_
    refine z_sto (Ext.pi (L21.sh (x := (100, 8)) rfl) (by decide) (inR_lit (0 : Int) rfl)) (fun Q hq => x_iast (dA d_M_replace 37 rfl) (L21.sh (x := (100, 8)) rfl) g12.1 g12.2 (by decide) hq) (fun h22 e23 => ?_)
    have L24 := L21.ext e23
    refine z_go (fun Q hq => x_aload_n (dA d_M_replace 38 rfl) rfl rfl (x_getR (dA d_M_replace 39 rfl) f_M_127 (L24.sh (x := (12, 66)) rfl) (by decide) (by decide) rfl (L24.rf 147 rfl) (x_iload_n (dA d_M_replace 40 rfl) rfl rfl (x_iload (dA d_M_replace 41 rfl) rfl (x_iconst (dA d_M_replace 42 rfl) (x_iload_n (dA d_M_replace 43 rfl) rfl rfl (x_shlI (dA d_M_replace 44 rfl) (x_orI (dA d_M_replace 45 rfl) hq)))))))) ?_
    refine z_sto (Ext.pi (L24.sh (x := (100, 8)) rfl) (by decide) (inR_or _ _)) (fun Q hq => x_iast (dA d_M_replace 46 rfl) (L24.sh (x := (100, 8)) rfl) g12.1 g12.2 (by decide) hq) (fun h25 e26 => ?_)
    have L27 := L24.ext e26
    exact z_retv (dA d_M_replace 47 rfl) rfl
noncomputable def F_M_replace (a1 : Int) (a2 : Int) (a3 : Int) (a4 : Int) (h : MH) : RS Unit := if (400 : Int) ≤ (mGi h 107 28) then F_M_replace_16 a1 a2 a3 a4 (0 : Int) h else F_M_replace_16 a1 a2 a3 a4 (1 : Int) h
theorem S_M_replace {d : Nat} (hd : 2 ≤ d) {a1 : Int} {a2 : Int} {a3 : Int} {a4 : Int} {h : MH} (L : LayC h) (ra1 : inR a1) (ra2 : inR a2) (ra3 : inR a3) (ra4 : inR a4) : OK d k_M_replace 0 [mR 107, mI a1, mI a2, mI a3, mI a4] [] h cV pT (F_M_replace  a1 a2 a3 a4 h) := by
  unfold F_M_replace
  refine z_go (fun Q hq => x_aload_n (dA d_M_replace 0 rfl) rfl rfl (x_aload_n (dA d_M_replace 1 rfl) rfl rfl (x_getI (dA d_M_replace 2 rfl) f_M_408 (L.sh (x := (12, 66)) rfl) (by decide) (by decide) rfl (x_sipush (dA d_M_replace 3 rfl) (by decide) hq)))) ?_
  refine z_br (fun Q => x_icmp_ge (dA d_M_replace 4 rfl) rfl (L.rg _ _) (inR_lit (400 : Int) rfl)) (fun c28 => ?_) (fun c28 => ?_)
  · refine z_go (fun Q hq => x_iconst (dA d_M_replace 7 rfl) hq) ?_
    exact S_M_replace_16 hd  L ra1 ra2 ra3 ra4 (inR_lit (0 : Int) rfl)
  · refine z_go (fun Q hq => x_iconst (dA d_M_replace 5 rfl) (x_goto (dA d_M_replace 6 rfl) rfl hq)) ?_
    exact S_M_replace_16 hd  L ra1 ra2 ra3 ra4 (inR_lit (1 : Int) rfl)
end Fns
