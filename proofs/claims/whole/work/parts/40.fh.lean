section Fns
/-! TwoMillsModel.collect(I)V -/
noncomputable def F_M_collect_15 (v1 : Int) (s1 : Int) (h : MH) : RS Unit := gd (p01 s1) (bnd (F_M_need s1 (1 : Int) h) fun x4 h2 => if x4 = 0 then some (.inl (), h2) else gd (0 ≤ (mGi h2 107 7) ∧ (mGi h2 107 7) < 6) (sto (mPi h2 117 (mGi h2 107 7).toNat v1) fun h9 => gd (0 ≤ (mGi h9 107 7) ∧ (mGi h9 107 7) < 6) (sto (mPi h9 118 (mGi h9 107 7).toNat (1 : Int)) fun h13 => gd (inR ((6 : Int) * (mGi h13 107 7))) (gd (0 ≤ ((6 : Int) * (mGi h13 107 7)) ∧ ((6 : Int) * (mGi h13 107 7)) < 36) (sto (mPi h13 119 ((6 : Int) * (mGi h13 107 7)).toNat (mGi h13 107 8)) fun h18 => gd (0 ≤ (mGi h18 107 7) ∧ (mGi h18 107 7) < 6) (sto (mPi h18 120 (mGi h18 107 7).toNat (0 : Int)) fun h22 => gd (inR ((mGi h22 107 7) + (1 : Int))) (sto (mPi h22 107 7 ((mGi h22 107 7) + (1 : Int))) fun h26 => some (.inl (), h26))))))))
theorem S_M_collect_15 {d : Nat} (hd : 2 ≤ d) {v1 : Int} {s1 : Int} {h : MH} (L : LayC h) (rv1 : inR v1) (rs1 : inR s1) : OK d k_M_collect 15 [mR 107, mI v1] [mI s1, mR 107] h cV pT (F_M_collect_15  v1 s1 h) := by
  unfold F_M_collect_15
  refine z_go (fun Q hq => x_iconst (dA d_M_collect 8 rfl) hq) ?_
  refine z_gd (fun g1 => ?_)
  refine z_bnd (rest := []) (st1 := fun v => mI v :: []) (S_M_need (d := 1) (Nat.le_refl _) L g1 (inR_lit (1 : Int) rfl)) (fun _ hx => absurd hx List.not_mem_nil) (fun _ => rfl) (fun Q' Q => x_callV (as := [mI s1, mI (1 : Int)]) (rest := []) (k' := k_M_need) (dA d_M_collect 9 rfl) o_M_need lk_M_181 im_M_need se_M_need rfl (L.sh (x := (12, 66)) rfl) (by decide) (Nat.le_of_ble_eq_true rfl) (Nat.le_trans (Nat.le_of_ble_eq_true rfl) hd) (Nat.le_of_ble_eq_true rfl)) (fun x4 h2 e3 p5 => ?_)
  have L6 := L.ext e3
  refine z_brn (fun Q => x_if_ne (dA d_M_collect 10 rfl) rfl p5.inR) (fun c7 => ?_) (fun c7 => ?_)
  · exact z_retv (dA d_M_collect 11 rfl) rfl
  · refine z_go (fun Q hq => x_aload_n (dA d_M_collect 12 rfl) rfl rfl (x_getR (dA d_M_collect 13 rfl) f_M_39 (L6.sh (x := (12, 66)) rfl) (by decide) (by decide) rfl (L6.rf 118 rfl) (x_aload_n (dA d_M_collect 14 rfl) rfl rfl (x_getI (dA d_M_collect 15 rfl) f_M_172 (L6.sh (x := (12, 66)) rfl) (by decide) (by decide) rfl (x_iload_n (dA d_M_collect 16 rfl) rfl rfl hq))))) ?_
    refine z_gd (fun g8 => ?_)
    refine z_sto (Ext.pi (L6.sh (x := (100, 6)) rfl) (by decide) rv1) (fun Q hq => x_iast (dA d_M_collect 17 rfl) (L6.sh (x := (100, 6)) rfl) g8.1 g8.2 (by decide) hq) (fun h9 e10 => ?_)
    have L11 := L6.ext e10
    refine z_go (fun Q hq => x_aload_n (dA d_M_collect 18 rfl) rfl rfl (x_getR (dA d_M_collect 19 rfl) f_M_42 (L11.sh (x := (12, 66)) rfl) (by decide) (by decide) rfl (L11.rf 119 rfl) (x_aload_n (dA d_M_collect 20 rfl) rfl rfl (x_getI (dA d_M_collect 21 rfl) f_M_172 (L11.sh (x := (12, 66)) rfl) (by decide) (by decide) rfl (x_iconst (dA d_M_collect 22 rfl) hq))))) ?_
    refine z_gd (fun g12 => ?_)
    refine z_sto (Ext.pi (L11.sh (x := (100, 6)) rfl) (by decide) (inR_lit (1 : Int) rfl)) (fun Q hq => x_iast (dA d_M_collect 23 rfl) (L11.sh (x := (100, 6)) rfl) g12.1 g12.2 (by decide) hq) (fun h13 e14 => ?_)
    have L15 := L11.ext e14
    refine z_go (fun Q hq => x_aload_n (dA d_M_collect 24 rfl) rfl rfl (x_getR (dA d_M_collect 25 rfl) f_M_45 (L15.sh (x := (12, 66)) rfl) (by decide) (by decide) rfl (L15.rf 120 rfl) (x_bipush (dA d_M_collect 26 rfl) (by decide) (x_aload_n (dA d_M_collect 27 rfl) rfl rfl (x_getI (dA d_M_collect 28 rfl) f_M_172 (L15.sh (x := (12, 66)) rfl) (by decide) (by decide) rfl hq))))) ?_
    refine z_gd (fun g16 => ?_)
    refine z_go (fun Q hq => x_imul (dA d_M_collect 29 rfl) (x_aload_n (dA d_M_collect 30 rfl) rfl rfl (x_getI (dA d_M_collect 31 rfl) f_M_175 (L15.sh (x := (12, 66)) rfl) (by decide) (by decide) rfl hq))) ?_
    refine z_gd (fun g17 => ?_)
    refine z_sto (Ext.pi (L15.sh (x := (100, 36)) rfl) (by decide) (L15.rg _ _)) (fun Q hq => x_iast (dA d_M_collect 32 rfl) (L15.sh (x := (100, 36)) rfl) g17.1 g17.2 (by decide) hq) (fun h18 e19 => ?_)
    have L20 := L15.ext e19
    refine z_go (fun Q hq => x_aload_n (dA d_M_collect 33 rfl) rfl rfl (x_getR (dA d_M_collect 34 rfl) f_M_48 (L20.sh (x := (12, 66)) rfl) (by decide) (by decide) rfl (L20.rf 121 rfl) (x_aload_n (dA d_M_collect 35 rfl) rfl rfl (x_getI (dA d_M_collect 36 rfl) f_M_172 (L20.sh (x := (12, 66)) rfl) (by decide) (by decide) rfl (x_iconst (dA d_M_collect 37 rfl) hq))))) ?_
    refine z_gd (fun g21 => ?_)
    refine z_sto (Ext.pi (L20.sh (x := (100, 6)) rfl) (by decide) (inR_lit (0 : Int) rfl)) (fun Q hq => x_iast (dA d_M_collect 38 rfl) (L20.sh (x := (100, 6)) rfl) g21.1 g21.2 (by decide) hq) (fun h22 e23 => ?_)
    have L24 := L20.ext e23
    refine z_go (fun Q hq => x_aload_n (dA d_M_collect 39 rfl) rfl rfl (x_dup (dA d_M_collect 40 rfl) rfl (x_getI (dA d_M_collect 41 rfl) f_M_172 (L24.sh (x := (12, 66)) rfl) (by decide) (by decide) rfl (x_iconst (dA d_M_collect 42 rfl) hq)))) ?_
    refine z_gd (fun g25 => ?_)
    refine z_go (fun Q hq => x_iadd (dA d_M_collect 43 rfl) hq) ?_
    refine z_sto (Ext.pi (L24.sh (x := (12, 66)) rfl) (by decide) g25) (fun Q hq => x_putI (dA d_M_collect 44 rfl) p_M_172 (L24.sh (x := (12, 66)) rfl) (by decide) cl_M rfl hq) (fun h26 e27 => ?_)
    have L28 := L24.ext e27
    exact z_retv (dA d_M_collect 45 rfl) rfl
noncomputable def F_M_collect (a1 : Int) (h : MH) : RS Unit := if (6 : Int) ≤ (mGi h 107 7) then F_M_collect_15 a1 (0 : Int) h else F_M_collect_15 a1 (1 : Int) h
theorem S_M_collect {d : Nat} (hd : 2 ≤ d) {a1 : Int} {h : MH} (L : LayC h) (ra1 : inR a1) : OK d k_M_collect 0 [mR 107, mI a1] [] h cV pT (F_M_collect  a1 h) := by
  unfold F_M_collect
  refine z_go (fun Q hq => x_aload_n (dA d_M_collect 0 rfl) rfl rfl (x_aload_n (dA d_M_collect 1 rfl) rfl rfl (x_getI (dA d_M_collect 2 rfl) f_M_172 (L.sh (x := (12, 66)) rfl) (by decide) (by decide) rfl (x_bipush (dA d_M_collect 3 rfl) (by decide) hq)))) ?_
  refine z_br (fun Q => x_icmp_ge (dA d_M_collect 4 rfl) rfl (L.rg _ _) (inR_lit (6 : Int) rfl)) (fun c29 => ?_) (fun c29 => ?_)
  · refine z_go (fun Q hq => x_iconst (dA d_M_collect 7 rfl) hq) ?_
    exact S_M_collect_15 hd  L ra1 (inR_lit (0 : Int) rfl)
  · refine z_go (fun Q hq => x_iconst (dA d_M_collect 5 rfl) (x_goto (dA d_M_collect 6 rfl) rfl hq)) ?_
    exact S_M_collect_15 hd  L ra1 (inR_lit (1 : Int) rfl)
/-! TwoMillsModel.word()V -/
noncomputable def F_M_word_280 (v7 : Int) (v8 : Int) (h : MH) : RS Unit := if v7 = 0 then some (.inl (), h) else bnd (F_M_call v8 (-1 : Int) h) fun x4 h2 => some (.inl (), h2)
theorem S_M_word_280 {d : Nat} (hd : 6 ≤ d) {v7 : Int} {v8 : Int} {h : MH} (L : LayC h) (rv7 : inR v7) (rv8 : inR v8) : OK d k_M_word 280 [mR 107, mN, mN, mN, mN, mN, mN, mI v7, mI v8] [] h cV pT (F_M_word_280  v7 v8 h) := by
  unfold F_M_word_280
  refine z_go (fun Q hq => x_iload (dA d_M_word 149 rfl) rfl hq) ?_
  refine z_br (fun Q => x_if_eq (dA d_M_word 150 rfl) rfl rv7) (fun c1 => ?_) (fun c1 => ?_)
  · exact z_retv (dA d_M_word 155 rfl) rfl
  · refine z_go (fun Q hq => x_aload_n (dA d_M_word 151 rfl) rfl rfl (x_iload (dA d_M_word 152 rfl) rfl (x_iconst (dA d_M_word 153 rfl) hq))) ?_
    refine z_bnd (rest := []) (st1 := fun _ => []) (S_M_call (d := 5) (Nat.le_refl _) L rv8 (inR_lit (-1 : Int) rfl)) (fun _ hx => absurd hx List.not_mem_nil) (fun _ => rfl) (fun Q' Q => x_callV (as := [mI v8, mI (-1 : Int)]) (rest := []) (k' := k_M_call) (dA d_M_word 154 rfl) o_M_call lk_M_289 im_M_call se_M_call rfl (L.sh (x := (12, 66)) rfl) (by decide) (Nat.le_of_ble_eq_true rfl) (Nat.le_trans (Nat.le_of_ble_eq_true rfl) hd) (Nat.le_of_ble_eq_true rfl)) (fun x4 h2 e3 p5 => ?_)
    have L6 := L.ext e3
    exact z_retv (dA d_M_word 155 rfl) rfl
noncomputable def F_M_word_259 (v6 : Int) (v7 : Int) (s0 : Int) (h : MH) : RS Unit := if v7 = 0 then F_M_word_280 v7 s0 h else if v6 = 0 then F_M_word_280 v7 s0 h else bnd (F_M_collect s0 h) fun x11 h9 => some (.inl (), h9)
theorem S_M_word_259 {d : Nat} (hd : 6 ≤ d) {v6 : Int} {v7 : Int} {s0 : Int} {h : MH} (L : LayC h) (rv6 : inR v6) (rv7 : inR v7) (rs0 : inR s0) : OK d k_M_word 259 [mR 107, mN, mN, mN, mN, mN, mI v6, mI v7, mN] [mI s0] h cV pT (F_M_word_259  v6 v7 s0 h) := by
  unfold F_M_word_259
  refine z_go (fun Q hq => x_istore (dA d_M_word 140 rfl) (by decide) rfl (x_iload (dA d_M_word 141 rfl) rfl hq)) ?_
  refine z_br (fun Q => x_if_eq (dA d_M_word 142 rfl) rfl rv7) (fun c7 => ?_) (fun c7 => ?_)
  · refine z_fgt (ls' := [mR 107, mN, mN, mN, mN, mN, mN, mI v7, mI s0]) ⟨.inr rfl, .inl rfl, .inl rfl, .inl rfl, .inl rfl, .inl rfl, .inl rfl, .inr rfl, .inr rfl, trivial⟩ ?_
    exact S_M_word_280 hd  L rv7 rs0
  · refine z_go (fun Q hq => x_iload (dA d_M_word 143 rfl) rfl hq) ?_
    refine z_br (fun Q => x_if_eq (dA d_M_word 144 rfl) rfl rv6) (fun c8 => ?_) (fun c8 => ?_)
    · refine z_fgt (ls' := [mR 107, mN, mN, mN, mN, mN, mN, mI v7, mI s0]) ⟨.inr rfl, .inl rfl, .inl rfl, .inl rfl, .inl rfl, .inl rfl, .inl rfl, .inr rfl, .inr rfl, trivial⟩ ?_
      exact S_M_word_280 hd  L rv7 rs0
    · refine z_go (fun Q hq => x_aload_n (dA d_M_word 145 rfl) rfl rfl (x_iload (dA d_M_word 146 rfl) rfl hq)) ?_
      refine z_bnd (rest := []) (st1 := fun _ => []) (S_M_collect (d := 2) (Nat.le_refl _) L rs0) (fun _ hx => absurd hx List.not_mem_nil) (fun _ => rfl) (fun Q' Q => x_callV (as := [mI s0]) (rest := []) (k' := k_M_collect) (dA d_M_word 147 rfl) o_M_collect lk_M_286 im_M_collect se_M_collect rfl (L.sh (x := (12, 66)) rfl) (by decide) (Nat.le_of_ble_eq_true rfl) (Nat.le_trans (Nat.le_of_ble_eq_true rfl) hd) (Nat.le_of_ble_eq_true rfl)) (fun x11 h9 e10 p12 => ?_)
      have L13 := L.ext e10
      refine z_go (fun Q hq => x_goto (dA d_M_word 148 rfl) rfl hq) ?_
      exact z_retv (dA d_M_word 155 rfl) rfl
noncomputable def F_M_word_240 (v4 : Int) (v5 : Int) (v6 : Int) (v7 : Int) (s1 : Int) (s2 : Int) (h : MH) : RS Unit := gd (inR (s1 - s2)) (sto (mPi h 107 3 (s1 - s2)) fun h15 => if v4 < 0 then gd (inR ((-2 : Int) - v5)) (F_M_word_259 v6 v7 ((-2 : Int) - v5) h15) else F_M_word_259 v6 v7 v4 h15)
theorem S_M_word_240 {d : Nat} (hd : 6 ≤ d) {v4 : Int} {v5 : Int} {v6 : Int} {v7 : Int} {s1 : Int} {s2 : Int} {h : MH} (L : LayC h) (rv4 : inR v4) (rv5 : inR v5) (rv6 : inR v6) (rv7 : inR v7) (rs1 : inR s1) (rs2 : inR s2) : OK d k_M_word 240 [mR 107, mN, mN, mN, mI v4, mI v5, mI v6, mI v7, mN] [mI s2, mI s1, mR 107] h cV pT (F_M_word_240  v4 v5 v6 v7 s1 s2 h) := by
  unfold F_M_word_240
  refine z_gd (fun g14 => ?_)
  refine z_go (fun Q hq => x_isub (dA d_M_word 131 rfl) hq) ?_
  refine z_sto (Ext.pi (L.sh (x := (12, 66)) rfl) (by decide) g14) (fun Q hq => x_putI (dA d_M_word 132 rfl) p_M_192 (L.sh (x := (12, 66)) rfl) (by decide) cl_M rfl hq) (fun h15 e16 => ?_)
  have L17 := L.ext e16
  refine z_go (fun Q hq => x_iload (dA d_M_word 133 rfl) rfl hq) ?_
  refine z_br (fun Q => x_if_lt (dA d_M_word 134 rfl) rfl rv4) (fun c18 => ?_) (fun c18 => ?_)
  · refine z_go (fun Q hq => x_bipush (dA d_M_word 137 rfl) (by decide) (x_iload (dA d_M_word 138 rfl) rfl hq)) ?_
    refine z_gd (fun g19 => ?_)
    refine z_go (fun Q hq => x_isub (dA d_M_word 139 rfl) hq) ?_
    refine z_fgt (ls' := [mR 107, mN, mN, mN, mN, mN, mI v6, mI v7, mN]) ⟨.inr rfl, .inl rfl, .inl rfl, .inl rfl, .inl rfl, .inl rfl, .inr rfl, .inr rfl, .inl rfl, trivial⟩ ?_
    exact S_M_word_259 hd  L17 rv6 rv7 g19
  · refine z_go (fun Q hq => x_iload (dA d_M_word 135 rfl) rfl (x_goto (dA d_M_word 136 rfl) rfl hq)) ?_
    refine z_fgt (ls' := [mR 107, mN, mN, mN, mN, mN, mI v6, mI v7, mN]) ⟨.inr rfl, .inl rfl, .inl rfl, .inl rfl, .inl rfl, .inl rfl, .inr rfl, .inr rfl, .inl rfl, trivial⟩ ?_
    exact S_M_word_259 hd  L17 rv6 rv7 rv4
noncomputable def F_M_word_239 (v1 : Int) (v4 : Int) (v5 : Int) (v6 : Int) (v7 : Int) (s1 : Int) (h : MH) : RS Unit := F_M_word_240 v4 v5 v6 v7 s1 v1 h
theorem S_M_word_239 {d : Nat} (hd : 6 ≤ d) {v1 : Int} {v4 : Int} {v5 : Int} {v6 : Int} {v7 : Int} {s1 : Int} {h : MH} (L : LayC h) (rv1 : inR v1) (rv4 : inR v4) (rv5 : inR v5) (rv6 : inR v6) (rv7 : inR v7) (rs1 : inR s1) : OK d k_M_word 239 [mR 107, mI v1, mN, mN, mI v4, mI v5, mI v6, mI v7, mN] [mI s1, mR 107] h cV pT (F_M_word_239  v1 v4 v5 v6 v7 s1 h) := by
  unfold F_M_word_239
  refine z_go (fun Q hq => x_iload_n (dA d_M_word 130 rfl) rfl rfl hq) ?_
  refine z_fgt (ls' := [mR 107, mN, mN, mN, mI v4, mI v5, mI v6, mI v7, mN]) ⟨.inr rfl, .inl rfl, .inl rfl, .inl rfl, .inr rfl, .inr rfl, .inr rfl, .inr rfl, .inl rfl, trivial⟩ ?_
  exact S_M_word_240 hd  L rv4 rv5 rv6 rv7 rs1 rv1
noncomputable def F_M_word_218 (v1 : Int) (v4 : Int) (v5 : Int) (v6 : Int) (v7 : Int) (h : MH) : RS Unit := if v7 = 0 then F_M_word_239 v1 v4 v5 v6 v7 (mGi h 107 3) h else if v6 = 0 then F_M_word_239 v1 v4 v5 v6 v7 (mGi h 107 3) h else gd (inR (v1 + (1 : Int))) (F_M_word_240 v4 v5 v6 v7 (mGi h 107 3) (v1 + (1 : Int)) h)
theorem S_M_word_218 {d : Nat} (hd : 6 ≤ d) {v1 : Int} {v4 : Int} {v5 : Int} {v6 : Int} {v7 : Int} {h : MH} (L : LayC h) (rv1 : inR v1) (rv4 : inR v4) (rv5 : inR v5) (rv6 : inR v6) (rv7 : inR v7) : OK d k_M_word 218 [mR 107, mI v1, mN, mN, mI v4, mI v5, mI v6, mI v7, mN] [] h cV pT (F_M_word_218  v1 v4 v5 v6 v7 h) := by
  unfold F_M_word_218
  refine z_go (fun Q hq => x_aload_n (dA d_M_word 119 rfl) rfl rfl (x_dup (dA d_M_word 120 rfl) rfl (x_getI (dA d_M_word 121 rfl) f_M_192 (L.sh (x := (12, 66)) rfl) (by decide) (by decide) rfl (x_iload (dA d_M_word 122 rfl) rfl hq)))) ?_
  refine z_br (fun Q => x_if_eq (dA d_M_word 123 rfl) rfl rv7) (fun c20 => ?_) (fun c20 => ?_)
  · exact S_M_word_239 hd  L rv1 rv4 rv5 rv6 rv7 (L.rg _ _)
  · refine z_go (fun Q hq => x_iload (dA d_M_word 124 rfl) rfl hq) ?_
    refine z_br (fun Q => x_if_eq (dA d_M_word 125 rfl) rfl rv6) (fun c21 => ?_) (fun c21 => ?_)
    · exact S_M_word_239 hd  L rv1 rv4 rv5 rv6 rv7 (L.rg _ _)
    · refine z_go (fun Q hq => x_iload_n (dA d_M_word 126 rfl) rfl rfl (x_iconst (dA d_M_word 127 rfl) hq)) ?_
      refine z_gd (fun g22 => ?_)
      refine z_go (fun Q hq => x_iadd (dA d_M_word 128 rfl) (x_goto (dA d_M_word 129 rfl) rfl hq)) ?_
      refine z_fgt (ls' := [mR 107, mN, mN, mN, mI v4, mI v5, mI v6, mI v7, mN]) ⟨.inr rfl, .inl rfl, .inl rfl, .inl rfl, .inr rfl, .inr rfl, .inr rfl, .inr rfl, .inl rfl, trivial⟩ ?_
      exact S_M_word_240 hd  L rv4 rv5 rv6 rv7 (L.rg _ _) g22
noncomputable def F_M_word_183_b (G183 : Int → Int → Int → Int → Int → Int → MH → RS Unit) (v1 : Int) (v4 : Int) (v5 : Int) (v6 : Int) (v7 : Int) (v8 : Int) (h : MH) : RS Unit := if v1 ≤ v8 then F_M_word_218 v1 v4 v5 v6 v7 h else if v7 = 0 then gd (inR ((mGi h 107 3) - (1 : Int))) (gd (inR (((mGi h 107 3) - (1 : Int)) - v8)) (gd (0 ≤ (((mGi h 107 3) - (1 : Int)) - v8) ∧ (((mGi h 107 3) - (1 : Int)) - v8) < 500) (bnd (F_M_put (mGi h 109 (((mGi h 107 3) - (1 : Int)) - v8).toNat) h) fun x30 h28 => gd (inR (v8 + (1 : Int))) (G183 v1 v4 v5 v6 v7 (v8 + (1 : Int)) h28)))) else F_M_word_218 v1 v4 v5 v6 v7 h
theorem S_M_word_183_b {d : Nat} (hd : 6 ≤ d) {G183 : Int → Int → Int → Int → Int → Int → MH → RS Unit} (hG183 : ∀ (v1 : Int) (v4 : Int) (v5 : Int) (v6 : Int) (v7 : Int) (v8 : Int) (h : MH), LayC h → inR v1 → inR v4 → inR v5 → inR v6 → inR v7 → inR v8 → OK d k_M_word 183 [mR 107, mI v1, mN, mN, mI v4, mI v5, mI v6, mI v7, mI v8] [] h cV pT (G183 v1 v4 v5 v6 v7 v8 h)) {v1 : Int} {v4 : Int} {v5 : Int} {v6 : Int} {v7 : Int} {v8 : Int} {h : MH} (L : LayC h) (rv1 : inR v1) (rv4 : inR v4) (rv5 : inR v5) (rv6 : inR v6) (rv7 : inR v7) (rv8 : inR v8) : OK d k_M_word 183 [mR 107, mI v1, mN, mN, mI v4, mI v5, mI v6, mI v7, mI v8] [] h cV pT (F_M_word_183_b G183 v1 v4 v5 v6 v7 v8 h) := by
  unfold F_M_word_183_b
  refine z_go (fun Q hq => x_iload (dA d_M_word 101 rfl) rfl (x_iload_n (dA d_M_word 102 rfl) rfl rfl hq)) ?_
  refine z_br (fun Q => x_icmp_ge (dA d_M_word 103 rfl) rfl rv8 rv1) (fun c23 => ?_) (fun c23 => ?_)
  · refine z_fgt (ls' := [mR 107, mI v1, mN, mN, mI v4, mI v5, mI v6, mI v7, mN]) ⟨.inr rfl, .inr rfl, .inl rfl, .inl rfl, .inr rfl, .inr rfl, .inr rfl, .inr rfl, .inl rfl, trivial⟩ ?_
    exact S_M_word_218 hd  L rv1 rv4 rv5 rv6 rv7
  · refine z_go (fun Q hq => x_iload (dA d_M_word 104 rfl) rfl hq) ?_
    refine z_brn (fun Q => x_if_ne (dA d_M_word 105 rfl) rfl rv7) (fun c24 => ?_) (fun c24 => ?_)
    · refine z_go (fun Q hq => x_aload_n (dA d_M_word 106 rfl) rfl rfl (x_aload_n (dA d_M_word 107 rfl) rfl rfl (x_getR (dA d_M_word 108 rfl) f_M_13 (L.sh (x := (12, 66)) rfl) (by decide) (by decide) rfl (L.rf 110 rfl) (x_aload_n (dA d_M_word 109 rfl) rfl rfl (x_getI (dA d_M_word 110 rfl) f_M_192 (L.sh (x := (12, 66)) rfl) (by decide) (by decide) rfl (x_iconst (dA d_M_word 111 rfl) hq)))))) ?_
      refine z_gd (fun g25 => ?_)
      refine z_go (fun Q hq => x_isub (dA d_M_word 112 rfl) (x_iload (dA d_M_word 113 rfl) rfl hq)) ?_
      refine z_gd (fun g26 => ?_)
      refine z_go (fun Q hq => x_isub (dA d_M_word 114 rfl) hq) ?_
      refine z_gd (fun g27 => ?_)
      refine z_go (fun Q hq => x_cald (dA d_M_word 115 rfl) (L.sh (x := (101, 500)) rfl) g27.1 g27.2 (by decide) hq) ?_
      refine z_bnd (rest := []) (st1 := fun _ => []) (S_M_put (d := 2) (Nat.le_refl _) L (L.rg _ _)) (fun _ hx => absurd hx List.not_mem_nil) (fun _ => rfl) (fun Q' Q => x_callV (as := [mI (mGi h 109 (((mGi h 107 3) - (1 : Int)) - v8).toNat)]) (rest := []) (k' := k_M_put) (dA d_M_word 116 rfl) o_M_put lk_M_262 im_M_put se_M_put rfl (L.sh (x := (12, 66)) rfl) (by decide) (Nat.le_of_ble_eq_true rfl) (Nat.le_trans (Nat.le_of_ble_eq_true rfl) hd) (Nat.le_of_ble_eq_true rfl)) (fun x30 h28 e29 p31 => ?_)
      have L32 := L.ext e29
      refine z_gd (fun g33 => ?_)
      refine z_go (fun Q hq => x_iinc (dA d_M_word 117 rfl) rfl (by decide) rfl (x_goto (dA d_M_word 118 rfl) rfl hq)) ?_
      exact hG183 v1 v4 v5 v6 v7 (v8 + (1 : Int)) h28 L32 rv1 rv4 rv5 rv6 rv7 g33
    · refine z_fgt (ls' := [mR 107, mI v1, mN, mN, mI v4, mI v5, mI v6, mI v7, mN]) ⟨.inr rfl, .inr rfl, .inl rfl, .inl rfl, .inr rfl, .inr rfl, .inr rfl, .inr rfl, .inl rfl, trivial⟩ ?_
      exact S_M_word_218 hd  L rv1 rv4 rv5 rv6 rv7
noncomputable def F_M_word_183 (v1 : Int) (v4 : Int) (v5 : Int) (v6 : Int) (v7 : Int) (v8 : Int) (h : MH) : RS Unit := itr (fun self (q : Int × Int × Int × Int × Int × Int × MH) => F_M_word_183_b (fun v1 v4 v5 v6 v7 v8 h => self (v1, v4, v5, v6, v7, v8, h)) q.1 q.2.1 q.2.2.1 q.2.2.2.1 q.2.2.2.2.1 q.2.2.2.2.2.1 q.2.2.2.2.2.2) FU (v1, v4, v5, v6, v7, v8, h)
theorem S_M_word_183 {d : Nat} (hd : 6 ≤ d) {v1 : Int} {v4 : Int} {v5 : Int} {v6 : Int} {v7 : Int} {v8 : Int} {h : MH} (L : LayC h) (rv1 : inR v1) (rv4 : inR v4) (rv5 : inR v5) (rv6 : inR v6) (rv7 : inR v7) (rv8 : inR v8) : OK d k_M_word 183 [mR 107, mI v1, mN, mN, mI v4, mI v5, mI v6, mI v7, mI v8] [] h cV pT (F_M_word_183  v1 v4 v5 v6 v7 v8 h) := by
  unfold F_M_word_183
  refine z_itr (P := fun q : Int × Int × Int × Int × Int × Int × MH => LayC q.2.2.2.2.2.2 ∧ inR q.1 ∧ inR q.2.1 ∧ inR q.2.2.1 ∧ inR q.2.2.2.1 ∧ inR q.2.2.2.2.1 ∧ inR q.2.2.2.2.2.1 ∧ True) (ls := fun q : Int × Int × Int × Int × Int × Int × MH => [mR 107, mI q.1, mN, mN, mI q.2.1, mI q.2.2.1, mI q.2.2.2.1, mI q.2.2.2.2.1, mI q.2.2.2.2.2.1]) (hp := fun q : Int × Int × Int × Int × Int × Int × MH => q.2.2.2.2.2.2) (fun self hs q hq => ?_) FU (v1, v4, v5, v6, v7, v8, h) ⟨L, rv1, rv4, rv5, rv6, rv7, rv8, trivial⟩
  exact S_M_word_183_b hd (fun v1 v4 v5 v6 v7 v8 h L rv1 rv4 rv5 rv6 rv7 rv8 => hs (v1, v4, v5, v6, v7, v8, h) ⟨L, rv1, rv4, rv5, rv6, rv7, rv8, trivial⟩) hq.1 hq.2.1 hq.2.2.1 hq.2.2.2.1 hq.2.2.2.2.1 hq.2.2.2.2.2.1 hq.2.2.2.2.2.2.1
noncomputable def F_M_word_178 (v1 : Int) (v4 : Int) (v5 : Int) (v6 : Int) (s0 : Int) (h : MH) : RS Unit := F_M_word_183 v1 v4 v5 v6 s0 (0 : Int) h
theorem S_M_word_178 {d : Nat} (hd : 6 ≤ d) {v1 : Int} {v4 : Int} {v5 : Int} {v6 : Int} {s0 : Int} {h : MH} (L : LayC h) (rv1 : inR v1) (rv4 : inR v4) (rv5 : inR v5) (rv6 : inR v6) (rs0 : inR s0) : OK d k_M_word 178 [mR 107, mI v1, mN, mN, mI v4, mI v5, mI v6, mN, mN] [mI s0] h cV pT (F_M_word_178  v1 v4 v5 v6 s0 h) := by
  unfold F_M_word_178
  refine z_go (fun Q hq => x_istore (dA d_M_word 98 rfl) (by decide) rfl (x_iconst (dA d_M_word 99 rfl) (x_istore (dA d_M_word 100 rfl) (by decide) rfl hq))) ?_
  exact S_M_word_183 hd  L rv1 rv4 rv5 rv6 rs0 (inR_lit (0 : Int) rfl)
noncomputable def F_M_word_177 (v1 : Int) (v4 : Int) (v5 : Int) (v6 : Int) (h : MH) : RS Unit := F_M_word_178 v1 v4 v5 v6 (0 : Int) h
theorem S_M_word_177 {d : Nat} (hd : 6 ≤ d) {v1 : Int} {v4 : Int} {v5 : Int} {v6 : Int} {h : MH} (L : LayC h) (rv1 : inR v1) (rv4 : inR v4) (rv5 : inR v5) (rv6 : inR v6) : OK d k_M_word 177 [mR 107, mI v1, mN, mN, mI v4, mI v5, mI v6, mN, mN] [] h cV pT (F_M_word_177  v1 v4 v5 v6 h) := by
  unfold F_M_word_177
  refine z_go (fun Q hq => x_iconst (dA d_M_word 97 rfl) hq) ?_
  exact S_M_word_178 hd  L rv1 rv4 rv5 rv6 (inR_lit (0 : Int) rfl)
noncomputable def F_M_word_173 (v1 : Int) (v4 : Int) (v5 : Int) (v6 : Int) (h : MH) : RS Unit := F_M_word_178 v1 v4 v5 v6 (1 : Int) h
theorem S_M_word_173 {d : Nat} (hd : 6 ≤ d) {v1 : Int} {v4 : Int} {v5 : Int} {v6 : Int} {h : MH} (L : LayC h) (rv1 : inR v1) (rv4 : inR v4) (rv5 : inR v5) (rv6 : inR v6) : OK d k_M_word 173 [mR 107, mI v1, mN, mN, mI v4, mI v5, mI v6, mN, mN] [] h cV pT (F_M_word_173  v1 v4 v5 v6 h) := by
  unfold F_M_word_173
  refine z_go (fun Q hq => x_iconst (dA d_M_word 95 rfl) (x_goto (dA d_M_word 96 rfl) rfl hq)) ?_
  exact S_M_word_178 hd  L rv1 rv4 rv5 rv6 (inR_lit (1 : Int) rfl)
noncomputable def F_M_word_149 (v1 : Int) (v4 : Int) (v5 : Int) (s0 : Int) (h : MH) : RS Unit := if 0 ≤ v4 then F_M_word_173 v1 v4 v5 s0 h else if v5 = (8 : Int) then F_M_word_173 v1 v4 v5 s0 h else if v5 < 0 then F_M_word_177 v1 v4 v5 s0 h else if s0 = 0 then F_M_word_177 v1 v4 v5 s0 h else F_M_word_173 v1 v4 v5 s0 h
theorem S_M_word_149 {d : Nat} (hd : 6 ≤ d) {v1 : Int} {v4 : Int} {v5 : Int} {s0 : Int} {h : MH} (L : LayC h) (rv1 : inR v1) (rv4 : inR v4) (rv5 : inR v5) (rs0 : inR s0) : OK d k_M_word 149 [mR 107, mI v1, mN, mN, mI v4, mI v5, mN, mN, mN] [mI s0] h cV pT (F_M_word_149  v1 v4 v5 s0 h) := by
  unfold F_M_word_149
  refine z_go (fun Q hq => x_istore (dA d_M_word 85 rfl) (by decide) rfl (x_iload (dA d_M_word 86 rfl) rfl hq)) ?_
  refine z_br (fun Q => x_if_ge (dA d_M_word 87 rfl) rfl rv4) (fun c34 => ?_) (fun c34 => ?_)
  · exact S_M_word_173 hd  L rv1 rv4 rv5 rs0
  · refine z_go (fun Q hq => x_iload (dA d_M_word 88 rfl) rfl (x_bipush (dA d_M_word 89 rfl) (by decide) hq)) ?_
    refine z_br (fun Q => x_icmp_eq (dA d_M_word 90 rfl) rfl rv5 (inR_lit (8 : Int) rfl)) (fun c35 => ?_) (fun c35 => ?_)
    · exact S_M_word_173 hd  L rv1 rv4 rv5 rs0
    · refine z_go (fun Q hq => x_iload (dA d_M_word 91 rfl) rfl hq) ?_
      refine z_br (fun Q => x_if_lt (dA d_M_word 92 rfl) rfl rv5) (fun c36 => ?_) (fun c36 => ?_)
      · exact S_M_word_177 hd  L rv1 rv4 rv5 rs0
      · refine z_go (fun Q hq => x_iload (dA d_M_word 93 rfl) rfl hq) ?_
        refine z_br (fun Q => x_if_eq (dA d_M_word 94 rfl) rfl rs0) (fun c37 => ?_) (fun c37 => ?_)
        · exact S_M_word_177 hd  L rv1 rv4 rv5 rs0
        · exact S_M_word_173 hd  L rv1 rv4 rv5 rs0
noncomputable def F_M_word_148 (v1 : Int) (v4 : Int) (v5 : Int) (h : MH) : RS Unit := F_M_word_149 v1 v4 v5 (0 : Int) h
theorem S_M_word_148 {d : Nat} (hd : 6 ≤ d) {v1 : Int} {v4 : Int} {v5 : Int} {h : MH} (L : LayC h) (rv1 : inR v1) (rv4 : inR v4) (rv5 : inR v5) : OK d k_M_word 148 [mR 107, mI v1, mN, mN, mI v4, mI v5, mN, mN, mN] [] h cV pT (F_M_word_148  v1 v4 v5 h) := by
  unfold F_M_word_148
  refine z_go (fun Q hq => x_iconst (dA d_M_word 84 rfl) hq) ?_
  exact S_M_word_149 hd  L rv1 rv4 rv5 (inR_lit (0 : Int) rfl)
noncomputable def F_M_word_109 (v1 : Int) (v4 : Int) (s0 : Int) (h : MH) : RS Unit := if (mGi h 107 3) ≤ v1 then F_M_word_148 v1 v4 s0 h else gd (inR ((mGi h 107 3) - (1 : Int))) (gd (inR (((mGi h 107 3) - (1 : Int)) - v1)) (gd (0 ≤ (((mGi h 107 3) - (1 : Int)) - v1) ∧ (((mGi h 107 3) - (1 : Int)) - v1) < 500) (if (mGi h 109 (((mGi h 107 3) - (1 : Int)) - v1).toNat) = (40 : Int) then if s0 = (8 : Int) then F_M_word_148 v1 v4 s0 h else F_M_word_149 v1 v4 s0 (1 : Int) h else F_M_word_148 v1 v4 s0 h)))
theorem S_M_word_109 {d : Nat} (hd : 6 ≤ d) {v1 : Int} {v4 : Int} {s0 : Int} {h : MH} (L : LayC h) (rv1 : inR v1) (rv4 : inR v4) (rs0 : inR s0) : OK d k_M_word 109 [mR 107, mI v1, mN, mN, mI v4, mN, mN, mN, mN] [mI s0] h cV pT (F_M_word_109  v1 v4 s0 h) := by
  unfold F_M_word_109
  refine z_go (fun Q hq => x_istore (dA d_M_word 63 rfl) (by decide) rfl (x_iload_n (dA d_M_word 64 rfl) rfl rfl (x_aload_n (dA d_M_word 65 rfl) rfl rfl (x_getI (dA d_M_word 66 rfl) f_M_192 (L.sh (x := (12, 66)) rfl) (by decide) (by decide) rfl hq)))) ?_
  refine z_br (fun Q => x_icmp_ge (dA d_M_word 67 rfl) rfl rv1 (L.rg _ _)) (fun c38 => ?_) (fun c38 => ?_)
  · exact S_M_word_148 hd  L rv1 rv4 rs0
  · refine z_go (fun Q hq => x_aload_n (dA d_M_word 68 rfl) rfl rfl (x_getR (dA d_M_word 69 rfl) f_M_13 (L.sh (x := (12, 66)) rfl) (by decide) (by decide) rfl (L.rf 110 rfl) (x_aload_n (dA d_M_word 70 rfl) rfl rfl (x_getI (dA d_M_word 71 rfl) f_M_192 (L.sh (x := (12, 66)) rfl) (by decide) (by decide) rfl (x_iconst (dA d_M_word 72 rfl) hq))))) ?_
    refine z_gd (fun g39 => ?_)
    refine z_go (fun Q hq => x_isub (dA d_M_word 73 rfl) (x_iload_n (dA d_M_word 74 rfl) rfl rfl hq)) ?_
    refine z_gd (fun g40 => ?_)
    refine z_go (fun Q hq => x_isub (dA d_M_word 75 rfl) hq) ?_
    refine z_gd (fun g41 => ?_)
    refine z_go (fun Q hq => x_cald (dA d_M_word 76 rfl) (L.sh (x := (101, 500)) rfl) g41.1 g41.2 (by decide) (x_bipush (dA d_M_word 77 rfl) (by decide) hq)) ?_
    refine z_brn (fun Q => x_icmp_ne (dA d_M_word 78 rfl) rfl (L.rg _ _) (inR_lit (40 : Int) rfl)) (fun c42 => ?_) (fun c42 => ?_)
    · refine z_go (fun Q hq => x_iload (dA d_M_word 79 rfl) rfl (x_bipush (dA d_M_word 80 rfl) (by decide) hq)) ?_
      refine z_br (fun Q => x_icmp_eq (dA d_M_word 81 rfl) rfl rs0 (inR_lit (8 : Int) rfl)) (fun c43 => ?_) (fun c43 => ?_)
      · exact S_M_word_148 hd  L rv1 rv4 rs0
      · refine z_go (fun Q hq => x_iconst (dA d_M_word 82 rfl) (x_goto (dA d_M_word 83 rfl) rfl hq)) ?_
        exact S_M_word_149 hd  L rv1 rv4 rs0 (inR_lit (1 : Int) rfl)
    · exact S_M_word_148 hd  L rv1 rv4 rs0
noncomputable def F_M_word_102 (v1 : Int) (v4 : Int) (s0 : Int64) (h : MH) : RS Unit := bnd (F_M_builtIn s0 h) fun x46 h44 => F_M_word_109 v1 v4 x46 h44
theorem S_M_word_102 {d : Nat} (hd : 6 ≤ d) {v1 : Int} {v4 : Int} {s0 : Int64} {h : MH} (L : LayC h) (rv1 : inR v1) (rv4 : inR v4) : OK d k_M_word 102 [mR 107, mI v1, mN, mN, mI v4, mN, mN, mN, mN] [mL s0] h cV pT (F_M_word_102  v1 v4 s0 h) := by
  unfold F_M_word_102
  refine z_bnd (rest := []) (st1 := fun v => mI v :: []) (S_M_builtIn (d := 0) (Nat.le_refl _) L ) (fun _ hx => absurd hx List.not_mem_nil) (fun _ => rfl) (fun Q' Q => x_callS (as := [mL s0]) (rest := []) (k' := k_M_builtIn) (dA d_M_word 60 rfl) o_M_builtIn lk_M_283 st_M_builtIn (Nat.le_of_ble_eq_true rfl) (Nat.le_trans (Nat.le_of_ble_eq_true rfl) hd) (Nat.le_of_ble_eq_true rfl)) (fun x46 h44 e45 p47 => ?_)
  have L48 := L.ext e45
  refine z_go (fun Q hq => x_goto (dA d_M_word 61 rfl) rfl hq) ?_
  exact S_M_word_109 hd  L48 rv1 rv4 p47
noncomputable def F_M_word_81 (v1 : Int) (v2 : Int64) (s1 : Int64) (h : MH) : RS Unit := bnd (F_M_latest s1 h) fun x51 h49 => if 0 ≤ x51 then F_M_word_109 v1 x51 (-1 : Int) h49 else if v1 ≤ (8 : Int) then F_M_word_102 v1 x51 v2 h49 else F_M_word_102 v1 x51 (0 : Int64) h49
theorem S_M_word_81 {d : Nat} (hd : 6 ≤ d) {v1 : Int} {v2 : Int64} {s1 : Int64} {h : MH} (L : LayC h) (rv1 : inR v1) : OK d k_M_word 81 [mR 107, mI v1, mL v2, mN, mN, mN, mN, mN, mN] [mL s1, mR 107] h cV pT (F_M_word_81  v1 v2 s1 h) := by
  unfold F_M_word_81
  refine z_bnd (rest := []) (st1 := fun v => mI v :: []) (S_M_latest (d := 0) (Nat.le_refl _) L ) (fun _ hx => absurd hx List.not_mem_nil) (fun _ => rfl) (fun Q' Q => x_callV (as := [mL s1]) (rest := []) (k' := k_M_latest) (dA d_M_word 50 rfl) o_M_latest lk_M_218 im_M_latest se_M_latest rfl (L.sh (x := (12, 66)) rfl) (by decide) (Nat.le_of_ble_eq_true rfl) (Nat.le_trans (Nat.le_of_ble_eq_true rfl) hd) (Nat.le_of_ble_eq_true rfl)) (fun x51 h49 e50 p52 => ?_)
  have L53 := L.ext e50
  refine z_go (fun Q hq => x_istore (dA d_M_word 51 rfl) (by decide) rfl (x_iload (dA d_M_word 52 rfl) rfl hq)) ?_
  refine z_br (fun Q => x_if_ge (dA d_M_word 53 rfl) rfl p52) (fun c54 => ?_) (fun c54 => ?_)
  · refine z_go (fun Q hq => x_iconst (dA d_M_word 62 rfl) hq) ?_
    refine z_fgt (ls' := [mR 107, mI v1, mN, mN, mI x51, mN, mN, mN, mN]) ⟨.inr rfl, .inr rfl, .inl rfl, .inl rfl, .inr rfl, .inl rfl, .inl rfl, .inl rfl, .inl rfl, trivial⟩ ?_
    exact S_M_word_109 hd  L53 rv1 p52 (inR_lit (-1 : Int) rfl)
  · refine z_go (fun Q hq => x_iload_n (dA d_M_word 54 rfl) rfl rfl (x_bipush (dA d_M_word 55 rfl) (by decide) hq)) ?_
    refine z_br (fun Q => x_icmp_le (dA d_M_word 56 rfl) rfl rv1 (inR_lit (8 : Int) rfl)) (fun c55 => ?_) (fun c55 => ?_)
    · refine z_go (fun Q hq => x_lload_n (dA d_M_word 59 rfl) rfl rfl hq) ?_
      refine z_fgt (ls' := [mR 107, mI v1, mN, mN, mI x51, mN, mN, mN, mN]) ⟨.inr rfl, .inr rfl, .inl rfl, .inl rfl, .inr rfl, .inl rfl, .inl rfl, .inl rfl, .inl rfl, trivial⟩ ?_
      exact S_M_word_102 hd  L53 rv1 p52
    · refine z_go (fun Q hq => x_lconst (v := 0) (dA d_M_word 57 rfl) rfl (x_goto (dA d_M_word 58 rfl) rfl hq)) ?_
      refine z_fgt (ls' := [mR 107, mI v1, mN, mN, mI x51, mN, mN, mN, mN]) ⟨.inr rfl, .inr rfl, .inl rfl, .inl rfl, .inr rfl, .inl rfl, .inl rfl, .inl rfl, .inl rfl, trivial⟩ ?_
      exact S_M_word_102 hd  L53 rv1 p52
noncomputable def F_M_word_69 (v1 : Int) (v2 : Int64) (h : MH) : RS Unit := if v1 ≤ (8 : Int) then F_M_word_81 v1 v2 v2 h else F_M_word_81 v1 v2 (0 : Int64) h
theorem S_M_word_69 {d : Nat} (hd : 6 ≤ d) {v1 : Int} {v2 : Int64} {h : MH} (L : LayC h) (rv1 : inR v1) : OK d k_M_word 69 [mR 107, mI v1, mL v2, mN, mN, mN, mN, mN, mN] [] h cV pT (F_M_word_69  v1 v2 h) := by
  unfold F_M_word_69
  refine z_go (fun Q hq => x_aload_n (dA d_M_word 43 rfl) rfl rfl (x_iload_n (dA d_M_word 44 rfl) rfl rfl (x_bipush (dA d_M_word 45 rfl) (by decide) hq))) ?_
  refine z_br (fun Q => x_icmp_le (dA d_M_word 46 rfl) rfl rv1 (inR_lit (8 : Int) rfl)) (fun c56 => ?_) (fun c56 => ?_)
  · refine z_go (fun Q hq => x_lload_n (dA d_M_word 49 rfl) rfl rfl hq) ?_
    exact S_M_word_81 hd  L rv1
  · refine z_go (fun Q hq => x_lconst (v := 0) (dA d_M_word 47 rfl) rfl (x_goto (dA d_M_word 48 rfl) rfl hq)) ?_
    exact S_M_word_81 hd  L rv1
noncomputable def F_M_word_62 (G4 : Int → Int64 → MH → RS Unit) (v1 : Int) (s0 : Int64) (h : MH) : RS Unit := gd (inR (v1 + (1 : Int))) (G4 (v1 + (1 : Int)) s0 h)
theorem S_M_word_62 {d : Nat} (hd : 6 ≤ d) {G4 : Int → Int64 → MH → RS Unit} (hG4 : ∀ (v1 : Int) (v2 : Int64) (h : MH), LayC h → inR v1 → OK d k_M_word 4 [mR 107, mI v1, mL v2, mN, mN, mN, mN, mN, mN] [] h cV pT (G4 v1 v2 h)) {v1 : Int} {s0 : Int64} {h : MH} (L : LayC h) (rv1 : inR v1) : OK d k_M_word 62 [mR 107, mI v1, mN, mN, mN, mN, mN, mN, mN] [mL s0] h cV pT (F_M_word_62 G4 v1 s0 h) := by
  unfold F_M_word_62
  refine z_go (fun Q hq => x_lstore_n (dA d_M_word 40 rfl) rfl (by decide) rfl hq) ?_
  refine z_gd (fun g57 => ?_)
  refine z_go (fun Q hq => x_iinc (dA d_M_word 41 rfl) rfl (by decide) rfl (x_goto (dA d_M_word 42 rfl) rfl hq)) ?_
  exact hG4 (v1 + (1 : Int)) s0 h L g57
noncomputable def F_M_word_4_b (G4 : Int → Int64 → MH → RS Unit) (v1 : Int) (v2 : Int64) (h : MH) : RS Unit := if (mGi h 107 3) ≤ v1 then F_M_word_69 v1 v2 h else gd (inR ((mGi h 107 3) - (1 : Int))) (gd (inR (((mGi h 107 3) - (1 : Int)) - v1)) (gd (0 ≤ (((mGi h 107 3) - (1 : Int)) - v1) ∧ (((mGi h 107 3) - (1 : Int)) - v1) < 500) (bnd (F_M_isPart (mGi h 109 (((mGi h 107 3) - (1 : Int)) - v1).toNat) h) fun x64 h62 => if x64 = 0 then F_M_word_69 v1 v2 h62 else if (8 : Int) ≤ v1 then F_M_word_62 G4 v1 (0 : Int64) h62 else gd (inR ((mGi h62 107 3) - (1 : Int))) (gd (inR (((mGi h62 107 3) - (1 : Int)) - v1)) (gd (0 ≤ (((mGi h62 107 3) - (1 : Int)) - v1) ∧ (((mGi h62 107 3) - (1 : Int)) - v1) < 500) (gd (inR ((8 : Int) * v1)) (F_M_word_62 G4 v1 (v2 ||| (((Int32.ofInt (mGi h62 109 (((mGi h62 107 3) - (1 : Int)) - v1).toNat)).toInt64) <<< ((Int32.ofInt ((8 : Int) * v1)).toInt64 &&& 63))) h62)))))))
theorem S_M_word_4_b {d : Nat} (hd : 6 ≤ d) {G4 : Int → Int64 → MH → RS Unit} (hG4 : ∀ (v1 : Int) (v2 : Int64) (h : MH), LayC h → inR v1 → OK d k_M_word 4 [mR 107, mI v1, mL v2, mN, mN, mN, mN, mN, mN] [] h cV pT (G4 v1 v2 h)) {v1 : Int} {v2 : Int64} {h : MH} (L : LayC h) (rv1 : inR v1) : OK d k_M_word 4 [mR 107, mI v1, mL v2, mN, mN, mN, mN, mN, mN] [] h cV pT (F_M_word_4_b G4 v1 v2 h) := by
  unfold F_M_word_4_b
  refine z_go (fun Q hq => x_iload_n (dA d_M_word 4 rfl) rfl rfl (x_aload_n (dA d_M_word 5 rfl) rfl rfl (x_getI (dA d_M_word 6 rfl) f_M_192 (L.sh (x := (12, 66)) rfl) (by decide) (by decide) rfl hq))) ?_
  refine z_br (fun Q => x_icmp_ge (dA d_M_word 7 rfl) rfl rv1 (L.rg _ _)) (fun c58 => ?_) (fun c58 => ?_)
  · exact S_M_word_69 hd  L rv1
  · refine z_go (fun Q hq => x_aload_n (dA d_M_word 8 rfl) rfl rfl (x_getR (dA d_M_word 9 rfl) f_M_13 (L.sh (x := (12, 66)) rfl) (by decide) (by decide) rfl (L.rf 110 rfl) (x_aload_n (dA d_M_word 10 rfl) rfl rfl (x_getI (dA d_M_word 11 rfl) f_M_192 (L.sh (x := (12, 66)) rfl) (by decide) (by decide) rfl (x_iconst (dA d_M_word 12 rfl) hq))))) ?_
    refine z_gd (fun g59 => ?_)
    refine z_go (fun Q hq => x_isub (dA d_M_word 13 rfl) (x_iload_n (dA d_M_word 14 rfl) rfl rfl hq)) ?_
    refine z_gd (fun g60 => ?_)
    refine z_go (fun Q hq => x_isub (dA d_M_word 15 rfl) hq) ?_
    refine z_gd (fun g61 => ?_)
    refine z_go (fun Q hq => x_cald (dA d_M_word 16 rfl) (L.sh (x := (101, 500)) rfl) g61.1 g61.2 (by decide) hq) ?_
    refine z_bnd (rest := []) (st1 := fun v => mI v :: []) (S_M_isPart (d := 1) (Nat.le_refl _) L (L.rg _ _)) (fun _ hx => absurd hx List.not_mem_nil) (fun _ => rfl) (fun Q' Q => x_callS (as := [mI (mGi h 109 (((mGi h 107 3) - (1 : Int)) - v1).toNat)]) (rest := []) (k' := k_M_isPart) (dA d_M_word 17 rfl) o_M_isPart lk_M_211 st_M_isPart (Nat.le_of_ble_eq_true rfl) (Nat.le_trans (Nat.le_of_ble_eq_true rfl) hd) (Nat.le_of_ble_eq_true rfl)) (fun x64 h62 e63 p65 => ?_)
    have L66 := L.ext e63
    refine z_br (fun Q => x_if_eq (dA d_M_word 18 rfl) rfl p65.inR) (fun c67 => ?_) (fun c67 => ?_)
    · exact S_M_word_69 hd  L66 rv1
    · refine z_go (fun Q hq => x_iload_n (dA d_M_word 19 rfl) rfl rfl (x_bipush (dA d_M_word 20 rfl) (by decide) hq)) ?_
      refine z_br (fun Q => x_icmp_ge (dA d_M_word 21 rfl) rfl rv1 (inR_lit (8 : Int) rfl)) (fun c68 => ?_) (fun c68 => ?_)
      · refine z_go (fun Q hq => x_lconst (v := 0) (dA d_M_word 39 rfl) rfl hq) ?_
        refine z_fgt (ls' := [mR 107, mI v1, mN, mN, mN, mN, mN, mN, mN]) ⟨.inr rfl, .inr rfl, .inl rfl, .inl rfl, .inl rfl, .inl rfl, .inl rfl, .inl rfl, .inl rfl, trivial⟩ ?_
        exact S_M_word_62 hd hG4 L66 rv1
      · refine z_go (fun Q hq => x_lload_n (dA d_M_word 22 rfl) rfl rfl (x_aload_n (dA d_M_word 23 rfl) rfl rfl (x_getR (dA d_M_word 24 rfl) f_M_13 (L66.sh (x := (12, 66)) rfl) (by decide) (by decide) rfl (L66.rf 110 rfl) (x_aload_n (dA d_M_word 25 rfl) rfl rfl (x_getI (dA d_M_word 26 rfl) f_M_192 (L66.sh (x := (12, 66)) rfl) (by decide) (by decide) rfl (x_iconst (dA d_M_word 27 rfl) hq)))))) ?_
        refine z_gd (fun g69 => ?_)
        refine z_go (fun Q hq => x_isub (dA d_M_word 28 rfl) (x_iload_n (dA d_M_word 29 rfl) rfl rfl hq)) ?_
        refine z_gd (fun g70 => ?_)
        refine z_go (fun Q hq => x_isub (dA d_M_word 30 rfl) hq) ?_
        refine z_gd (fun g71 => ?_)
        refine z_go (fun Q hq => x_cald (dA d_M_word 31 rfl) (L66.sh (x := (101, 500)) rfl) g71.1 g71.2 (by decide) (x_i2l (dA d_M_word 32 rfl) (x_bipush (dA d_M_word 33 rfl) (by decide) (x_iload_n (dA d_M_word 34 rfl) rfl rfl hq)))) ?_
        refine z_gd (fun g72 => ?_)
        refine z_go (fun Q hq => x_imul (dA d_M_word 35 rfl) (x_lshl (dA d_M_word 36 rfl) (x_lor (dA d_M_word 37 rfl) (x_goto (dA d_M_word 38 rfl) rfl hq)))) ?_
        refine z_fgt (ls' := [mR 107, mI v1, mN, mN, mN, mN, mN, mN, mN]) ⟨.inr rfl, .inr rfl, .inl rfl, .inl rfl, .inl rfl, .inl rfl, .inl rfl, .inl rfl, .inl rfl, trivial⟩ ?_
        exact S_M_word_62 hd hG4 L66 rv1
noncomputable def F_M_word_4 (v1 : Int) (v2 : Int64) (h : MH) : RS Unit := itr (fun self (q : Int × Int64 × MH) => F_M_word_4_b (fun v1 v2 h => self (v1, v2, h)) q.1 q.2.1 q.2.2) FU (v1, v2, h)
theorem S_M_word_4 {d : Nat} (hd : 6 ≤ d) {v1 : Int} {v2 : Int64} {h : MH} (L : LayC h) (rv1 : inR v1) : OK d k_M_word 4 [mR 107, mI v1, mL v2, mN, mN, mN, mN, mN, mN] [] h cV pT (F_M_word_4  v1 v2 h) := by
  unfold F_M_word_4
  refine z_itr (P := fun q : Int × Int64 × MH => LayC q.2.2 ∧ inR q.1 ∧ True) (ls := fun q : Int × Int64 × MH => [mR 107, mI q.1, mL q.2.1, mN, mN, mN, mN, mN, mN]) (hp := fun q : Int × Int64 × MH => q.2.2) (fun self hs q hq => ?_) FU (v1, v2, h) ⟨L, rv1, trivial⟩
  exact S_M_word_4_b hd (fun v1 v2 h L rv1 => hs (v1, v2, h) ⟨L, rv1, trivial⟩) hq.1 hq.2.1
noncomputable def F_M_word (h : MH) : RS Unit := F_M_word_4 (0 : Int) (0 : Int64) h
theorem S_M_word {d : Nat} (hd : 6 ≤ d) {h : MH} (L : LayC h) : OK d k_M_word 0 [mR 107, mN, mN, mN, mN, mN, mN, mN, mN] [] h cV pT (F_M_word   h) := by
  unfold F_M_word
  refine z_go (fun Q hq => x_iconst (dA d_M_word 0 rfl) (x_istore_n (dA d_M_word 1 rfl) rfl (by decide) rfl (x_lconst (v := 0) (dA d_M_word 2 rfl) rfl (x_lstore_n (dA d_M_word 3 rfl) rfl (by decide) rfl hq)))) ?_
  exact S_M_word_4 hd  L (inR_lit (0 : Int) rfl)
/-! TwoMillsModel.nextArgument(I)V -/
noncomputable def F_M_nextArgument_36 (v1 : Int) (s1 : Int) (h : MH) : RS Unit := gd (p01 s1) (bnd (F_M_need s1 (1 : Int) h) fun x4 h2 => if x4 = 0 then some (.inl (), h2) else gd (0 ≤ v1 ∧ v1 < 6) (gd (inR ((mGi h2 118 v1.toNat) + (1 : Int))) (sto (mPi h2 118 v1.toNat ((mGi h2 118 v1.toNat) + (1 : Int))) fun h10 => some (.inl (), h10))))
theorem S_M_nextArgument_36 {d : Nat} (hd : 2 ≤ d) {v1 : Int} {s1 : Int} {h : MH} (L : LayC h) (rv1 : inR v1) (rs1 : inR s1) : OK d k_M_nextArgument 36 [mR 107, mI v1] [mI s1, mR 107] h cV pT (F_M_nextArgument_36  v1 s1 h) := by
  unfold F_M_nextArgument_36
  refine z_go (fun Q hq => x_iconst (dA d_M_nextArgument 23 rfl) hq) ?_
  refine z_gd (fun g1 => ?_)
  refine z_bnd (rest := []) (st1 := fun v => mI v :: []) (S_M_need (d := 1) (Nat.le_refl _) L g1 (inR_lit (1 : Int) rfl)) (fun _ hx => absurd hx List.not_mem_nil) (fun _ => rfl) (fun Q' Q => x_callV (as := [mI s1, mI (1 : Int)]) (rest := []) (k' := k_M_need) (dA d_M_nextArgument 24 rfl) o_M_need lk_M_181 im_M_need se_M_need rfl (L.sh (x := (12, 66)) rfl) (by decide) (Nat.le_of_ble_eq_true rfl) (Nat.le_trans (Nat.le_of_ble_eq_true rfl) hd) (Nat.le_of_ble_eq_true rfl)) (fun x4 h2 e3 p5 => ?_)
  have L6 := L.ext e3
  refine z_br (fun Q => x_if_eq (dA d_M_nextArgument 25 rfl) rfl p5.inR) (fun c7 => ?_) (fun c7 => ?_)
  · exact z_retv (dA d_M_nextArgument 34 rfl) rfl
  · refine z_go (fun Q hq => x_aload_n (dA d_M_nextArgument 26 rfl) rfl rfl (x_getR (dA d_M_nextArgument 27 rfl) f_M_42 (L6.sh (x := (12, 66)) rfl) (by decide) (by decide) rfl (L6.rf 119 rfl) (x_iload_n (dA d_M_nextArgument 28 rfl) rfl rfl (x_dup2 (dA d_M_nextArgument 29 rfl) rfl rfl hq)))) ?_
    refine z_gd (fun g8 => ?_)
    refine z_go (fun Q hq => x_iald (dA d_M_nextArgument 30 rfl) (L6.sh (x := (100, 6)) rfl) g8.1 g8.2 (by decide) (x_iconst (dA d_M_nextArgument 31 rfl) hq)) ?_
    refine z_gd (fun g9 => ?_)
    refine z_go (fun Q hq => x_iadd (dA d_M_nextArgument 32 rfl) hq) ?_
    refine z_sto (Ext.pi (L6.sh (x := (100, 6)) rfl) (by decide) g9) (fun Q hq => x_iast (dA d_M_nextArgument 33 rfl) (L6.sh (x := (100, 6)) rfl) g8.1 g8.2 (by decide) hq) (fun h10 e11 => ?_)
    have L12 := L6.ext e11
    exact z_retv (dA d_M_nextArgument 34 rfl) rfl
noncomputable def F_M_nextArgument (a1 : Int) (h : MH) : RS Unit := gd (inR ((6 : Int) * a1)) (gd (0 ≤ a1 ∧ a1 < 6) (gd (inR (((6 : Int) * a1) + (mGi h 118 a1.toNat))) (gd (0 ≤ (((6 : Int) * a1) + (mGi h 118 a1.toNat)) ∧ (((6 : Int) * a1) + (mGi h 118 a1.toNat)) < 36) (sto (mPi h 119 (((6 : Int) * a1) + (mGi h 118 a1.toNat)).toNat (mGi h 107 8)) fun h17 => if (5 : Int) ≤ (mGi h17 118 a1.toNat) then F_M_nextArgument_36 a1 (0 : Int) h17 else F_M_nextArgument_36 a1 (1 : Int) h17))))
theorem S_M_nextArgument {d : Nat} (hd : 2 ≤ d) {a1 : Int} {h : MH} (L : LayC h) (ra1 : inR a1) : OK d k_M_nextArgument 0 [mR 107, mI a1] [] h cV pT (F_M_nextArgument  a1 h) := by
  unfold F_M_nextArgument
  refine z_go (fun Q hq => x_aload_n (dA d_M_nextArgument 0 rfl) rfl rfl (x_getR (dA d_M_nextArgument 1 rfl) f_M_45 (L.sh (x := (12, 66)) rfl) (by decide) (by decide) rfl (L.rf 120 rfl) (x_bipush (dA d_M_nextArgument 2 rfl) (by decide) (x_iload_n (dA d_M_nextArgument 3 rfl) rfl rfl hq)))) ?_
  refine z_gd (fun g13 => ?_)
  refine z_go (fun Q hq => x_imul (dA d_M_nextArgument 4 rfl) (x_aload_n (dA d_M_nextArgument 5 rfl) rfl rfl (x_getR (dA d_M_nextArgument 6 rfl) f_M_42 (L.sh (x := (12, 66)) rfl) (by decide) (by decide) rfl (L.rf 119 rfl) (x_iload_n (dA d_M_nextArgument 7 rfl) rfl rfl hq)))) ?_
  refine z_gd (fun g14 => ?_)
  refine z_go (fun Q hq => x_iald (dA d_M_nextArgument 8 rfl) (L.sh (x := (100, 6)) rfl) g14.1 g14.2 (by decide) hq) ?_
  refine z_gd (fun g15 => ?_)
  refine z_go (fun Q hq => x_iadd (dA d_M_nextArgument 9 rfl) (x_aload_n (dA d_M_nextArgument 10 rfl) rfl rfl (x_getI (dA d_M_nextArgument 11 rfl) f_M_175 (L.sh (x := (12, 66)) rfl) (by decide) (by decide) rfl hq))) ?_
  refine z_gd (fun g16 => ?_)
  refine z_sto (Ext.pi (L.sh (x := (100, 36)) rfl) (by decide) (L.rg _ _)) (fun Q hq => x_iast (dA d_M_nextArgument 12 rfl) (L.sh (x := (100, 36)) rfl) g16.1 g16.2 (by decide) hq) (fun h17 e18 => ?_)
  have L19 := L.ext e18
  refine z_go (fun Q hq => x_aload_n (dA d_M_nextArgument 13 rfl) rfl rfl (x_aload_n (dA d_M_nextArgument 14 rfl) rfl rfl (x_getR (dA d_M_nextArgument 15 rfl) f_M_42 (L19.sh (x := (12, 66)) rfl) (by decide) (by decide) rfl (L19.rf 119 rfl) (x_iload_n (dA d_M_nextArgument 16 rfl) rfl rfl (x_iald (dA d_M_nextArgument 17 rfl) (L19.sh (x := (100, 6)) rfl) g14.1 g14.2 (by decide) (x_iconst (dA d_M_nextArgument 18 rfl) hq)))))) ?_
  refine z_br (fun Q => x_icmp_ge (dA d_M_nextArgument 19 rfl) rfl (L19.rg _ _) (inR_lit (5 : Int) rfl)) (fun c20 => ?_) (fun c20 => ?_)
  · refine z_go (fun Q hq => x_iconst (dA d_M_nextArgument 22 rfl) hq) ?_
    exact S_M_nextArgument_36 hd  L19 ra1 (inR_lit (0 : Int) rfl)
  · refine z_go (fun Q hq => x_iconst (dA d_M_nextArgument 20 rfl) (x_goto (dA d_M_nextArgument 21 rfl) rfl hq)) ?_
    exact S_M_nextArgument_36 hd  L19 ra1 (inR_lit (1 : Int) rfl)
/-! TwoMillsModel.single(I)V -/
noncomputable def F_M_single_157 (s1 : Int) (s2 : Int) (s3 : Int) (h : MH) : RS Unit := gd (inR (s2 + s3)) (gd (0 ≤ s1 ∧ s1 < 6) (sto (mPi h 120 s1.toNat (s2 + s3)) fun h3 => some (.inl (), h3)))
theorem S_M_single_157 {d : Nat} (hd : 6 ≤ d) {s1 : Int} {s2 : Int} {s3 : Int} {h : MH} (L : LayC h) (rs1 : inR s1) (rs2 : inR s2) (rs3 : inR s3) : OK d k_M_single 157 [mN, mN, mN, mN] [mI s3, mI s2, mI s1, mR 120] h cV pT (F_M_single_157  s1 s2 s3 h) := by
  unfold F_M_single_157
  refine z_gd (fun g1 => ?_)
  refine z_go (fun Q hq => x_iadd (dA d_M_single 89 rfl) hq) ?_
  refine z_gd (fun g2 => ?_)
  refine z_sto (Ext.pi (L.sh (x := (100, 6)) rfl) (by decide) g1) (fun Q hq => x_iast (dA d_M_single 90 rfl) (L.sh (x := (100, 6)) rfl) g2.1 g2.2 (by decide) hq) (fun h3 e4 => ?_)
  have L5 := L.ext e4
  exact z_retv (dA d_M_single 91 rfl) rfl
noncomputable def F_M_single_139 (v1 : Int) (v2 : Int) (h : MH) : RS Unit := gd (0 ≤ v2 ∧ v2 < 6) (if v1 = (40 : Int) then F_M_single_157 v2 (mGi h 120 v2.toNat) (1 : Int) h else F_M_single_157 v2 (mGi h 120 v2.toNat) (-1 : Int) h)
theorem S_M_single_139 {d : Nat} (hd : 6 ≤ d) {v1 : Int} {v2 : Int} {h : MH} (L : LayC h) (rv1 : inR v1) (rv2 : inR v2) : OK d k_M_single 139 [mR 107, mI v1, mI v2, mN] [] h cV pT (F_M_single_139  v1 v2 h) := by
  unfold F_M_single_139
  refine z_go (fun Q hq => x_aload_n (dA d_M_single 78 rfl) rfl rfl (x_getR (dA d_M_single 79 rfl) f_M_48 (L.sh (x := (12, 66)) rfl) (by decide) (by decide) rfl (L.rf 121 rfl) (x_iload_n (dA d_M_single 80 rfl) rfl rfl (x_dup2 (dA d_M_single 81 rfl) rfl rfl hq)))) ?_
  refine z_gd (fun g6 => ?_)
  refine z_go (fun Q hq => x_iald (dA d_M_single 82 rfl) (L.sh (x := (100, 6)) rfl) g6.1 g6.2 (by decide) (x_iload_n (dA d_M_single 83 rfl) rfl rfl (x_bipush (dA d_M_single 84 rfl) (by decide) hq))) ?_
  refine z_brn (fun Q => x_icmp_ne (dA d_M_single 85 rfl) rfl rv1 (inR_lit (40 : Int) rfl)) (fun c7 => ?_) (fun c7 => ?_)
  · refine z_go (fun Q hq => x_iconst (dA d_M_single 86 rfl) (x_goto (dA d_M_single 87 rfl) rfl hq)) ?_
    refine z_fgt (ls' := [mN, mN, mN, mN]) ⟨.inl rfl, .inl rfl, .inl rfl, .inl rfl, trivial⟩ ?_
    exact S_M_single_157 hd  L rv2 (L.rg _ _) (inR_lit (1 : Int) rfl)
  · refine z_go (fun Q hq => x_iconst (dA d_M_single 88 rfl) hq) ?_
    refine z_fgt (ls' := [mN, mN, mN, mN]) ⟨.inl rfl, .inl rfl, .inl rfl, .inl rfl, trivial⟩ ?_
    exact S_M_single_157 hd  L rv2 (L.rg _ _) (inR_lit (-1 : Int) rfl)
noncomputable def F_M_single_115 (v1 : Int) (v2 : Int) (h : MH) : RS Unit := if v2 < 0 then some (.inl (), h) else if (mGi h 107 7) ≤ v2 then some (.inl (), h) else if v1 = (40 : Int) then F_M_single_139 v1 v2 h else if v1 = (41 : Int) then F_M_single_139 v1 v2 h else some (.inl (), h)
theorem S_M_single_115 {d : Nat} (hd : 6 ≤ d) {v1 : Int} {v2 : Int} {h : MH} (L : LayC h) (rv1 : inR v1) (rv2 : inR v2) : OK d k_M_single 115 [mR 107, mI v1, mI v2, mN] [] h cV pT (F_M_single_115  v1 v2 h) := by
  unfold F_M_single_115
  refine z_go (fun Q hq => x_iload_n (dA d_M_single 66 rfl) rfl rfl hq) ?_
  refine z_br (fun Q => x_if_lt (dA d_M_single 67 rfl) rfl rv2) (fun c8 => ?_) (fun c8 => ?_)
  · exact z_retv (dA d_M_single 91 rfl) rfl
  · refine z_go (fun Q hq => x_iload_n (dA d_M_single 68 rfl) rfl rfl (x_aload_n (dA d_M_single 69 rfl) rfl rfl (x_getI (dA d_M_single 70 rfl) f_M_172 (L.sh (x := (12, 66)) rfl) (by decide) (by decide) rfl hq))) ?_
    refine z_br (fun Q => x_icmp_ge (dA d_M_single 71 rfl) rfl rv2 (L.rg _ _)) (fun c9 => ?_) (fun c9 => ?_)
    · exact z_retv (dA d_M_single 91 rfl) rfl
    · refine z_go (fun Q hq => x_iload_n (dA d_M_single 72 rfl) rfl rfl (x_bipush (dA d_M_single 73 rfl) (by decide) hq)) ?_
      refine z_br (fun Q => x_icmp_eq (dA d_M_single 74 rfl) rfl rv1 (inR_lit (40 : Int) rfl)) (fun c10 => ?_) (fun c10 => ?_)
      · exact S_M_single_139 hd  L rv1 rv2
      · refine z_go (fun Q hq => x_iload_n (dA d_M_single 75 rfl) rfl rfl (x_bipush (dA d_M_single 76 rfl) (by decide) hq)) ?_
        refine z_brn (fun Q => x_icmp_ne (dA d_M_single 77 rfl) rfl rv1 (inR_lit (41 : Int) rfl)) (fun c11 => ?_) (fun c11 => ?_)
        · exact S_M_single_139 hd  L rv1 rv2
        · exact z_retv (dA d_M_single 91 rfl) rfl
noncomputable def F_M_single_110 (v1 : Int) (v2 : Int) (h : MH) : RS Unit := bnd (F_M_put v1 h) fun x14 h12 => F_M_single_115 v1 v2 h12
theorem S_M_single_110 {d : Nat} (hd : 6 ≤ d) {v1 : Int} {v2 : Int} {h : MH} (L : LayC h) (rv1 : inR v1) (rv2 : inR v2) : OK d k_M_single 110 [mR 107, mI v1, mI v2, mN] [] h cV pT (F_M_single_110  v1 v2 h) := by
  unfold F_M_single_110
  refine z_go (fun Q hq => x_aload_n (dA d_M_single 63 rfl) rfl rfl (x_iload_n (dA d_M_single 64 rfl) rfl rfl hq)) ?_
  refine z_bnd (rest := []) (st1 := fun _ => []) (S_M_put (d := 2) (Nat.le_refl _) L rv1) (fun _ hx => absurd hx List.not_mem_nil) (fun _ => rfl) (fun Q' Q => x_callV (as := [mI v1]) (rest := []) (k' := k_M_put) (dA d_M_single 65 rfl) o_M_put lk_M_262 im_M_put se_M_put rfl (L.sh (x := (12, 66)) rfl) (by decide) (Nat.le_of_ble_eq_true rfl) (Nat.le_trans (Nat.le_of_ble_eq_true rfl) hd) (Nat.le_of_ble_eq_true rfl)) (fun x14 h12 e13 p15 => ?_)
  have L16 := L.ext e13
  exact S_M_single_115 hd  L16 rv1 rv2
noncomputable def F_M_single_92 (v1 : Int) (v2 : Int) (v3 : Int) (h : MH) : RS Unit := if v3 = 0 then F_M_single_110 v1 v2 h else if v1 = (44 : Int) then bnd (F_M_nextArgument v2 h) fun x21 h19 => F_M_single_115 v1 v2 h19 else F_M_single_110 v1 v2 h
theorem S_M_single_92 {d : Nat} (hd : 6 ≤ d) {v1 : Int} {v2 : Int} {v3 : Int} {h : MH} (L : LayC h) (rv1 : inR v1) (rv2 : inR v2) (rv3 : inR v3) : OK d k_M_single 92 [mR 107, mI v1, mI v2, mI v3] [] h cV pT (F_M_single_92  v1 v2 v3 h) := by
  unfold F_M_single_92
  refine z_go (fun Q hq => x_iload_n (dA d_M_single 54 rfl) rfl rfl hq) ?_
  refine z_br (fun Q => x_if_eq (dA d_M_single 55 rfl) rfl rv3) (fun c17 => ?_) (fun c17 => ?_)
  · refine z_fgt (ls' := [mR 107, mI v1, mI v2, mN]) ⟨.inr rfl, .inr rfl, .inr rfl, .inl rfl, trivial⟩ ?_
    exact S_M_single_110 hd  L rv1 rv2
  · refine z_go (fun Q hq => x_iload_n (dA d_M_single 56 rfl) rfl rfl (x_bipush (dA d_M_single 57 rfl) (by decide) hq)) ?_
    refine z_brn (fun Q => x_icmp_ne (dA d_M_single 58 rfl) rfl rv1 (inR_lit (44 : Int) rfl)) (fun c18 => ?_) (fun c18 => ?_)
    · refine z_go (fun Q hq => x_aload_n (dA d_M_single 59 rfl) rfl rfl (x_iload_n (dA d_M_single 60 rfl) rfl rfl hq)) ?_
      refine z_bnd (rest := []) (st1 := fun _ => []) (S_M_nextArgument (d := 2) (Nat.le_refl _) L rv2) (fun _ hx => absurd hx List.not_mem_nil) (fun _ => rfl) (fun Q' Q => x_callV (as := [mI v2]) (rest := []) (k' := k_M_nextArgument) (dA d_M_single 61 rfl) o_M_nextArgument lk_M_292 im_M_nextArgument se_M_nextArgument rfl (L.sh (x := (12, 66)) rfl) (by decide) (Nat.le_of_ble_eq_true rfl) (Nat.le_trans (Nat.le_of_ble_eq_true rfl) hd) (Nat.le_of_ble_eq_true rfl)) (fun x21 h19 e20 p22 => ?_)
      have L23 := L.ext e20
      refine z_go (fun Q hq => x_goto (dA d_M_single 62 rfl) rfl hq) ?_
      refine z_fgt (ls' := [mR 107, mI v1, mI v2, mN]) ⟨.inr rfl, .inr rfl, .inr rfl, .inl rfl, trivial⟩ ?_
      exact S_M_single_115 hd  L23 rv1 rv2
    · refine z_fgt (ls' := [mR 107, mI v1, mI v2, mN]) ⟨.inr rfl, .inr rfl, .inr rfl, .inl rfl, trivial⟩ ?_
      exact S_M_single_110 hd  L rv1 rv2
noncomputable def F_M_single_68 (v1 : Int) (v2 : Int) (v3 : Int) (h : MH) : RS Unit := if v3 = 0 then F_M_single_92 v1 v2 v3 h else if v1 = (41 : Int) then gd (0 ≤ v2 ∧ v2 < 6) (bnd (F_M_call (mGi h 117 v2.toNat) v2 h) fun x29 h27 => F_M_single_115 v1 v2 h27) else F_M_single_92 v1 v2 v3 h
theorem S_M_single_68 {d : Nat} (hd : 6 ≤ d) {v1 : Int} {v2 : Int} {v3 : Int} {h : MH} (L : LayC h) (rv1 : inR v1) (rv2 : inR v2) (rv3 : inR v3) : OK d k_M_single 68 [mR 107, mI v1, mI v2, mI v3] [] h cV pT (F_M_single_68  v1 v2 v3 h) := by
  unfold F_M_single_68
  refine z_go (fun Q hq => x_iload_n (dA d_M_single 41 rfl) rfl rfl hq) ?_
  refine z_br (fun Q => x_if_eq (dA d_M_single 42 rfl) rfl rv3) (fun c24 => ?_) (fun c24 => ?_)
  · exact S_M_single_92 hd  L rv1 rv2 rv3
  · refine z_go (fun Q hq => x_iload_n (dA d_M_single 43 rfl) rfl rfl (x_bipush (dA d_M_single 44 rfl) (by decide) hq)) ?_
    refine z_brn (fun Q => x_icmp_ne (dA d_M_single 45 rfl) rfl rv1 (inR_lit (41 : Int) rfl)) (fun c25 => ?_) (fun c25 => ?_)
    · refine z_go (fun Q hq => x_aload_n (dA d_M_single 46 rfl) rfl rfl (x_aload_n (dA d_M_single 47 rfl) rfl rfl (x_getR (dA d_M_single 48 rfl) f_M_39 (L.sh (x := (12, 66)) rfl) (by decide) (by decide) rfl (L.rf 118 rfl) (x_iload_n (dA d_M_single 49 rfl) rfl rfl hq)))) ?_
      refine z_gd (fun g26 => ?_)
      refine z_go (fun Q hq => x_iald (dA d_M_single 50 rfl) (L.sh (x := (100, 6)) rfl) g26.1 g26.2 (by decide) (x_iload_n (dA d_M_single 51 rfl) rfl rfl hq)) ?_
      refine z_bnd (rest := []) (st1 := fun _ => []) (S_M_call (d := 5) (Nat.le_refl _) L (L.rg _ _) rv2) (fun _ hx => absurd hx List.not_mem_nil) (fun _ => rfl) (fun Q' Q => x_callV (as := [mI (mGi h 117 v2.toNat), mI v2]) (rest := []) (k' := k_M_call) (dA d_M_single 52 rfl) o_M_call lk_M_289 im_M_call se_M_call rfl (L.sh (x := (12, 66)) rfl) (by decide) (Nat.le_of_ble_eq_true rfl) (Nat.le_trans (Nat.le_of_ble_eq_true rfl) hd) (Nat.le_of_ble_eq_true rfl)) (fun x29 h27 e28 p30 => ?_)
      have L31 := L.ext e28
      refine z_go (fun Q hq => x_goto (dA d_M_single 53 rfl) rfl hq) ?_
      refine z_fgt (ls' := [mR 107, mI v1, mI v2, mN]) ⟨.inr rfl, .inr rfl, .inr rfl, .inl rfl, trivial⟩ ?_
      exact S_M_single_115 hd  L31 rv1 rv2
    · exact S_M_single_92 hd  L rv1 rv2 rv3
noncomputable def F_M_single_42 (v1 : Int) (v2 : Int) (v3 : Int) (h : MH) : RS Unit := gd (inR ((6 : Int) * v2)) (gd (0 ≤ v2 ∧ v2 < 6) (gd (inR (((6 : Int) * v2) + (mGi h 118 v2.toNat))) (gd (inR ((((6 : Int) * v2) + (mGi h 118 v2.toNat)) - (1 : Int))) (gd (0 ≤ ((((6 : Int) * v2) + (mGi h 118 v2.toNat)) - (1 : Int)) ∧ ((((6 : Int) * v2) + (mGi h 118 v2.toNat)) - (1 : Int)) < 36) (if (mGi h 107 8) = (mGi h 119 ((((6 : Int) * v2) + (mGi h 118 v2.toNat)) - (1 : Int)).toNat) then some (.inl (), h) else F_M_single_68 v1 v2 v3 h)))))
theorem S_M_single_42 {d : Nat} (hd : 6 ≤ d) {v1 : Int} {v2 : Int} {v3 : Int} {h : MH} (L : LayC h) (rv1 : inR v1) (rv2 : inR v2) (rv3 : inR v3) : OK d k_M_single 42 [mR 107, mI v1, mI v2, mI v3] [] h cV pT (F_M_single_42  v1 v2 v3 h) := by
  unfold F_M_single_42
  refine z_go (fun Q hq => x_aload_n (dA d_M_single 24 rfl) rfl rfl (x_getI (dA d_M_single 25 rfl) f_M_175 (L.sh (x := (12, 66)) rfl) (by decide) (by decide) rfl (x_aload_n (dA d_M_single 26 rfl) rfl rfl (x_getR (dA d_M_single 27 rfl) f_M_45 (L.sh (x := (12, 66)) rfl) (by decide) (by decide) rfl (L.rf 120 rfl) (x_bipush (dA d_M_single 28 rfl) (by decide) (x_iload_n (dA d_M_single 29 rfl) rfl rfl hq)))))) ?_
  refine z_gd (fun g32 => ?_)
  refine z_go (fun Q hq => x_imul (dA d_M_single 30 rfl) (x_aload_n (dA d_M_single 31 rfl) rfl rfl (x_getR (dA d_M_single 32 rfl) f_M_42 (L.sh (x := (12, 66)) rfl) (by decide) (by decide) rfl (L.rf 119 rfl) (x_iload_n (dA d_M_single 33 rfl) rfl rfl hq)))) ?_
  refine z_gd (fun g33 => ?_)
  refine z_go (fun Q hq => x_iald (dA d_M_single 34 rfl) (L.sh (x := (100, 6)) rfl) g33.1 g33.2 (by decide) hq) ?_
  refine z_gd (fun g34 => ?_)
  refine z_go (fun Q hq => x_iadd (dA d_M_single 35 rfl) (x_iconst (dA d_M_single 36 rfl) hq)) ?_
  refine z_gd (fun g35 => ?_)
  refine z_go (fun Q hq => x_isub (dA d_M_single 37 rfl) hq) ?_
  refine z_gd (fun g36 => ?_)
  refine z_go (fun Q hq => x_iald (dA d_M_single 38 rfl) (L.sh (x := (100, 36)) rfl) g36.1 g36.2 (by decide) hq) ?_
  refine z_brn (fun Q => x_icmp_ne (dA d_M_single 39 rfl) rfl (L.rg _ _) (L.rg _ _)) (fun c37 => ?_) (fun c37 => ?_)
  · exact z_retv (dA d_M_single 40 rfl) rfl
  · exact S_M_single_68 hd  L rv1 rv2 rv3
noncomputable def F_M_single_25 (v1 : Int) (v2 : Int) (s0 : Int) (h : MH) : RS Unit := if s0 = 0 then F_M_single_68 v1 v2 s0 h else if v1 = (10 : Int) then F_M_single_42 v1 v2 s0 h else if v1 = (32 : Int) then F_M_single_42 v1 v2 s0 h else F_M_single_68 v1 v2 s0 h
theorem S_M_single_25 {d : Nat} (hd : 6 ≤ d) {v1 : Int} {v2 : Int} {s0 : Int} {h : MH} (L : LayC h) (rv1 : inR v1) (rv2 : inR v2) (rs0 : inR s0) : OK d k_M_single 25 [mR 107, mI v1, mI v2, mN] [mI s0] h cV pT (F_M_single_25  v1 v2 s0 h) := by
  unfold F_M_single_25
  refine z_go (fun Q hq => x_istore_n (dA d_M_single 15 rfl) rfl (by decide) rfl (x_iload_n (dA d_M_single 16 rfl) rfl rfl hq)) ?_
  refine z_br (fun Q => x_if_eq (dA d_M_single 17 rfl) rfl rs0) (fun c38 => ?_) (fun c38 => ?_)
  · exact S_M_single_68 hd  L rv1 rv2 rs0
  · refine z_go (fun Q hq => x_iload_n (dA d_M_single 18 rfl) rfl rfl (x_bipush (dA d_M_single 19 rfl) (by decide) hq)) ?_
    refine z_br (fun Q => x_icmp_eq (dA d_M_single 20 rfl) rfl rv1 (inR_lit (10 : Int) rfl)) (fun c39 => ?_) (fun c39 => ?_)
    · exact S_M_single_42 hd  L rv1 rv2 rs0
    · refine z_go (fun Q hq => x_iload_n (dA d_M_single 21 rfl) rfl rfl (x_bipush (dA d_M_single 22 rfl) (by decide) hq)) ?_
      refine z_brn (fun Q => x_icmp_ne (dA d_M_single 23 rfl) rfl rv1 (inR_lit (32 : Int) rfl)) (fun c40 => ?_) (fun c40 => ?_)
      · exact S_M_single_42 hd  L rv1 rv2 rs0
      · exact S_M_single_68 hd  L rv1 rv2 rs0
noncomputable def F_M_single_24 (v1 : Int) (v2 : Int) (h : MH) : RS Unit := F_M_single_25 v1 v2 (0 : Int) h
theorem S_M_single_24 {d : Nat} (hd : 6 ≤ d) {v1 : Int} {v2 : Int} {h : MH} (L : LayC h) (rv1 : inR v1) (rv2 : inR v2) : OK d k_M_single 24 [mR 107, mI v1, mI v2, mN] [] h cV pT (F_M_single_24  v1 v2 h) := by
  unfold F_M_single_24
  refine z_go (fun Q hq => x_iconst (dA d_M_single 14 rfl) hq) ?_
  exact S_M_single_25 hd  L rv1 rv2 (inR_lit (0 : Int) rfl)
noncomputable def F_M_single (a1 : Int) (h : MH) : RS Unit := gd (inR ((mGi h 107 7) - (1 : Int))) (if ((mGi h 107 7) - (1 : Int)) < 0 then F_M_single_24 a1 ((mGi h 107 7) - (1 : Int)) h else gd (0 ≤ ((mGi h 107 7) - (1 : Int)) ∧ ((mGi h 107 7) - (1 : Int)) < 6) (if (mGi h 120 ((mGi h 107 7) - (1 : Int)).toNat) = 0 then F_M_single_25 a1 ((mGi h 107 7) - (1 : Int)) (1 : Int) h else F_M_single_24 a1 ((mGi h 107 7) - (1 : Int)) h))
theorem S_M_single {d : Nat} (hd : 6 ≤ d) {a1 : Int} {h : MH} (L : LayC h) (ra1 : inR a1) : OK d k_M_single 0 [mR 107, mI a1, mN, mN] [] h cV pT (F_M_single  a1 h) := by
  unfold F_M_single
  refine z_go (fun Q hq => x_aload_n (dA d_M_single 0 rfl) rfl rfl (x_getI (dA d_M_single 1 rfl) f_M_172 (L.sh (x := (12, 66)) rfl) (by decide) (by decide) rfl (x_iconst (dA d_M_single 2 rfl) hq))) ?_
  refine z_gd (fun g41 => ?_)
  refine z_go (fun Q hq => x_isub (dA d_M_single 3 rfl) (x_istore_n (dA d_M_single 4 rfl) rfl (by decide) rfl (x_iload_n (dA d_M_single 5 rfl) rfl rfl hq))) ?_
  refine z_br (fun Q => x_if_lt (dA d_M_single 6 rfl) rfl g41) (fun c42 => ?_) (fun c42 => ?_)
  · exact S_M_single_24 hd  L ra1 g41
  · refine z_go (fun Q hq => x_aload_n (dA d_M_single 7 rfl) rfl rfl (x_getR (dA d_M_single 8 rfl) f_M_48 (L.sh (x := (12, 66)) rfl) (by decide) (by decide) rfl (L.rf 121 rfl) (x_iload_n (dA d_M_single 9 rfl) rfl rfl hq))) ?_
    refine z_gd (fun g43 => ?_)
    refine z_go (fun Q hq => x_iald (dA d_M_single 10 rfl) (L.sh (x := (100, 6)) rfl) g43.1 g43.2 (by decide) hq) ?_
    refine z_brn (fun Q => x_if_ne (dA d_M_single 11 rfl) rfl (L.rg _ _)) (fun c44 => ?_) (fun c44 => ?_)
    · refine z_go (fun Q hq => x_iconst (dA d_M_single 12 rfl) (x_goto (dA d_M_single 13 rfl) rfl hq)) ?_
      exact S_M_single_25 hd  L ra1 g41 (inR_lit (1 : Int) rfl)
    · exact S_M_single_24 hd  L ra1 g41
/-! TwoMillsModel.piece()V -/
noncomputable def F_M_piece_35 (v1 : Int) (h : MH) : RS Unit := if v1 = (96 : Int) then bnd (F_M_quoted h) fun x4 h2 => some (.inl (), h2) else bnd (F_M_isLetter v1 h) fun x9 h7 => if x9 = 0 then bnd (F_M_single v1 h7) fun x15 h13 => some (.inl (), h13) else bnd (F_M_word h7) fun x20 h18 => some (.inl (), h18)
theorem S_M_piece_35 {d : Nat} (hd : 7 ≤ d) {v1 : Int} {h : MH} (L : LayC h) (rv1 : inR v1) : OK d k_M_piece 35 [mR 107, mI v1] [] h cV pT (F_M_piece_35  v1 h) := by
  unfold F_M_piece_35
  refine z_go (fun Q hq => x_iload_n (dA d_M_piece 20 rfl) rfl rfl (x_bipush (dA d_M_piece 21 rfl) (by decide) hq)) ?_
  refine z_brn (fun Q => x_icmp_ne (dA d_M_piece 22 rfl) rfl rv1 (inR_lit (96 : Int) rfl)) (fun c1 => ?_) (fun c1 => ?_)
  · refine z_go (fun Q hq => x_aload_n (dA d_M_piece 23 rfl) rfl rfl hq) ?_
    refine z_bnd (rest := []) (st1 := fun _ => []) (S_M_quoted (d := 3) (Nat.le_refl _) L ) (fun _ hx => absurd hx List.not_mem_nil) (fun _ => rfl) (fun Q' Q => x_callV (as := []) (rest := []) (k' := k_M_quoted) (dA d_M_piece 24 rfl) o_M_quoted lk_M_295 im_M_quoted se_M_quoted rfl (L.sh (x := (12, 66)) rfl) (by decide) (Nat.le_of_ble_eq_true rfl) (Nat.le_trans (Nat.le_of_ble_eq_true rfl) hd) (Nat.le_of_ble_eq_true rfl)) (fun x4 h2 e3 p5 => ?_)
    have L6 := L.ext e3
    refine z_go (fun Q hq => x_goto (dA d_M_piece 25 rfl) rfl hq) ?_
    exact z_retv (dA d_M_piece 35 rfl) rfl
  · refine z_go (fun Q hq => x_iload_n (dA d_M_piece 26 rfl) rfl rfl hq) ?_
    refine z_bnd (rest := []) (st1 := fun v => mI v :: []) (S_M_isLetter (d := 0) (Nat.le_refl _) L rv1) (fun _ hx => absurd hx List.not_mem_nil) (fun _ => rfl) (fun Q' Q => x_callS (as := [mI v1]) (rest := []) (k' := k_M_isLetter) (dA d_M_piece 27 rfl) o_M_isLetter lk_M_150 st_M_isLetter (Nat.le_of_ble_eq_true rfl) (Nat.le_trans (Nat.le_of_ble_eq_true rfl) hd) (Nat.le_of_ble_eq_true rfl)) (fun x9 h7 e8 p10 => ?_)
    have L11 := L.ext e8
    refine z_br (fun Q => x_if_eq (dA d_M_piece 28 rfl) rfl p10.inR) (fun c12 => ?_) (fun c12 => ?_)
    · refine z_go (fun Q hq => x_aload_n (dA d_M_piece 32 rfl) rfl rfl (x_iload_n (dA d_M_piece 33 rfl) rfl rfl hq)) ?_
      refine z_bnd (rest := []) (st1 := fun _ => []) (S_M_single (d := 6) (Nat.le_refl _) L11 rv1) (fun _ hx => absurd hx List.not_mem_nil) (fun _ => rfl) (fun Q' Q => x_callV (as := [mI v1]) (rest := []) (k' := k_M_single) (dA d_M_piece 34 rfl) o_M_single lk_M_301 im_M_single se_M_single rfl (L11.sh (x := (12, 66)) rfl) (by decide) (Nat.le_of_ble_eq_true rfl) (Nat.le_trans (Nat.le_of_ble_eq_true rfl) hd) (Nat.le_of_ble_eq_true rfl)) (fun x15 h13 e14 p16 => ?_)
      have L17 := L11.ext e14
      exact z_retv (dA d_M_piece 35 rfl) rfl
    · refine z_go (fun Q hq => x_aload_n (dA d_M_piece 29 rfl) rfl rfl hq) ?_
      refine z_bnd (rest := []) (st1 := fun _ => []) (S_M_word (d := 6) (Nat.le_refl _) L11 ) (fun _ hx => absurd hx List.not_mem_nil) (fun _ => rfl) (fun Q' Q => x_callV (as := []) (rest := []) (k' := k_M_word) (dA d_M_piece 30 rfl) o_M_word lk_M_298 im_M_word se_M_word rfl (L11.sh (x := (12, 66)) rfl) (by decide) (Nat.le_of_ble_eq_true rfl) (Nat.le_trans (Nat.le_of_ble_eq_true rfl) hd) (Nat.le_of_ble_eq_true rfl)) (fun x20 h18 e19 p21 => ?_)
      have L22 := L11.ext e19
      refine z_go (fun Q hq => x_goto (dA d_M_piece 31 rfl) rfl hq) ?_
      exact z_retv (dA d_M_piece 35 rfl) rfl
noncomputable def F_M_piece (h : MH) : RS Unit := gd (inR ((mGi h 107 3) - (1 : Int))) (gd (0 ≤ ((mGi h 107 3) - (1 : Int)) ∧ ((mGi h 107 3) - (1 : Int)) < 500) (if (mGi h 109 ((mGi h 107 3) - (1 : Int)).toNat) = (96 : Int) then F_M_piece_35 (mGi h 109 ((mGi h 107 3) - (1 : Int)).toNat) h else bnd (F_M_isLetter (mGi h 109 ((mGi h 107 3) - (1 : Int)).toNat) h) fun x28 h26 => if x28 = 0 then gd (inR ((mGi h26 107 3) - (1 : Int))) (sto (mPi h26 107 3 ((mGi h26 107 3) - (1 : Int))) fun h33 => F_M_piece_35 (mGi h 109 ((mGi h 107 3) - (1 : Int)).toNat) h33) else F_M_piece_35 (mGi h 109 ((mGi h 107 3) - (1 : Int)).toNat) h26))
theorem S_M_piece {d : Nat} (hd : 7 ≤ d) {h : MH} (L : LayC h) : OK d k_M_piece 0 [mR 107, mN] [] h cV pT (F_M_piece   h) := by
  unfold F_M_piece
  refine z_go (fun Q hq => x_aload_n (dA d_M_piece 0 rfl) rfl rfl (x_getR (dA d_M_piece 1 rfl) f_M_13 (L.sh (x := (12, 66)) rfl) (by decide) (by decide) rfl (L.rf 110 rfl) (x_aload_n (dA d_M_piece 2 rfl) rfl rfl (x_getI (dA d_M_piece 3 rfl) f_M_192 (L.sh (x := (12, 66)) rfl) (by decide) (by decide) rfl (x_iconst (dA d_M_piece 4 rfl) hq))))) ?_
  refine z_gd (fun g23 => ?_)
  refine z_go (fun Q hq => x_isub (dA d_M_piece 5 rfl) hq) ?_
  refine z_gd (fun g24 => ?_)
  refine z_go (fun Q hq => x_cald (dA d_M_piece 6 rfl) (L.sh (x := (101, 500)) rfl) g24.1 g24.2 (by decide) (x_istore_n (dA d_M_piece 7 rfl) rfl (by decide) rfl (x_iload_n (dA d_M_piece 8 rfl) rfl rfl (x_bipush (dA d_M_piece 9 rfl) (by decide) hq)))) ?_
  refine z_br (fun Q => x_icmp_eq (dA d_M_piece 10 rfl) rfl (L.rg _ _) (inR_lit (96 : Int) rfl)) (fun c25 => ?_) (fun c25 => ?_)
  · exact S_M_piece_35 hd  L (L.rg _ _)
  · refine z_go (fun Q hq => x_iload_n (dA d_M_piece 11 rfl) rfl rfl hq) ?_
    refine z_bnd (rest := []) (st1 := fun v => mI v :: []) (S_M_isLetter (d := 0) (Nat.le_refl _) L (L.rg _ _)) (fun _ hx => absurd hx List.not_mem_nil) (fun _ => rfl) (fun Q' Q => x_callS (as := [mI (mGi h 109 ((mGi h 107 3) - (1 : Int)).toNat)]) (rest := []) (k' := k_M_isLetter) (dA d_M_piece 12 rfl) o_M_isLetter lk_M_150 st_M_isLetter (Nat.le_of_ble_eq_true rfl) (Nat.le_trans (Nat.le_of_ble_eq_true rfl) hd) (Nat.le_of_ble_eq_true rfl)) (fun x28 h26 e27 p29 => ?_)
    have L30 := L.ext e27
    refine z_brn (fun Q => x_if_ne (dA d_M_piece 13 rfl) rfl p29.inR) (fun c31 => ?_) (fun c31 => ?_)
    · refine z_go (fun Q hq => x_aload_n (dA d_M_piece 14 rfl) rfl rfl (x_dup (dA d_M_piece 15 rfl) rfl (x_getI (dA d_M_piece 16 rfl) f_M_192 (L30.sh (x := (12, 66)) rfl) (by decide) (by decide) rfl (x_iconst (dA d_M_piece 17 rfl) hq)))) ?_
      refine z_gd (fun g32 => ?_)
      refine z_go (fun Q hq => x_isub (dA d_M_piece 18 rfl) hq) ?_
      refine z_sto (Ext.pi (L30.sh (x := (12, 66)) rfl) (by decide) g32) (fun Q hq => x_putI (dA d_M_piece 19 rfl) p_M_192 (L30.sh (x := (12, 66)) rfl) (by decide) cl_M rfl hq) (fun h33 e34 => ?_)
      have L35 := L30.ext e34
      exact S_M_piece_35 hd  L35 (L.rg _ _)
    · exact S_M_piece_35 hd  L30 (L.rg _ _)
/-! TwoMillsModel.first()I -/
noncomputable def F_M_first_132 (s1 : Int) (h : MH) : RS Int := gd (p01 s1) (bnd (F_M_need s1 (4 : Int) h) fun x4 h2 => if x4 = 0 then bnd (F_M_refuse (1 : Int) h2) fun x10 h8 => some (.inl x10, h8) else some (.inl (mGi h2 107 5), h2))
theorem S_M_first_132 {d : Nat} (hd : 8 ≤ d) {s1 : Int} {h : MH} (L : LayC h) (rs1 : inR s1) : OK d k_M_first 132 [mR 107, mN] [mI s1, mR 107] h cI inR (F_M_first_132  s1 h) := by
  unfold F_M_first_132
  refine z_go (fun Q hq => x_iconst (dA d_M_first 72 rfl) hq) ?_
  refine z_gd (fun g1 => ?_)
  refine z_bnd (rest := []) (st1 := fun v => mI v :: []) (S_M_need (d := 1) (Nat.le_refl _) L g1 (inR_lit (4 : Int) rfl)) (fun _ hx => absurd hx List.not_mem_nil) (fun _ => rfl) (fun Q' Q => x_callV (as := [mI s1, mI (4 : Int)]) (rest := []) (k' := k_M_need) (dA d_M_first 73 rfl) o_M_need lk_M_181 im_M_need se_M_need rfl (L.sh (x := (12, 66)) rfl) (by decide) (Nat.le_of_ble_eq_true rfl) (Nat.le_trans (Nat.le_of_ble_eq_true rfl) hd) (Nat.le_of_ble_eq_true rfl)) (fun x4 h2 e3 p5 => ?_)
  have L6 := L.ext e3
  refine z_br (fun Q => x_if_eq (dA d_M_first 74 rfl) rfl p5.inR) (fun c7 => ?_) (fun c7 => ?_)
  · refine z_go (fun Q hq => x_aload_n (dA d_M_first 78 rfl) rfl rfl (x_iconst (dA d_M_first 79 rfl) hq)) ?_
    refine z_bnd (rest := []) (st1 := fun v => mI v :: []) (S_M_refuse (d := 0) (Nat.le_refl _) L6 (inR_lit (1 : Int) rfl)) (fun _ hx => absurd hx List.not_mem_nil) (fun _ => rfl) (fun Q' Q => x_callV (as := [mI (1 : Int)]) (rest := []) (k' := k_M_refuse) (dA d_M_first 80 rfl) o_M_refuse lk_M_313 im_M_refuse se_M_refuse rfl (L6.sh (x := (12, 66)) rfl) (by decide) (Nat.le_of_ble_eq_true rfl) (Nat.le_trans (Nat.le_of_ble_eq_true rfl) hd) (Nat.le_of_ble_eq_true rfl)) (fun x10 h8 e9 p11 => ?_)
    have L12 := L6.ext e9
    exact z_reti (dA d_M_first 81 rfl) rfl p11
  · refine z_go (fun Q hq => x_aload_n (dA d_M_first 75 rfl) rfl rfl (x_getI (dA d_M_first 76 rfl) f_M_178 (L6.sh (x := (12, 66)) rfl) (by decide) (by decide) rfl (x_goto (dA d_M_first 77 rfl) rfl hq))) ?_
    exact z_reti (dA d_M_first 81 rfl) rfl (L6.rg _ _)
noncomputable def F_M_first_119 (h : MH) : RS Int := if (mGi h 107 7) = 0 then F_M_first_132 (1 : Int) h else F_M_first_132 (0 : Int) h
theorem S_M_first_119 {d : Nat} (hd : 8 ≤ d) {h : MH} (L : LayC h) : OK d k_M_first 119 [mR 107, mN] [] h cI inR (F_M_first_119   h) := by
  unfold F_M_first_119
  refine z_go (fun Q hq => x_aload_n (dA d_M_first 65 rfl) rfl rfl (x_aload_n (dA d_M_first 66 rfl) rfl rfl (x_getI (dA d_M_first 67 rfl) f_M_172 (L.sh (x := (12, 66)) rfl) (by decide) (by decide) rfl hq))) ?_
  refine z_brn (fun Q => x_if_ne (dA d_M_first 68 rfl) rfl (L.rg _ _)) (fun c13 => ?_) (fun c13 => ?_)
  · refine z_go (fun Q hq => x_iconst (dA d_M_first 69 rfl) (x_goto (dA d_M_first 70 rfl) rfl hq)) ?_
    exact S_M_first_132 hd  L (inR_lit (1 : Int) rfl)
  · refine z_go (fun Q hq => x_iconst (dA d_M_first 71 rfl) hq) ?_
    exact S_M_first_132 hd  L (inR_lit (0 : Int) rfl)
noncomputable def F_M_first_95 (G72 : MH → RS Int) (s1 : Int) (h : MH) : RS Int := gd (p01 s1) (bnd (F_M_need s1 (2 : Int) h) fun x17 h15 => if x17 = 0 then F_M_first_119  h15 else gd (inR ((mGi h15 107 4) + (1 : Int))) (sto (mPi h15 107 4 ((mGi h15 107 4) + (1 : Int))) fun h22 => bnd (F_M_piece h22) fun x27 h25 => G72  h25))
theorem S_M_first_95 {d : Nat} (hd : 8 ≤ d) {G72 : MH → RS Int} (hG72 : ∀ (h : MH), LayC h → OK d k_M_first 72 [mR 107, mN] [] h cI inR (G72  h)) {s1 : Int} {h : MH} (L : LayC h) (rs1 : inR s1) : OK d k_M_first 95 [mR 107, mN] [mI s1, mR 107] h cI inR (F_M_first_95 G72 s1 h) := by
  unfold F_M_first_95
  refine z_go (fun Q hq => x_iconst (dA d_M_first 53 rfl) hq) ?_
  refine z_gd (fun g14 => ?_)
  refine z_bnd (rest := []) (st1 := fun v => mI v :: []) (S_M_need (d := 1) (Nat.le_refl _) L g14 (inR_lit (2 : Int) rfl)) (fun _ hx => absurd hx List.not_mem_nil) (fun _ => rfl) (fun Q' Q => x_callV (as := [mI s1, mI (2 : Int)]) (rest := []) (k' := k_M_need) (dA d_M_first 54 rfl) o_M_need lk_M_181 im_M_need se_M_need rfl (L.sh (x := (12, 66)) rfl) (by decide) (Nat.le_of_ble_eq_true rfl) (Nat.le_trans (Nat.le_of_ble_eq_true rfl) hd) (Nat.le_of_ble_eq_true rfl)) (fun x17 h15 e16 p18 => ?_)
  have L19 := L.ext e16
  refine z_br (fun Q => x_if_eq (dA d_M_first 55 rfl) rfl p18.inR) (fun c20 => ?_) (fun c20 => ?_)
  · exact S_M_first_119 hd  L19 
  · refine z_go (fun Q hq => x_aload_n (dA d_M_first 56 rfl) rfl rfl (x_dup (dA d_M_first 57 rfl) rfl (x_getI (dA d_M_first 58 rfl) f_M_307 (L19.sh (x := (12, 66)) rfl) (by decide) (by decide) rfl (x_iconst (dA d_M_first 59 rfl) hq)))) ?_
    refine z_gd (fun g21 => ?_)
    refine z_go (fun Q hq => x_iadd (dA d_M_first 60 rfl) hq) ?_
    refine z_sto (Ext.pi (L19.sh (x := (12, 66)) rfl) (by decide) g21) (fun Q hq => x_putI (dA d_M_first 61 rfl) p_M_307 (L19.sh (x := (12, 66)) rfl) (by decide) cl_M rfl hq) (fun h22 e23 => ?_)
    have L24 := L19.ext e23
    refine z_go (fun Q hq => x_aload_n (dA d_M_first 62 rfl) rfl rfl hq) ?_
    refine z_bnd (rest := []) (st1 := fun _ => []) (S_M_piece (d := 7) (Nat.le_refl _) L24 ) (fun _ hx => absurd hx List.not_mem_nil) (fun _ => rfl) (fun Q' Q => x_callV (as := []) (rest := []) (k' := k_M_piece) (dA d_M_first 63 rfl) o_M_piece lk_M_310 im_M_piece se_M_piece rfl (L24.sh (x := (12, 66)) rfl) (by decide) (Nat.le_of_ble_eq_true rfl) (Nat.le_trans (Nat.le_of_ble_eq_true rfl) hd) (Nat.le_of_ble_eq_true rfl)) (fun x27 h25 e26 p28 => ?_)
    have L29 := L24.ext e26
    refine z_go (fun Q hq => x_goto (dA d_M_first 64 rfl) rfl hq) ?_
    exact hG72  h25 L29 
noncomputable def F_M_first_72_b (G72 : MH → RS Int) (h : MH) : RS Int := if (mGi h 107 3) ≤ 0 then F_M_first_119  h else if (600 : Int) ≤ (mGi h 107 4) then F_M_first_95 G72 (0 : Int) h else F_M_first_95 G72 (1 : Int) h
theorem S_M_first_72_b {d : Nat} (hd : 8 ≤ d) {G72 : MH → RS Int} (hG72 : ∀ (h : MH), LayC h → OK d k_M_first 72 [mR 107, mN] [] h cI inR (G72  h)) {h : MH} (L : LayC h) : OK d k_M_first 72 [mR 107, mN] [] h cI inR (F_M_first_72_b G72  h) := by
  unfold F_M_first_72_b
  refine z_go (fun Q hq => x_aload_n (dA d_M_first 42 rfl) rfl rfl (x_getI (dA d_M_first 43 rfl) f_M_192 (L.sh (x := (12, 66)) rfl) (by decide) (by decide) rfl hq)) ?_
  refine z_br (fun Q => x_if_le (dA d_M_first 44 rfl) rfl (L.rg _ _)) (fun c30 => ?_) (fun c30 => ?_)
  · exact S_M_first_119 hd  L 
  · refine z_go (fun Q hq => x_aload_n (dA d_M_first 45 rfl) rfl rfl (x_aload_n (dA d_M_first 46 rfl) rfl rfl (x_getI (dA d_M_first 47 rfl) f_M_307 (L.sh (x := (12, 66)) rfl) (by decide) (by decide) rfl (x_sipush (dA d_M_first 48 rfl) (by decide) hq)))) ?_
    refine z_br (fun Q => x_icmp_ge (dA d_M_first 49 rfl) rfl (L.rg _ _) (inR_lit (600 : Int) rfl)) (fun c31 => ?_) (fun c31 => ?_)
    · refine z_go (fun Q hq => x_iconst (dA d_M_first 52 rfl) hq) ?_
      exact S_M_first_95 hd hG72 L (inR_lit (0 : Int) rfl)
    · refine z_go (fun Q hq => x_iconst (dA d_M_first 50 rfl) (x_goto (dA d_M_first 51 rfl) rfl hq)) ?_
      exact S_M_first_95 hd hG72 L (inR_lit (1 : Int) rfl)
noncomputable def F_M_first_72 (h : MH) : RS Int := itr (fun self (q : MH) => F_M_first_72_b (fun h => self (h)) q) FU (h)
theorem S_M_first_72 {d : Nat} (hd : 8 ≤ d) {h : MH} (L : LayC h) : OK d k_M_first 72 [mR 107, mN] [] h cI inR (F_M_first_72   h) := by
  unfold F_M_first_72
  refine z_itr (P := fun q : MH => LayC q ∧ True) (ls := fun q : MH => [mR 107, mN]) (hp := fun q : MH => q) (fun self hs q hq => ?_) FU (h) ⟨L, trivial⟩
  exact S_M_first_72_b hd (fun h L => hs (h) ⟨L, trivial⟩) hq.1
noncomputable def F_M_first_39_b (G39 : Int → MH → RS Int) (v1 : Int) (h : MH) : RS Int := if (mGi h 107 3) ≤ v1 then F_M_first_72  h else gd (inR ((mGi h 107 3) - (1 : Int))) (gd (inR (((mGi h 107 3) - (1 : Int)) - v1)) (gd (0 ≤ v1 ∧ v1 < 400) (gd (0 ≤ (((mGi h 107 3) - (1 : Int)) - v1) ∧ (((mGi h 107 3) - (1 : Int)) - v1) < 500) (sto (mPi h 109 (((mGi h 107 3) - (1 : Int)) - v1).toNat (mGi h 108 v1.toNat)) fun h37 => gd (inR (v1 + (1 : Int))) (G39 (v1 + (1 : Int)) h37)))))
theorem S_M_first_39_b {d : Nat} (hd : 8 ≤ d) {G39 : Int → MH → RS Int} (hG39 : ∀ (v1 : Int) (h : MH), LayC h → inR v1 → OK d k_M_first 39 [mR 107, mI v1] [] h cI inR (G39 v1 h)) {v1 : Int} {h : MH} (L : LayC h) (rv1 : inR v1) : OK d k_M_first 39 [mR 107, mI v1] [] h cI inR (F_M_first_39_b G39 v1 h) := by
  unfold F_M_first_39_b
  refine z_go (fun Q hq => x_iload_n (dA d_M_first 23 rfl) rfl rfl (x_aload_n (dA d_M_first 24 rfl) rfl rfl (x_getI (dA d_M_first 25 rfl) f_M_192 (L.sh (x := (12, 66)) rfl) (by decide) (by decide) rfl hq))) ?_
  refine z_br (fun Q => x_icmp_ge (dA d_M_first 26 rfl) rfl rv1 (L.rg _ _)) (fun c32 => ?_) (fun c32 => ?_)
  · refine z_fgt (ls' := [mR 107, mN]) ⟨.inr rfl, .inl rfl, trivial⟩ ?_
    exact S_M_first_72 hd  L 
  · refine z_go (fun Q hq => x_aload_n (dA d_M_first 27 rfl) rfl rfl (x_getR (dA d_M_first 28 rfl) f_M_13 (L.sh (x := (12, 66)) rfl) (by decide) (by decide) rfl (L.rf 110 rfl) (x_aload_n (dA d_M_first 29 rfl) rfl rfl (x_getI (dA d_M_first 30 rfl) f_M_192 (L.sh (x := (12, 66)) rfl) (by decide) (by decide) rfl (x_iconst (dA d_M_first 31 rfl) hq))))) ?_
    refine z_gd (fun g33 => ?_)
    refine z_go (fun Q hq => x_isub (dA d_M_first 32 rfl) (x_iload_n (dA d_M_first 33 rfl) rfl rfl hq)) ?_
    refine z_gd (fun g34 => ?_)
    refine z_go (fun Q hq => x_isub (dA d_M_first 34 rfl) (x_aload_n (dA d_M_first 35 rfl) rfl rfl (x_getR (dA d_M_first 36 rfl) f_M_7 (L.sh (x := (12, 66)) rfl) (by decide) (by decide) rfl (L.rf 109 rfl) (x_iload_n (dA d_M_first 37 rfl) rfl rfl hq)))) ?_
    refine z_gd (fun g35 => ?_)
    refine z_go (fun Q hq => x_cald (dA d_M_first 38 rfl) (L.sh (x := (101, 400)) rfl) g35.1 g35.2 (by decide) hq) ?_
    refine z_gd (fun g36 => ?_)
    refine z_sto (Ext.pc (L.ch (L.sh (x := (101, 400)) rfl) _).1 (L.ch (L.sh (x := (101, 400)) rfl) _).2) (fun Q hq => x_cast (dA d_M_first 39 rfl) (L.sh (x := (101, 500)) rfl) g36.1 g36.2 (by decide) (L.ch (L.sh (x := (101, 400)) rfl) _).1 (L.ch (L.sh (x := (101, 400)) rfl) _).2 hq) (fun h37 e38 => ?_)
    have L39 := L.ext e38
    refine z_gd (fun g40 => ?_)
    refine z_go (fun Q hq => x_iinc (dA d_M_first 40 rfl) rfl (by decide) rfl (x_goto (dA d_M_first 41 rfl) rfl hq)) ?_
    exact hG39 (v1 + (1 : Int)) h37 L39 g40
noncomputable def F_M_first_39 (v1 : Int) (h : MH) : RS Int := itr (fun self (q : Int × MH) => F_M_first_39_b (fun v1 h => self (v1, h)) q.1 q.2) FU (v1, h)
theorem S_M_first_39 {d : Nat} (hd : 8 ≤ d) {v1 : Int} {h : MH} (L : LayC h) (rv1 : inR v1) : OK d k_M_first 39 [mR 107, mI v1] [] h cI inR (F_M_first_39  v1 h) := by
  unfold F_M_first_39
  refine z_itr (P := fun q : Int × MH => LayC q.2 ∧ inR q.1 ∧ True) (ls := fun q : Int × MH => [mR 107, mI q.1]) (hp := fun q : Int × MH => q.2) (fun self hs q hq => ?_) FU (v1, h) ⟨L, rv1, trivial⟩
  exact S_M_first_39_b hd (fun v1 h L rv1 => hs (v1, h) ⟨L, rv1, trivial⟩) hq.1 hq.2.1
noncomputable def F_M_first (h : MH) : RS Int := bnd (F_M_start h) fun x43 h41 => sto (mPi h41 107 4 (0 : Int)) fun h46 => sto (mPi h46 107 5 (0 : Int)) fun h49 => sto (mPi h49 107 6 (0 : Int)) fun h52 => sto (mPi h52 107 7 (0 : Int)) fun h55 => sto (mPi h55 107 8 (0 : Int)) fun h58 => sto (mPi h58 107 3 (mGi h58 107 2)) fun h61 => F_M_first_39 (0 : Int) h61
theorem S_M_first {d : Nat} (hd : 8 ≤ d) {h : MH} (L : LayC h) : OK d k_M_first 0 [mR 107, mN] [] h cI inR (F_M_first   h) := by
  unfold F_M_first
  refine z_go (fun Q hq => x_aload_n (dA d_M_first 0 rfl) rfl rfl hq) ?_
  refine z_bnd (rest := []) (st1 := fun _ => []) (S_M_start (d := 0) (Nat.le_refl _) L ) (fun _ hx => absurd hx List.not_mem_nil) (fun _ => rfl) (fun Q' Q => x_callV (as := []) (rest := []) (k' := k_M_start) (dA d_M_first 1 rfl) o_M_start lk_M_304 im_M_start se_M_start rfl (L.sh (x := (12, 66)) rfl) (by decide) (Nat.le_of_ble_eq_true rfl) (Nat.le_trans (Nat.le_of_ble_eq_true rfl) hd) (Nat.le_of_ble_eq_true rfl)) (fun x43 h41 e42 p44 => ?_)
  have L45 := L.ext e42
  refine z_go (fun Q hq => x_aload_n (dA d_M_first 2 rfl) rfl rfl (x_iconst (dA d_M_first 3 rfl) hq)) ?_
  refine z_sto (Ext.pi (L45.sh (x := (12, 66)) rfl) (by decide) (inR_lit (0 : Int) rfl)) (fun Q hq => x_putI (dA d_M_first 4 rfl) p_M_307 (L45.sh (x := (12, 66)) rfl) (by decide) cl_M rfl hq) (fun h46 e47 => ?_)
  have L48 := L45.ext e47
  refine z_go (fun Q hq => x_aload_n (dA d_M_first 5 rfl) rfl rfl (x_iconst (dA d_M_first 6 rfl) hq)) ?_
  refine z_sto (Ext.pi (L48.sh (x := (12, 66)) rfl) (by decide) (inR_lit (0 : Int) rfl)) (fun Q hq => x_putI (dA d_M_first 7 rfl) p_M_178 (L48.sh (x := (12, 66)) rfl) (by decide) cl_M rfl hq) (fun h49 e50 => ?_)
  have L51 := L48.ext e50
  refine z_go (fun Q hq => x_aload_n (dA d_M_first 8 rfl) rfl rfl (x_iconst (dA d_M_first 9 rfl) hq)) ?_
  refine z_sto (Ext.pi (L51.sh (x := (12, 66)) rfl) (by decide) (inR_lit (0 : Int) rfl)) (fun Q hq => x_putI (dA d_M_first 10 rfl) p_M_205 (L51.sh (x := (12, 66)) rfl) (by decide) cl_M rfl hq) (fun h52 e53 => ?_)
  have L54 := L51.ext e53
  refine z_go (fun Q hq => x_aload_n (dA d_M_first 11 rfl) rfl rfl (x_iconst (dA d_M_first 12 rfl) hq)) ?_
  refine z_sto (Ext.pi (L54.sh (x := (12, 66)) rfl) (by decide) (inR_lit (0 : Int) rfl)) (fun Q hq => x_putI (dA d_M_first 13 rfl) p_M_172 (L54.sh (x := (12, 66)) rfl) (by decide) cl_M rfl hq) (fun h55 e56 => ?_)
  have L57 := L54.ext e56
  refine z_go (fun Q hq => x_aload_n (dA d_M_first 14 rfl) rfl rfl (x_iconst (dA d_M_first 15 rfl) hq)) ?_
  refine z_sto (Ext.pi (L57.sh (x := (12, 66)) rfl) (by decide) (inR_lit (0 : Int) rfl)) (fun Q hq => x_putI (dA d_M_first 16 rfl) p_M_175 (L57.sh (x := (12, 66)) rfl) (by decide) cl_M rfl hq) (fun h58 e59 => ?_)
  have L60 := L57.ext e59
  refine z_go (fun Q hq => x_aload_n (dA d_M_first 17 rfl) rfl rfl (x_aload_n (dA d_M_first 18 rfl) rfl rfl (x_getI (dA d_M_first 19 rfl) f_M_169 (L60.sh (x := (12, 66)) rfl) (by decide) (by decide) rfl hq))) ?_
  refine z_sto (Ext.pi (L60.sh (x := (12, 66)) rfl) (by decide) (L60.rg _ _)) (fun Q hq => x_putI (dA d_M_first 20 rfl) p_M_192 (L60.sh (x := (12, 66)) rfl) (by decide) cl_M rfl hq) (fun h61 e62 => ?_)
  have L63 := L60.ext e62
  refine z_go (fun Q hq => x_iconst (dA d_M_first 21 rfl) (x_istore_n (dA d_M_first 22 rfl) rfl (by decide) rfl hq)) ?_
  exact S_M_first_39 hd  L63 (inR_lit (0 : Int) rfl)
/-! TwoMillsModel.token(IIII)J -/
noncomputable def F_M_token (a1 : Int) (a2 : Int) (a3 : Int) (a4 : Int) (h : MH) : RS Int64 := some (.inl (((((Int32.ofInt a1).toInt64) ||| (((Int32.ofInt a2).toInt64) <<< ((Int32.ofInt (12 : Int)).toInt64 &&& 63))) ||| (((Int32.ofInt a3).toInt64) <<< ((Int32.ofInt (24 : Int)).toInt64 &&& 63))) ||| (((Int32.ofInt a4).toInt64) <<< ((Int32.ofInt (28 : Int)).toInt64 &&& 63))), h)
theorem S_M_token {d : Nat} (hd : 0 ≤ d) {a1 : Int} {a2 : Int} {a3 : Int} {a4 : Int} {h : MH} (L : LayC h) (ra1 : inR a1) (ra2 : inR a2) (ra3 : inR a3) (ra4 : inR a4) : OK d k_M_token 0 [mI a1, mI a2, mI a3, mI a4] [] h cJ pT (F_M_token  a1 a2 a3 a4 h) := by
  unfold F_M_token
  refine z_go (fun Q hq => x_iload_n (dA d_M_token 0 rfl) rfl rfl (x_i2l (dA d_M_token 1 rfl) (x_iload_n (dA d_M_token 2 rfl) rfl rfl (x_i2l (dA d_M_token 3 rfl) (x_bipush (dA d_M_token 4 rfl) (by decide) (x_lshl (dA d_M_token 5 rfl) (x_lor (dA d_M_token 6 rfl) (x_iload_n (dA d_M_token 7 rfl) rfl rfl (x_i2l (dA d_M_token 8 rfl) (x_bipush (dA d_M_token 9 rfl) (by decide) (x_lshl (dA d_M_token 10 rfl) (x_lor (dA d_M_token 11 rfl) (x_iload_n (dA d_M_token 12 rfl) rfl rfl (x_i2l (dA d_M_token 13 rfl) (x_bipush (dA d_M_token 14 rfl) (by decide) (x_lshl (dA d_M_token 15 rfl) (x_lor (dA d_M_token 16 rfl) hq))))))))))))))))) ?_
  exact z_retj (dA d_M_token 17 rfl) rfl
/-! TwoMillsModel.placeOf(J)I -/
noncomputable def F_M_placeOf (a1 : Int64) (h : MH) : RS Int := some (.inl ((a1 &&& (4095 : Int64)).toInt32.toInt), h)
theorem S_M_placeOf {d : Nat} (hd : 0 ≤ d) {a1 : Int64} {h : MH} (L : LayC h) : OK d k_M_placeOf 0 [mL a1, mN] [] h cI inR (F_M_placeOf  a1 h) := by
  unfold F_M_placeOf
  refine z_go (fun Q hq => x_lload_n (dA d_M_placeOf 0 rfl) rfl rfl (x_ldc2 (dA d_M_placeOf 1 rfl) kl_M_317 (x_land (dA d_M_placeOf 2 rfl) (x_l2i (dA d_M_placeOf 3 rfl) hq)))) ?_
  exact z_reti (dA d_M_placeOf 4 rfl) rfl (inR_32 _)
/-! TwoMillsModel.sizeOf(J)I -/
noncomputable def F_M_sizeOf (a1 : Int64) (h : MH) : RS Int := some (.inl (((a1 >>> ((Int32.ofInt (12 : Int)).toInt64 &&& 63)) &&& (4095 : Int64)).toInt32.toInt), h)
theorem S_M_sizeOf {d : Nat} (hd : 0 ≤ d) {a1 : Int64} {h : MH} (L : LayC h) : OK d k_M_sizeOf 0 [mL a1, mN] [] h cI inR (F_M_sizeOf  a1 h) := by
  unfold F_M_sizeOf
  refine z_go (fun Q hq => x_lload_n (dA d_M_sizeOf 0 rfl) rfl rfl (x_bipush (dA d_M_sizeOf 1 rfl) (by decide) (x_lshr (dA d_M_sizeOf 2 rfl) (x_ldc2 (dA d_M_sizeOf 3 rfl) kl_M_317 (x_land (dA d_M_sizeOf 4 rfl) (x_l2i (dA d_M_sizeOf 5 rfl) hq)))))) ?_
  exact z_reti (dA d_M_sizeOf 6 rfl) rfl (inR_32 _)
/-! TwoMillsModel.kindOf(J)I -/
noncomputable def F_M_kindOf (a1 : Int64) (h : MH) : RS Int := some (.inl (((a1 >>> ((Int32.ofInt (24 : Int)).toInt64 &&& 63)) &&& (15 : Int64)).toInt32.toInt), h)
theorem S_M_kindOf {d : Nat} (hd : 0 ≤ d) {a1 : Int64} {h : MH} (L : LayC h) : OK d k_M_kindOf 0 [mL a1, mN] [] h cI inR (F_M_kindOf  a1 h) := by
  unfold F_M_kindOf
  refine z_go (fun Q hq => x_lload_n (dA d_M_kindOf 0 rfl) rfl rfl (x_bipush (dA d_M_kindOf 1 rfl) (by decide) (x_lshr (dA d_M_kindOf 2 rfl) (x_ldc2 (dA d_M_kindOf 3 rfl) kl_M_319 (x_land (dA d_M_kindOf 4 rfl) (x_l2i (dA d_M_kindOf 5 rfl) hq)))))) ?_
  exact z_reti (dA d_M_kindOf 6 rfl) rfl (inR_32 _)
/-! TwoMillsModel.hidesOf(J)I -/
noncomputable def F_M_hidesOf (a1 : Int64) (h : MH) : RS Int := some (.inl (((a1 >>> ((Int32.ofInt (28 : Int)).toInt64 &&& 63)) &&& (255 : Int64)).toInt32.toInt), h)
theorem S_M_hidesOf {d : Nat} (hd : 0 ≤ d) {a1 : Int64} {h : MH} (L : LayC h) : OK d k_M_hidesOf 0 [mL a1, mN] [] h cI inR (F_M_hidesOf  a1 h) := by
  unfold F_M_hidesOf
  refine z_go (fun Q hq => x_lload_n (dA d_M_hidesOf 0 rfl) rfl rfl (x_bipush (dA d_M_hidesOf 1 rfl) (by decide) (x_lshr (dA d_M_hidesOf 2 rfl) (x_ldc2 (dA d_M_hidesOf 3 rfl) kl_M_163 (x_land (dA d_M_hidesOf 4 rfl) (x_l2i (dA d_M_hidesOf 5 rfl) hq)))))) ?_
  exact z_reti (dA d_M_hidesOf 6 rfl) rfl (inR_32 _)
/-! TwoMillsModel.isSign(JI)Z -/
noncomputable def F_M_isSign_33 (h : MH) : RS Int := some (.inl (0 : Int), h)
theorem S_M_isSign_33 {d : Nat} (hd : 1 ≤ d) {h : MH} (L : LayC h) : OK d k_M_isSign 33 [mN, mN, mN, mN] [] h cI p01 (F_M_isSign_33   h) := by
  unfold F_M_isSign_33
  refine z_go (fun Q hq => x_iconst (dA d_M_isSign 17 rfl) hq) ?_
  exact z_retz (dA d_M_isSign 18 rfl) rfl (.inl rfl)
noncomputable def F_M_isSign (a1 : Int64) (a2 : Int) (h : MH) : RS Int := bnd (F_M_kindOf a1 h) fun x3 h1 => if x3 = (4 : Int) then bnd (F_M_sizeOf a1 h1) fun x9 h7 => if x9 = (1 : Int) then bnd (F_M_placeOf a1 h7) fun x15 h13 => gd (0 ≤ x15 ∧ x15 < 1302) (if (mGi h13 121 x15.toNat) = a2 then some (.inl (1 : Int), h13) else F_M_isSign_33  h13) else F_M_isSign_33  h7 else F_M_isSign_33  h1
theorem S_M_isSign {d : Nat} (hd : 1 ≤ d) {a1 : Int64} {a2 : Int} {h : MH} (L : LayC h) (ra2 : inR a2) : OK d k_M_isSign 0 [mR 107, mL a1, mN, mI a2] [] h cI p01 (F_M_isSign  a1 a2 h) := by
  unfold F_M_isSign
  refine z_go (fun Q hq => x_lload_n (dA d_M_isSign 0 rfl) rfl rfl hq) ?_
  refine z_bnd (rest := []) (st1 := fun v => mI v :: []) (S_M_kindOf (d := 0) (Nat.le_refl _) L ) (fun _ hx => absurd hx List.not_mem_nil) (fun _ => rfl) (fun Q' Q => x_callS (as := [mL a1]) (rest := []) (k' := k_M_kindOf) (dA d_M_isSign 1 rfl) o_M_kindOf lk_M_321 st_M_kindOf (Nat.le_of_ble_eq_true rfl) (Nat.le_trans (Nat.le_of_ble_eq_true rfl) hd) (Nat.le_of_ble_eq_true rfl)) (fun x3 h1 e2 p4 => ?_)
  have L5 := L.ext e2
  refine z_go (fun Q hq => x_iconst (dA d_M_isSign 2 rfl) hq) ?_
  refine z_brn (fun Q => x_icmp_ne (dA d_M_isSign 3 rfl) rfl p4 (inR_lit (4 : Int) rfl)) (fun c6 => ?_) (fun c6 => ?_)
  · refine z_go (fun Q hq => x_lload_n (dA d_M_isSign 4 rfl) rfl rfl hq) ?_
    refine z_bnd (rest := []) (st1 := fun v => mI v :: []) (S_M_sizeOf (d := 0) (Nat.le_refl _) L5 ) (fun _ hx => absurd hx List.not_mem_nil) (fun _ => rfl) (fun Q' Q => x_callS (as := [mL a1]) (rest := []) (k' := k_M_sizeOf) (dA d_M_isSign 5 rfl) o_M_sizeOf lk_M_324 st_M_sizeOf (Nat.le_of_ble_eq_true rfl) (Nat.le_trans (Nat.le_of_ble_eq_true rfl) hd) (Nat.le_of_ble_eq_true rfl)) (fun x9 h7 e8 p10 => ?_)
    have L11 := L5.ext e8
    refine z_go (fun Q hq => x_iconst (dA d_M_isSign 6 rfl) hq) ?_
    refine z_brn (fun Q => x_icmp_ne (dA d_M_isSign 7 rfl) rfl p10 (inR_lit (1 : Int) rfl)) (fun c12 => ?_) (fun c12 => ?_)
    · refine z_go (fun Q hq => x_aload_n (dA d_M_isSign 8 rfl) rfl rfl (x_getR (dA d_M_isSign 9 rfl) f_M_51 (L11.sh (x := (12, 66)) rfl) (by decide) (by decide) rfl (L11.rf 122 rfl) (x_lload_n (dA d_M_isSign 10 rfl) rfl rfl hq))) ?_
      refine z_bnd (rest := [mR 121]) (st1 := fun v => mI v :: [mR 121]) (S_M_placeOf (d := 0) (Nat.le_refl _) L11 ) (fun _ hx => absurd hx List.not_mem_nil) (fun _ => rfl) (fun Q' Q => x_callS (as := [mL a1]) (rest := [mR 121]) (k' := k_M_placeOf) (dA d_M_isSign 11 rfl) o_M_placeOf lk_M_327 st_M_placeOf (Nat.le_of_ble_eq_true rfl) (Nat.le_trans (Nat.le_of_ble_eq_true rfl) hd) (Nat.le_of_ble_eq_true rfl)) (fun x15 h13 e14 p16 => ?_)
      have L17 := L11.ext e14
      refine z_gd (fun g18 => ?_)
      refine z_go (fun Q hq => x_cald (dA d_M_isSign 12 rfl) (L17.sh (x := (101, 1302)) rfl) g18.1 g18.2 (by decide) (x_iload_n (dA d_M_isSign 13 rfl) rfl rfl hq)) ?_
      refine z_brn (fun Q => x_icmp_ne (dA d_M_isSign 14 rfl) rfl (L17.rg _ _) ra2) (fun c19 => ?_) (fun c19 => ?_)
      · refine z_go (fun Q hq => x_iconst (dA d_M_isSign 15 rfl) (x_goto (dA d_M_isSign 16 rfl) rfl hq)) ?_
        exact z_retz (dA d_M_isSign 18 rfl) rfl (.inr rfl)
      · refine z_fgt (ls' := [mN, mN, mN, mN]) ⟨.inl rfl, .inl rfl, .inl rfl, .inl rfl, trivial⟩ ?_
        exact S_M_isSign_33 hd  L17 
    · refine z_fgt (ls' := [mN, mN, mN, mN]) ⟨.inl rfl, .inl rfl, .inl rfl, .inl rfl, trivial⟩ ?_
      exact S_M_isSign_33 hd  L11 
  · refine z_fgt (ls' := [mN, mN, mN, mN]) ⟨.inl rfl, .inl rfl, .inl rfl, .inl rfl, trivial⟩ ?_
    exact S_M_isSign_33 hd  L5 
/-! TwoMillsModel.isJoin(J)Z -/
noncomputable def F_M_isJoin_34 (h : MH) : RS Int := some (.inl (0 : Int), h)
theorem S_M_isJoin_34 {d : Nat} (hd : 1 ≤ d) {h : MH} (L : LayC h) : OK d k_M_isJoin 34 [mN, mN, mN] [] h cI p01 (F_M_isJoin_34   h) := by
  unfold F_M_isJoin_34
  refine z_go (fun Q hq => x_iconst (dA d_M_isJoin 17 rfl) hq) ?_
  exact z_retz (dA d_M_isJoin 18 rfl) rfl (.inl rfl)
noncomputable def F_M_isJoin (a1 : Int64) (h : MH) : RS Int := bnd (F_M_kindOf a1 h) fun x3 h1 => if x3 = (4 : Int) then bnd (F_M_sizeOf a1 h1) fun x9 h7 => if x9 = (2 : Int) then bnd (F_M_placeOf a1 h7) fun x15 h13 => gd (0 ≤ x15 ∧ x15 < 1302) (if (mGi h13 121 x15.toNat) = (35 : Int) then some (.inl (1 : Int), h13) else F_M_isJoin_34  h13) else F_M_isJoin_34  h7 else F_M_isJoin_34  h1
theorem S_M_isJoin {d : Nat} (hd : 1 ≤ d) {a1 : Int64} {h : MH} (L : LayC h) : OK d k_M_isJoin 0 [mR 107, mL a1, mN] [] h cI p01 (F_M_isJoin  a1 h) := by
  unfold F_M_isJoin
  refine z_go (fun Q hq => x_lload_n (dA d_M_isJoin 0 rfl) rfl rfl hq) ?_
  refine z_bnd (rest := []) (st1 := fun v => mI v :: []) (S_M_kindOf (d := 0) (Nat.le_refl _) L ) (fun _ hx => absurd hx List.not_mem_nil) (fun _ => rfl) (fun Q' Q => x_callS (as := [mL a1]) (rest := []) (k' := k_M_kindOf) (dA d_M_isJoin 1 rfl) o_M_kindOf lk_M_321 st_M_kindOf (Nat.le_of_ble_eq_true rfl) (Nat.le_trans (Nat.le_of_ble_eq_true rfl) hd) (Nat.le_of_ble_eq_true rfl)) (fun x3 h1 e2 p4 => ?_)
  have L5 := L.ext e2
  refine z_go (fun Q hq => x_iconst (dA d_M_isJoin 2 rfl) hq) ?_
  refine z_brn (fun Q => x_icmp_ne (dA d_M_isJoin 3 rfl) rfl p4 (inR_lit (4 : Int) rfl)) (fun c6 => ?_) (fun c6 => ?_)
  · refine z_go (fun Q hq => x_lload_n (dA d_M_isJoin 4 rfl) rfl rfl hq) ?_
    refine z_bnd (rest := []) (st1 := fun v => mI v :: []) (S_M_sizeOf (d := 0) (Nat.le_refl _) L5 ) (fun _ hx => absurd hx List.not_mem_nil) (fun _ => rfl) (fun Q' Q => x_callS (as := [mL a1]) (rest := []) (k' := k_M_sizeOf) (dA d_M_isJoin 5 rfl) o_M_sizeOf lk_M_324 st_M_sizeOf (Nat.le_of_ble_eq_true rfl) (Nat.le_trans (Nat.le_of_ble_eq_true rfl) hd) (Nat.le_of_ble_eq_true rfl)) (fun x9 h7 e8 p10 => ?_)
    have L11 := L5.ext e8
    refine z_go (fun Q hq => x_iconst (dA d_M_isJoin 6 rfl) hq) ?_
    refine z_brn (fun Q => x_icmp_ne (dA d_M_isJoin 7 rfl) rfl p10 (inR_lit (2 : Int) rfl)) (fun c12 => ?_) (fun c12 => ?_)
    · refine z_go (fun Q hq => x_aload_n (dA d_M_isJoin 8 rfl) rfl rfl (x_getR (dA d_M_isJoin 9 rfl) f_M_51 (L11.sh (x := (12, 66)) rfl) (by decide) (by decide) rfl (L11.rf 122 rfl) (x_lload_n (dA d_M_isJoin 10 rfl) rfl rfl hq))) ?_
      refine z_bnd (rest := [mR 121]) (st1 := fun v => mI v :: [mR 121]) (S_M_placeOf (d := 0) (Nat.le_refl _) L11 ) (fun _ hx => absurd hx List.not_mem_nil) (fun _ => rfl) (fun Q' Q => x_callS (as := [mL a1]) (rest := [mR 121]) (k' := k_M_placeOf) (dA d_M_isJoin 11 rfl) o_M_placeOf lk_M_327 st_M_placeOf (Nat.le_of_ble_eq_true rfl) (Nat.le_trans (Nat.le_of_ble_eq_true rfl) hd) (Nat.le_of_ble_eq_true rfl)) (fun x15 h13 e14 p16 => ?_)
      have L17 := L11.ext e14
      refine z_gd (fun g18 => ?_)
      refine z_go (fun Q hq => x_cald (dA d_M_isJoin 12 rfl) (L17.sh (x := (101, 1302)) rfl) g18.1 g18.2 (by decide) (x_bipush (dA d_M_isJoin 13 rfl) (by decide) hq)) ?_
      refine z_brn (fun Q => x_icmp_ne (dA d_M_isJoin 14 rfl) rfl (L17.rg _ _) (inR_lit (35 : Int) rfl)) (fun c19 => ?_) (fun c19 => ?_)
      · refine z_go (fun Q hq => x_iconst (dA d_M_isJoin 15 rfl) (x_goto (dA d_M_isJoin 16 rfl) rfl hq)) ?_
        exact z_retz (dA d_M_isJoin 18 rfl) rfl (.inr rfl)
      · refine z_fgt (ls' := [mN, mN, mN]) ⟨.inl rfl, .inl rfl, .inl rfl, trivial⟩ ?_
        exact S_M_isJoin_34 hd  L17 
    · refine z_fgt (ls' := [mN, mN, mN]) ⟨.inl rfl, .inl rfl, .inl rfl, trivial⟩ ?_
      exact S_M_isJoin_34 hd  L11 
  · refine z_fgt (ls' := [mN, mN, mN]) ⟨.inl rfl, .inl rfl, .inl rfl, trivial⟩ ?_
    exact S_M_isJoin_34 hd  L5 
/-! TwoMillsModel.isSame(JJ)Z -/
noncomputable def F_M_isSame_67 (G21 : Int64 → Int64 → Int → Int → MH → RS Int) (v1 : Int64) (v3 : Int64) (v6 : Int) (s0 : Int) (h : MH) : RS Int := gd (inR (v6 + (1 : Int))) (G21 v1 v3 s0 (v6 + (1 : Int)) h)
theorem S_M_isSame_67 {d : Nat} (hd : 1 ≤ d) {G21 : Int64 → Int64 → Int → Int → MH → RS Int} (hG21 : ∀ (v1 : Int64) (v3 : Int64) (v5 : Int) (v6 : Int) (h : MH), LayC h → inR v5 → inR v6 → OK d k_M_isSame 21 [mR 107, mL v1, mN, mL v3, mN, mI v5, mI v6] [] h cI p01 (G21 v1 v3 v5 v6 h)) {v1 : Int64} {v3 : Int64} {v6 : Int} {s0 : Int} {h : MH} (L : LayC h) (rv6 : inR v6) (rs0 : inR s0) : OK d k_M_isSame 67 [mR 107, mL v1, mN, mL v3, mN, mN, mI v6] [mI s0] h cI p01 (F_M_isSame_67 G21 v1 v3 v6 s0 h) := by
  unfold F_M_isSame_67
  refine z_go (fun Q hq => x_istore (dA d_M_isSame 35 rfl) (by decide) rfl hq) ?_
  refine z_gd (fun g1 => ?_)
  refine z_go (fun Q hq => x_iinc (dA d_M_isSame 36 rfl) rfl (by decide) rfl (x_goto (dA d_M_isSame 37 rfl) rfl hq)) ?_
  exact hG21 v1 v3 s0 (v6 + (1 : Int)) h L rs0 g1
noncomputable def F_M_isSame_21_b (G21 : Int64 → Int64 → Int → Int → MH → RS Int) (v1 : Int64) (v3 : Int64) (v5 : Int) (v6 : Int) (h : MH) : RS Int := bnd (F_M_sizeOf v1 h) fun x4 h2 => if x4 ≤ v6 then gd (p01 v5) (some (.inl v5, h2)) else if v5 = 0 then gd (p01 v5) (some (.inl v5, h2)) else bnd (F_M_placeOf v1 h2) fun x13 h11 => gd (inR (x13 + v6)) (gd (0 ≤ (x13 + v6) ∧ (x13 + v6) < 1302) (bnd (F_M_placeOf v3 h11) fun x20 h18 => gd (inR (x20 + v6)) (gd (0 ≤ (x20 + v6) ∧ (x20 + v6) < 1302) (if (mGi h11 121 (x13 + v6).toNat) = (mGi h18 121 (x20 + v6).toNat) then F_M_isSame_67 G21 v1 v3 v6 (1 : Int) h18 else F_M_isSame_67 G21 v1 v3 v6 (0 : Int) h18))))
theorem S_M_isSame_21_b {d : Nat} (hd : 1 ≤ d) {G21 : Int64 → Int64 → Int → Int → MH → RS Int} (hG21 : ∀ (v1 : Int64) (v3 : Int64) (v5 : Int) (v6 : Int) (h : MH), LayC h → inR v5 → inR v6 → OK d k_M_isSame 21 [mR 107, mL v1, mN, mL v3, mN, mI v5, mI v6] [] h cI p01 (G21 v1 v3 v5 v6 h)) {v1 : Int64} {v3 : Int64} {v5 : Int} {v6 : Int} {h : MH} (L : LayC h) (rv5 : inR v5) (rv6 : inR v6) : OK d k_M_isSame 21 [mR 107, mL v1, mN, mL v3, mN, mI v5, mI v6] [] h cI p01 (F_M_isSame_21_b G21 v1 v3 v5 v6 h) := by
  unfold F_M_isSame_21_b
  refine z_go (fun Q hq => x_iload (dA d_M_isSame 11 rfl) rfl (x_lload_n (dA d_M_isSame 12 rfl) rfl rfl hq)) ?_
  refine z_bnd (rest := [mI v6]) (st1 := fun v => mI v :: [mI v6]) (S_M_sizeOf (d := 0) (Nat.le_refl _) L ) (fun _ hx => absurd hx List.not_mem_nil) (fun _ => rfl) (fun Q' Q => x_callS (as := [mL v1]) (rest := [mI v6]) (k' := k_M_sizeOf) (dA d_M_isSame 13 rfl) o_M_sizeOf lk_M_324 st_M_sizeOf (Nat.le_of_ble_eq_true rfl) (Nat.le_trans (Nat.le_of_ble_eq_true rfl) hd) (Nat.le_of_ble_eq_true rfl)) (fun x4 h2 e3 p5 => ?_)
  have L6 := L.ext e3
  refine z_br (fun Q => x_icmp_ge (dA d_M_isSame 14 rfl) rfl rv6 p5) (fun c7 => ?_) (fun c7 => ?_)
  · refine z_go (fun Q hq => x_iload (dA d_M_isSame 38 rfl) rfl hq) ?_
    refine z_gd (fun g8 => ?_)
    exact z_retz (dA d_M_isSame 39 rfl) rfl g8
  · refine z_go (fun Q hq => x_iload (dA d_M_isSame 15 rfl) rfl hq) ?_
    refine z_br (fun Q => x_if_eq (dA d_M_isSame 16 rfl) rfl rv5) (fun c9 => ?_) (fun c9 => ?_)
    · refine z_go (fun Q hq => x_iload (dA d_M_isSame 38 rfl) rfl hq) ?_
      refine z_gd (fun g10 => ?_)
      exact z_retz (dA d_M_isSame 39 rfl) rfl g10
    · refine z_go (fun Q hq => x_aload_n (dA d_M_isSame 17 rfl) rfl rfl (x_getR (dA d_M_isSame 18 rfl) f_M_51 (L6.sh (x := (12, 66)) rfl) (by decide) (by decide) rfl (L6.rf 122 rfl) (x_lload_n (dA d_M_isSame 19 rfl) rfl rfl hq))) ?_
      refine z_bnd (rest := [mR 121]) (st1 := fun v => mI v :: [mR 121]) (S_M_placeOf (d := 0) (Nat.le_refl _) L6 ) (fun _ hx => absurd hx List.not_mem_nil) (fun _ => rfl) (fun Q' Q => x_callS (as := [mL v1]) (rest := [mR 121]) (k' := k_M_placeOf) (dA d_M_isSame 20 rfl) o_M_placeOf lk_M_327 st_M_placeOf (Nat.le_of_ble_eq_true rfl) (Nat.le_trans (Nat.le_of_ble_eq_true rfl) hd) (Nat.le_of_ble_eq_true rfl)) (fun x13 h11 e12 p14 => ?_)
      have L15 := L6.ext e12
      refine z_go (fun Q hq => x_iload (dA d_M_isSame 21 rfl) rfl hq) ?_
      refine z_gd (fun g16 => ?_)
      refine z_go (fun Q hq => x_iadd (dA d_M_isSame 22 rfl) hq) ?_
      refine z_gd (fun g17 => ?_)
      refine z_go (fun Q hq => x_cald (dA d_M_isSame 23 rfl) (L15.sh (x := (101, 1302)) rfl) g17.1 g17.2 (by decide) (x_aload_n (dA d_M_isSame 24 rfl) rfl rfl (x_getR (dA d_M_isSame 25 rfl) f_M_51 (L15.sh (x := (12, 66)) rfl) (by decide) (by decide) rfl (L15.rf 122 rfl) (x_lload_n (dA d_M_isSame 26 rfl) rfl rfl hq)))) ?_
      refine z_bnd (rest := [mR 121, mI (mGi h11 121 (x13 + v6).toNat)]) (st1 := fun v => mI v :: [mR 121, mI (mGi h11 121 (x13 + v6).toNat)]) (S_M_placeOf (d := 0) (Nat.le_refl _) L15 ) (fun _ hx => absurd hx List.not_mem_nil) (fun _ => rfl) (fun Q' Q => x_callS (as := [mL v3]) (rest := [mR 121, mI (mGi h11 121 (x13 + v6).toNat)]) (k' := k_M_placeOf) (dA d_M_isSame 27 rfl) o_M_placeOf lk_M_327 st_M_placeOf (Nat.le_of_ble_eq_true rfl) (Nat.le_trans (Nat.le_of_ble_eq_true rfl) hd) (Nat.le_of_ble_eq_true rfl)) (fun x20 h18 e19 p21 => ?_)
      have L22 := L15.ext e19
      refine z_go (fun Q hq => x_iload (dA d_M_isSame 28 rfl) rfl hq) ?_
      refine z_gd (fun g23 => ?_)
      refine z_go (fun Q hq => x_iadd (dA d_M_isSame 29 rfl) hq) ?_
      refine z_gd (fun g24 => ?_)
      refine z_go (fun Q hq => x_cald (dA d_M_isSame 30 rfl) (L22.sh (x := (101, 1302)) rfl) g24.1 g24.2 (by decide) hq) ?_
      refine z_brn (fun Q => x_icmp_ne (dA d_M_isSame 31 rfl) rfl (L15.rg _ _) (L22.rg _ _)) (fun c25 => ?_) (fun c25 => ?_)
      · refine z_go (fun Q hq => x_iconst (dA d_M_isSame 32 rfl) (x_goto (dA d_M_isSame 33 rfl) rfl hq)) ?_
        refine z_fgt (ls' := [mR 107, mL v1, mN, mL v3, mN, mN, mI v6]) ⟨.inr rfl, .inr rfl, .inl rfl, .inr rfl, .inl rfl, .inl rfl, .inr rfl, trivial⟩ ?_
        exact S_M_isSame_67 hd hG21 L22 rv6 (inR_lit (1 : Int) rfl)
      · refine z_go (fun Q hq => x_iconst (dA d_M_isSame 34 rfl) hq) ?_
        refine z_fgt (ls' := [mR 107, mL v1, mN, mL v3, mN, mN, mI v6]) ⟨.inr rfl, .inr rfl, .inl rfl, .inr rfl, .inl rfl, .inl rfl, .inr rfl, trivial⟩ ?_
        exact S_M_isSame_67 hd hG21 L22 rv6 (inR_lit (0 : Int) rfl)
noncomputable def F_M_isSame_21 (v1 : Int64) (v3 : Int64) (v5 : Int) (v6 : Int) (h : MH) : RS Int := itr (fun self (q : Int64 × Int64 × Int × Int × MH) => F_M_isSame_21_b (fun v1 v3 v5 v6 h => self (v1, v3, v5, v6, h)) q.1 q.2.1 q.2.2.1 q.2.2.2.1 q.2.2.2.2) FU (v1, v3, v5, v6, h)
theorem S_M_isSame_21 {d : Nat} (hd : 1 ≤ d) {v1 : Int64} {v3 : Int64} {v5 : Int} {v6 : Int} {h : MH} (L : LayC h) (rv5 : inR v5) (rv6 : inR v6) : OK d k_M_isSame 21 [mR 107, mL v1, mN, mL v3, mN, mI v5, mI v6] [] h cI p01 (F_M_isSame_21  v1 v3 v5 v6 h) := by
  unfold F_M_isSame_21
  refine z_itr (P := fun q : Int64 × Int64 × Int × Int × MH => LayC q.2.2.2.2 ∧ inR q.2.2.1 ∧ inR q.2.2.2.1 ∧ True) (ls := fun q : Int64 × Int64 × Int × Int × MH => [mR 107, mL q.1, mN, mL q.2.1, mN, mI q.2.2.1, mI q.2.2.2.1]) (hp := fun q : Int64 × Int64 × Int × Int × MH => q.2.2.2.2) (fun self hs q hq => ?_) FU (v1, v3, v5, v6, h) ⟨L, rv5, rv6, trivial⟩
  exact S_M_isSame_21_b hd (fun v1 v3 v5 v6 h L rv5 rv6 => hs (v1, v3, v5, v6, h) ⟨L, rv5, rv6, trivial⟩) hq.1 hq.2.1 hq.2.2.1
noncomputable def F_M_isSame_16 (v1 : Int64) (v3 : Int64) (s0 : Int) (h : MH) : RS Int := F_M_isSame_21 v1 v3 s0 (0 : Int) h
theorem S_M_isSame_16 {d : Nat} (hd : 1 ≤ d) {v1 : Int64} {v3 : Int64} {s0 : Int} {h : MH} (L : LayC h) (rs0 : inR s0) : OK d k_M_isSame 16 [mR 107, mL v1, mN, mL v3, mN, mN, mN] [mI s0] h cI p01 (F_M_isSame_16  v1 v3 s0 h) := by
  unfold F_M_isSame_16
  refine z_go (fun Q hq => x_istore (dA d_M_isSame 8 rfl) (by decide) rfl (x_iconst (dA d_M_isSame 9 rfl) (x_istore (dA d_M_isSame 10 rfl) (by decide) rfl hq))) ?_
  exact S_M_isSame_21 hd  L rs0 (inR_lit (0 : Int) rfl)
noncomputable def F_M_isSame (a1 : Int64) (a2 : Int64) (h : MH) : RS Int := bnd (F_M_sizeOf a1 h) fun x28 h26 => bnd (F_M_sizeOf a2 h26) fun x33 h31 => if x28 = x33 then F_M_isSame_16 a1 a2 (1 : Int) h31 else F_M_isSame_16 a1 a2 (0 : Int) h31
theorem S_M_isSame {d : Nat} (hd : 1 ≤ d) {a1 : Int64} {a2 : Int64} {h : MH} (L : LayC h) : OK d k_M_isSame 0 [mR 107, mL a1, mN, mL a2, mN, mN, mN] [] h cI p01 (F_M_isSame  a1 a2 h) := by
  unfold F_M_isSame
  refine z_go (fun Q hq => x_lload_n (dA d_M_isSame 0 rfl) rfl rfl hq) ?_
  refine z_bnd (rest := []) (st1 := fun v => mI v :: []) (S_M_sizeOf (d := 0) (Nat.le_refl _) L ) (fun _ hx => absurd hx List.not_mem_nil) (fun _ => rfl) (fun Q' Q => x_callS (as := [mL a1]) (rest := []) (k' := k_M_sizeOf) (dA d_M_isSame 1 rfl) o_M_sizeOf lk_M_324 st_M_sizeOf (Nat.le_of_ble_eq_true rfl) (Nat.le_trans (Nat.le_of_ble_eq_true rfl) hd) (Nat.le_of_ble_eq_true rfl)) (fun x28 h26 e27 p29 => ?_)
  have L30 := L.ext e27
  refine z_go (fun Q hq => x_lload_n (dA d_M_isSame 2 rfl) rfl rfl hq) ?_
  refine z_bnd (rest := [mI x28]) (st1 := fun v => mI v :: [mI x28]) (S_M_sizeOf (d := 0) (Nat.le_refl _) L30 ) (fun _ hx => absurd hx List.not_mem_nil) (fun _ => rfl) (fun Q' Q => x_callS (as := [mL a2]) (rest := [mI x28]) (k' := k_M_sizeOf) (dA d_M_isSame 3 rfl) o_M_sizeOf lk_M_324 st_M_sizeOf (Nat.le_of_ble_eq_true rfl) (Nat.le_trans (Nat.le_of_ble_eq_true rfl) hd) (Nat.le_of_ble_eq_true rfl)) (fun x33 h31 e32 p34 => ?_)
  have L35 := L30.ext e32
  refine z_brn (fun Q => x_icmp_ne (dA d_M_isSame 4 rfl) rfl p29 p34) (fun c36 => ?_) (fun c36 => ?_)
  · refine z_go (fun Q hq => x_iconst (dA d_M_isSame 5 rfl) (x_goto (dA d_M_isSame 6 rfl) rfl hq)) ?_
    exact S_M_isSame_16 hd  L35 (inR_lit (1 : Int) rfl)
  · refine z_go (fun Q hq => x_iconst (dA d_M_isSame 7 rfl) hq) ?_
    exact S_M_isSame_16 hd  L35 (inR_lit (0 : Int) rfl)
/-! TwoMillsModel.is(JJ)Z -/
noncomputable def F_M_is_85 (G27 : Int64 → Int64 → Int → Int → MH → RS Int) (v1 : Int64) (v3 : Int64) (v6 : Int) (s0 : Int) (h : MH) : RS Int := gd (inR (v6 + (1 : Int))) (G27 v1 v3 s0 (v6 + (1 : Int)) h)
theorem S_M_is_85 {d : Nat} (hd : 1 ≤ d) {G27 : Int64 → Int64 → Int → Int → MH → RS Int} (hG27 : ∀ (v1 : Int64) (v3 : Int64) (v5 : Int) (v6 : Int) (h : MH), LayC h → inR v5 → inR v6 → OK d k_M_is 27 [mR 107, mL v1, mN, mL v3, mN, mI v5, mI v6] [] h cI p01 (G27 v1 v3 v5 v6 h)) {v1 : Int64} {v3 : Int64} {v6 : Int} {s0 : Int} {h : MH} (L : LayC h) (rv6 : inR v6) (rs0 : inR s0) : OK d k_M_is 85 [mR 107, mL v1, mN, mL v3, mN, mN, mI v6] [mI s0] h cI p01 (F_M_is_85 G27 v1 v3 v6 s0 h) := by
  unfold F_M_is_85
  refine z_go (fun Q hq => x_istore (dA d_M_is 45 rfl) (by decide) rfl hq) ?_
  refine z_gd (fun g1 => ?_)
  refine z_go (fun Q hq => x_iinc (dA d_M_is 46 rfl) rfl (by decide) rfl (x_goto (dA d_M_is 47 rfl) rfl hq)) ?_
  exact hG27 v1 v3 s0 (v6 + (1 : Int)) h L rs0 g1
noncomputable def F_M_is_64 (G27 : Int64 → Int64 → Int → Int → MH → RS Int) (v1 : Int64) (v3 : Int64) (v6 : Int) (s0 : Int) (h : MH) : RS Int := gd (inR ((8 : Int) * v6)) (if (lgI ((Int32.ofInt s0).toInt64) ((v3 >>> ((Int32.ofInt ((8 : Int) * v6)).toInt64 &&& 63)) &&& (255 : Int64))) = 0 then F_M_is_85 G27 v1 v3 v6 (1 : Int) h else F_M_is_85 G27 v1 v3 v6 (0 : Int) h)
theorem S_M_is_64 {d : Nat} (hd : 1 ≤ d) {G27 : Int64 → Int64 → Int → Int → MH → RS Int} (hG27 : ∀ (v1 : Int64) (v3 : Int64) (v5 : Int) (v6 : Int) (h : MH), LayC h → inR v5 → inR v6 → OK d k_M_is 27 [mR 107, mL v1, mN, mL v3, mN, mI v5, mI v6] [] h cI p01 (G27 v1 v3 v5 v6 h)) {v1 : Int64} {v3 : Int64} {v6 : Int} {s0 : Int} {h : MH} (L : LayC h) (rv6 : inR v6) (rs0 : inR s0) : OK d k_M_is 64 [mR 107, mL v1, mN, mL v3, mN, mN, mI v6] [mI s0] h cI p01 (F_M_is_64 G27 v1 v3 v6 s0 h) := by
  unfold F_M_is_64
  refine z_go (fun Q hq => x_i2l (dA d_M_is 32 rfl) (x_lload_n (dA d_M_is 33 rfl) rfl rfl (x_bipush (dA d_M_is 34 rfl) (by decide) (x_iload (dA d_M_is 35 rfl) rfl hq)))) ?_
  refine z_gd (fun g2 => ?_)
  refine z_go (fun Q hq => x_imul (dA d_M_is 36 rfl) (x_lshr (dA d_M_is 37 rfl) (x_ldc2 (dA d_M_is 38 rfl) kl_M_163 (x_land (dA d_M_is 39 rfl) (x_lcmp (dA d_M_is 40 rfl) hq))))) ?_
  refine z_brn (fun Q => x_if_ne (dA d_M_is 41 rfl) rfl (inR_lgI _ _)) (fun c3 => ?_) (fun c3 => ?_)
  · refine z_go (fun Q hq => x_iconst (dA d_M_is 42 rfl) (x_goto (dA d_M_is 43 rfl) rfl hq)) ?_
    exact S_M_is_85 hd hG27 L rv6 (inR_lit (1 : Int) rfl)
  · refine z_go (fun Q hq => x_iconst (dA d_M_is 44 rfl) hq) ?_
    exact S_M_is_85 hd hG27 L rv6 (inR_lit (0 : Int) rfl)
noncomputable def F_M_is_27_b (G27 : Int64 → Int64 → Int → Int → MH → RS Int) (v1 : Int64) (v3 : Int64) (v5 : Int) (v6 : Int) (h : MH) : RS Int := if (8 : Int) ≤ v6 then gd (p01 v5) (some (.inl v5, h)) else if v5 = 0 then gd (p01 v5) (some (.inl v5, h)) else bnd (F_M_sizeOf v1 h) fun x10 h8 => if x10 ≤ v6 then F_M_is_64 G27 v1 v3 v6 (0 : Int) h8 else bnd (F_M_placeOf v1 h8) fun x16 h14 => gd (inR (x16 + v6)) (gd (0 ≤ (x16 + v6) ∧ (x16 + v6) < 1302) (F_M_is_64 G27 v1 v3 v6 (mGi h14 121 (x16 + v6).toNat) h14))
theorem S_M_is_27_b {d : Nat} (hd : 1 ≤ d) {G27 : Int64 → Int64 → Int → Int → MH → RS Int} (hG27 : ∀ (v1 : Int64) (v3 : Int64) (v5 : Int) (v6 : Int) (h : MH), LayC h → inR v5 → inR v6 → OK d k_M_is 27 [mR 107, mL v1, mN, mL v3, mN, mI v5, mI v6] [] h cI p01 (G27 v1 v3 v5 v6 h)) {v1 : Int64} {v3 : Int64} {v5 : Int} {v6 : Int} {h : MH} (L : LayC h) (rv5 : inR v5) (rv6 : inR v6) : OK d k_M_is 27 [mR 107, mL v1, mN, mL v3, mN, mI v5, mI v6] [] h cI p01 (F_M_is_27_b G27 v1 v3 v5 v6 h) := by
  unfold F_M_is_27_b
  refine z_go (fun Q hq => x_iload (dA d_M_is 14 rfl) rfl (x_bipush (dA d_M_is 15 rfl) (by decide) hq)) ?_
  refine z_br (fun Q => x_icmp_ge (dA d_M_is 16 rfl) rfl rv6 (inR_lit (8 : Int) rfl)) (fun c4 => ?_) (fun c4 => ?_)
  · refine z_go (fun Q hq => x_iload (dA d_M_is 48 rfl) rfl hq) ?_
    refine z_gd (fun g5 => ?_)
    exact z_retz (dA d_M_is 49 rfl) rfl g5
  · refine z_go (fun Q hq => x_iload (dA d_M_is 17 rfl) rfl hq) ?_
    refine z_br (fun Q => x_if_eq (dA d_M_is 18 rfl) rfl rv5) (fun c6 => ?_) (fun c6 => ?_)
    · refine z_go (fun Q hq => x_iload (dA d_M_is 48 rfl) rfl hq) ?_
      refine z_gd (fun g7 => ?_)
      exact z_retz (dA d_M_is 49 rfl) rfl g7
    · refine z_go (fun Q hq => x_iload (dA d_M_is 19 rfl) rfl (x_lload_n (dA d_M_is 20 rfl) rfl rfl hq)) ?_
      refine z_bnd (rest := [mI v6]) (st1 := fun v => mI v :: [mI v6]) (S_M_sizeOf (d := 0) (Nat.le_refl _) L ) (fun _ hx => absurd hx List.not_mem_nil) (fun _ => rfl) (fun Q' Q => x_callS (as := [mL v1]) (rest := [mI v6]) (k' := k_M_sizeOf) (dA d_M_is 21 rfl) o_M_sizeOf lk_M_324 st_M_sizeOf (Nat.le_of_ble_eq_true rfl) (Nat.le_trans (Nat.le_of_ble_eq_true rfl) hd) (Nat.le_of_ble_eq_true rfl)) (fun x10 h8 e9 p11 => ?_)
      have L12 := L.ext e9
      refine z_br (fun Q => x_icmp_ge (dA d_M_is 22 rfl) rfl rv6 p11) (fun c13 => ?_) (fun c13 => ?_)
      · refine z_go (fun Q hq => x_iconst (dA d_M_is 31 rfl) hq) ?_
        refine z_fgt (ls' := [mR 107, mL v1, mN, mL v3, mN, mN, mI v6]) ⟨.inr rfl, .inr rfl, .inl rfl, .inr rfl, .inl rfl, .inl rfl, .inr rfl, trivial⟩ ?_
        exact S_M_is_64 hd hG27 L12 rv6 (inR_lit (0 : Int) rfl)
      · refine z_go (fun Q hq => x_aload_n (dA d_M_is 23 rfl) rfl rfl (x_getR (dA d_M_is 24 rfl) f_M_51 (L12.sh (x := (12, 66)) rfl) (by decide) (by decide) rfl (L12.rf 122 rfl) (x_lload_n (dA d_M_is 25 rfl) rfl rfl hq))) ?_
        refine z_bnd (rest := [mR 121]) (st1 := fun v => mI v :: [mR 121]) (S_M_placeOf (d := 0) (Nat.le_refl _) L12 ) (fun _ hx => absurd hx List.not_mem_nil) (fun _ => rfl) (fun Q' Q => x_callS (as := [mL v1]) (rest := [mR 121]) (k' := k_M_placeOf) (dA d_M_is 26 rfl) o_M_placeOf lk_M_327 st_M_placeOf (Nat.le_of_ble_eq_true rfl) (Nat.le_trans (Nat.le_of_ble_eq_true rfl) hd) (Nat.le_of_ble_eq_true rfl)) (fun x16 h14 e15 p17 => ?_)
        have L18 := L12.ext e15
        refine z_go (fun Q hq => x_iload (dA d_M_is 27 rfl) rfl hq) ?_
        refine z_gd (fun g19 => ?_)
        refine z_go (fun Q hq => x_iadd (dA d_M_is 28 rfl) hq) ?_
        refine z_gd (fun g20 => ?_)
        refine z_go (fun Q hq => x_cald (dA d_M_is 29 rfl) (L18.sh (x := (101, 1302)) rfl) g20.1 g20.2 (by decide) (x_goto (dA d_M_is 30 rfl) rfl hq)) ?_
        refine z_fgt (ls' := [mR 107, mL v1, mN, mL v3, mN, mN, mI v6]) ⟨.inr rfl, .inr rfl, .inl rfl, .inr rfl, .inl rfl, .inl rfl, .inr rfl, trivial⟩ ?_
        exact S_M_is_64 hd hG27 L18 rv6 (L18.rg _ _)
noncomputable def F_M_is_27 (v1 : Int64) (v3 : Int64) (v5 : Int) (v6 : Int) (h : MH) : RS Int := itr (fun self (q : Int64 × Int64 × Int × Int × MH) => F_M_is_27_b (fun v1 v3 v5 v6 h => self (v1, v3, v5, v6, h)) q.1 q.2.1 q.2.2.1 q.2.2.2.1 q.2.2.2.2) FU (v1, v3, v5, v6, h)
theorem S_M_is_27 {d : Nat} (hd : 1 ≤ d) {v1 : Int64} {v3 : Int64} {v5 : Int} {v6 : Int} {h : MH} (L : LayC h) (rv5 : inR v5) (rv6 : inR v6) : OK d k_M_is 27 [mR 107, mL v1, mN, mL v3, mN, mI v5, mI v6] [] h cI p01 (F_M_is_27  v1 v3 v5 v6 h) := by
  unfold F_M_is_27
  refine z_itr (P := fun q : Int64 × Int64 × Int × Int × MH => LayC q.2.2.2.2 ∧ inR q.2.2.1 ∧ inR q.2.2.2.1 ∧ True) (ls := fun q : Int64 × Int64 × Int × Int × MH => [mR 107, mL q.1, mN, mL q.2.1, mN, mI q.2.2.1, mI q.2.2.2.1]) (hp := fun q : Int64 × Int64 × Int × Int × MH => q.2.2.2.2) (fun self hs q hq => ?_) FU (v1, v3, v5, v6, h) ⟨L, rv5, rv6, trivial⟩
  exact S_M_is_27_b hd (fun v1 v3 v5 v6 h L rv5 rv6 => hs (v1, v3, v5, v6, h) ⟨L, rv5, rv6, trivial⟩) hq.1 hq.2.1 hq.2.2.1
noncomputable def F_M_is_22 (v1 : Int64) (v3 : Int64) (s0 : Int) (h : MH) : RS Int := F_M_is_27 v1 v3 s0 (0 : Int) h
theorem S_M_is_22 {d : Nat} (hd : 1 ≤ d) {v1 : Int64} {v3 : Int64} {s0 : Int} {h : MH} (L : LayC h) (rs0 : inR s0) : OK d k_M_is 22 [mR 107, mL v1, mN, mL v3, mN, mN, mN] [mI s0] h cI p01 (F_M_is_22  v1 v3 s0 h) := by
  unfold F_M_is_22
  refine z_go (fun Q hq => x_istore (dA d_M_is 11 rfl) (by decide) rfl (x_iconst (dA d_M_is 12 rfl) (x_istore (dA d_M_is 13 rfl) (by decide) rfl hq))) ?_
  exact S_M_is_27 hd  L rs0 (inR_lit (0 : Int) rfl)
noncomputable def F_M_is_21 (v1 : Int64) (v3 : Int64) (h : MH) : RS Int := F_M_is_22 v1 v3 (0 : Int) h
theorem S_M_is_21 {d : Nat} (hd : 1 ≤ d) {v1 : Int64} {v3 : Int64} {h : MH} (L : LayC h) : OK d k_M_is 21 [mR 107, mL v1, mN, mL v3, mN, mN, mN] [] h cI p01 (F_M_is_21  v1 v3 h) := by
  unfold F_M_is_21
  refine z_go (fun Q hq => x_iconst (dA d_M_is 10 rfl) hq) ?_
  exact S_M_is_22 hd  L (inR_lit (0 : Int) rfl)
noncomputable def F_M_is (a1 : Int64) (a2 : Int64) (h : MH) : RS Int := bnd (F_M_kindOf a1 h) fun x23 h21 => if x23 = (1 : Int) then bnd (F_M_sizeOf a1 h21) fun x29 h27 => if (8 : Int) < x29 then F_M_is_21 a1 a2 h27 else F_M_is_22 a1 a2 (1 : Int) h27 else F_M_is_21 a1 a2 h21
theorem S_M_is {d : Nat} (hd : 1 ≤ d) {a1 : Int64} {a2 : Int64} {h : MH} (L : LayC h) : OK d k_M_is 0 [mR 107, mL a1, mN, mL a2, mN, mN, mN] [] h cI p01 (F_M_is  a1 a2 h) := by
  unfold F_M_is
  refine z_go (fun Q hq => x_lload_n (dA d_M_is 0 rfl) rfl rfl hq) ?_
  refine z_bnd (rest := []) (st1 := fun v => mI v :: []) (S_M_kindOf (d := 0) (Nat.le_refl _) L ) (fun _ hx => absurd hx List.not_mem_nil) (fun _ => rfl) (fun Q' Q => x_callS (as := [mL a1]) (rest := []) (k' := k_M_kindOf) (dA d_M_is 1 rfl) o_M_kindOf lk_M_321 st_M_kindOf (Nat.le_of_ble_eq_true rfl) (Nat.le_trans (Nat.le_of_ble_eq_true rfl) hd) (Nat.le_of_ble_eq_true rfl)) (fun x23 h21 e22 p24 => ?_)
  have L25 := L.ext e22
  refine z_go (fun Q hq => x_iconst (dA d_M_is 2 rfl) hq) ?_
  refine z_brn (fun Q => x_icmp_ne (dA d_M_is 3 rfl) rfl p24 (inR_lit (1 : Int) rfl)) (fun c26 => ?_) (fun c26 => ?_)
  · refine z_go (fun Q hq => x_lload_n (dA d_M_is 4 rfl) rfl rfl hq) ?_
    refine z_bnd (rest := []) (st1 := fun v => mI v :: []) (S_M_sizeOf (d := 0) (Nat.le_refl _) L25 ) (fun _ hx => absurd hx List.not_mem_nil) (fun _ => rfl) (fun Q' Q => x_callS (as := [mL a1]) (rest := []) (k' := k_M_sizeOf) (dA d_M_is 5 rfl) o_M_sizeOf lk_M_324 st_M_sizeOf (Nat.le_of_ble_eq_true rfl) (Nat.le_trans (Nat.le_of_ble_eq_true rfl) hd) (Nat.le_of_ble_eq_true rfl)) (fun x29 h27 e28 p30 => ?_)
    have L31 := L25.ext e28
    refine z_go (fun Q hq => x_bipush (dA d_M_is 6 rfl) (by decide) hq) ?_
    refine z_br (fun Q => x_icmp_gt (dA d_M_is 7 rfl) rfl p30 (inR_lit (8 : Int) rfl)) (fun c32 => ?_) (fun c32 => ?_)
    · exact S_M_is_21 hd  L31 
    · refine z_go (fun Q hq => x_iconst (dA d_M_is 8 rfl) (x_goto (dA d_M_is 9 rfl) rfl hq)) ?_
      exact S_M_is_22 hd  L31 (inR_lit (1 : Int) rfl)
  · exact S_M_is_21 hd  L25 
/-! TwoMillsModel.isTwo(II)Z -/
noncomputable def F_M_isTwo_77 (h : MH) : RS Int := some (.inl (0 : Int), h)
theorem S_M_isTwo_77 {d : Nat} (hd : 0 ≤ d) {h : MH} (L : LayC h) : OK d k_M_isTwo 77 [mN, mN] [] h cI p01 (F_M_isTwo_77   h) := by
  unfold F_M_isTwo_77
  refine z_go (fun Q hq => x_iconst (dA d_M_isTwo 39 rfl) hq) ?_
  exact z_retz (dA d_M_isTwo 40 rfl) rfl (.inl rfl)
noncomputable def F_M_isTwo_73 (h : MH) : RS Int := some (.inl (1 : Int), h)
theorem S_M_isTwo_73 {d : Nat} (hd : 0 ≤ d) {h : MH} (L : LayC h) : OK d k_M_isTwo 73 [mN, mN] [] h cI p01 (F_M_isTwo_73   h) := by
  unfold F_M_isTwo_73
  refine z_go (fun Q hq => x_iconst (dA d_M_isTwo 37 rfl) (x_goto (dA d_M_isTwo 38 rfl) rfl hq)) ?_
  exact z_retz (dA d_M_isTwo 40 rfl) rfl (.inr rfl)
noncomputable def F_M_isTwo_41 (h : MH) : RS Int := some (.inl (1 : Int), h)
theorem S_M_isTwo_41 {d : Nat} (hd : 0 ≤ d) {h : MH} (L : LayC h) : OK d k_M_isTwo 41 [mN, mN] [] h cI p01 (F_M_isTwo_41   h) := by
  unfold F_M_isTwo_41
  refine z_go (fun Q hq => x_iconst (dA d_M_isTwo 21 rfl) (x_goto (dA d_M_isTwo 22 rfl) rfl hq)) ?_
  exact z_retz (dA d_M_isTwo 40 rfl) rfl (.inr rfl)
noncomputable def F_M_isTwo (a1 : Int) (a2 : Int) (h : MH) : RS Int := if a1 = a2 then if a1 = (35 : Int) then F_M_isTwo_41  h else if a1 = (61 : Int) then F_M_isTwo_41  h else if a1 = (38 : Int) then F_M_isTwo_41  h else if a1 = (124 : Int) then F_M_isTwo_41  h else if a1 = (60 : Int) then F_M_isTwo_41  h else if a1 = (62 : Int) then F_M_isTwo_41  h else some (.inl (0 : Int), h) else if a2 = (61 : Int) then if a1 = (33 : Int) then F_M_isTwo_73  h else if a1 = (60 : Int) then F_M_isTwo_73  h else if a1 = (62 : Int) then F_M_isTwo_73  h else F_M_isTwo_77  h else F_M_isTwo_77  h
theorem S_M_isTwo {d : Nat} (hd : 0 ≤ d) {a1 : Int} {a2 : Int} {h : MH} (L : LayC h) (ra1 : inR a1) (ra2 : inR a2) : OK d k_M_isTwo 0 [mI a1, mI a2] [] h cI p01 (F_M_isTwo  a1 a2 h) := by
  unfold F_M_isTwo
  refine z_go (fun Q hq => x_iload_n (dA d_M_isTwo 0 rfl) rfl rfl (x_iload_n (dA d_M_isTwo 1 rfl) rfl rfl hq)) ?_
  refine z_brn (fun Q => x_icmp_ne (dA d_M_isTwo 2 rfl) rfl ra1 ra2) (fun c1 => ?_) (fun c1 => ?_)
  · refine z_go (fun Q hq => x_iload_n (dA d_M_isTwo 3 rfl) rfl rfl (x_bipush (dA d_M_isTwo 4 rfl) (by decide) hq)) ?_
    refine z_br (fun Q => x_icmp_eq (dA d_M_isTwo 5 rfl) rfl ra1 (inR_lit (35 : Int) rfl)) (fun c2 => ?_) (fun c2 => ?_)
    · refine z_fgt (ls' := [mN, mN]) ⟨.inl rfl, .inl rfl, trivial⟩ ?_
      exact S_M_isTwo_41 hd  L 
    · refine z_go (fun Q hq => x_iload_n (dA d_M_isTwo 6 rfl) rfl rfl (x_bipush (dA d_M_isTwo 7 rfl) (by decide) hq)) ?_
      refine z_br (fun Q => x_icmp_eq (dA d_M_isTwo 8 rfl) rfl ra1 (inR_lit (61 : Int) rfl)) (fun c3 => ?_) (fun c3 => ?_)
      · refine z_fgt (ls' := [mN, mN]) ⟨.inl rfl, .inl rfl, trivial⟩ ?_
        exact S_M_isTwo_41 hd  L 
      · refine z_go (fun Q hq => x_iload_n (dA d_M_isTwo 9 rfl) rfl rfl (x_bipush (dA d_M_isTwo 10 rfl) (by decide) hq)) ?_
        refine z_br (fun Q => x_icmp_eq (dA d_M_isTwo 11 rfl) rfl ra1 (inR_lit (38 : Int) rfl)) (fun c4 => ?_) (fun c4 => ?_)
        · refine z_fgt (ls' := [mN, mN]) ⟨.inl rfl, .inl rfl, trivial⟩ ?_
          exact S_M_isTwo_41 hd  L 
        · refine z_go (fun Q hq => x_iload_n (dA d_M_isTwo 12 rfl) rfl rfl (x_bipush (dA d_M_isTwo 13 rfl) (by decide) hq)) ?_
          refine z_br (fun Q => x_icmp_eq (dA d_M_isTwo 14 rfl) rfl ra1 (inR_lit (124 : Int) rfl)) (fun c5 => ?_) (fun c5 => ?_)
          · refine z_fgt (ls' := [mN, mN]) ⟨.inl rfl, .inl rfl, trivial⟩ ?_
            exact S_M_isTwo_41 hd  L 
          · refine z_go (fun Q hq => x_iload_n (dA d_M_isTwo 15 rfl) rfl rfl (x_bipush (dA d_M_isTwo 16 rfl) (by decide) hq)) ?_
            refine z_br (fun Q => x_icmp_eq (dA d_M_isTwo 17 rfl) rfl ra1 (inR_lit (60 : Int) rfl)) (fun c6 => ?_) (fun c6 => ?_)
            · refine z_fgt (ls' := [mN, mN]) ⟨.inl rfl, .inl rfl, trivial⟩ ?_
              exact S_M_isTwo_41 hd  L 
            · refine z_go (fun Q hq => x_iload_n (dA d_M_isTwo 18 rfl) rfl rfl (x_bipush (dA d_M_isTwo 19 rfl) (by decide) hq)) ?_
              refine z_brn (fun Q => x_icmp_ne (dA d_M_isTwo 20 rfl) rfl ra1 (inR_lit (62 : Int) rfl)) (fun c7 => ?_) (fun c7 => ?_)
              · refine z_fgt (ls' := [mN, mN]) ⟨.inl rfl, .inl rfl, trivial⟩ ?_
                exact S_M_isTwo_41 hd  L 
              · refine z_go (fun Q hq => x_iconst (dA d_M_isTwo 23 rfl) (x_goto (dA d_M_isTwo 24 rfl) rfl hq)) ?_
                exact z_retz (dA d_M_isTwo 40 rfl) rfl (.inl rfl)
  · refine z_go (fun Q hq => x_iload_n (dA d_M_isTwo 25 rfl) rfl rfl (x_bipush (dA d_M_isTwo 26 rfl) (by decide) hq)) ?_
    refine z_brn (fun Q => x_icmp_ne (dA d_M_isTwo 27 rfl) rfl ra2 (inR_lit (61 : Int) rfl)) (fun c8 => ?_) (fun c8 => ?_)
    · refine z_go (fun Q hq => x_iload_n (dA d_M_isTwo 28 rfl) rfl rfl (x_bipush (dA d_M_isTwo 29 rfl) (by decide) hq)) ?_
      refine z_br (fun Q => x_icmp_eq (dA d_M_isTwo 30 rfl) rfl ra1 (inR_lit (33 : Int) rfl)) (fun c9 => ?_) (fun c9 => ?_)
      · refine z_fgt (ls' := [mN, mN]) ⟨.inl rfl, .inl rfl, trivial⟩ ?_
        exact S_M_isTwo_73 hd  L 
      · refine z_go (fun Q hq => x_iload_n (dA d_M_isTwo 31 rfl) rfl rfl (x_bipush (dA d_M_isTwo 32 rfl) (by decide) hq)) ?_
        refine z_br (fun Q => x_icmp_eq (dA d_M_isTwo 33 rfl) rfl ra1 (inR_lit (60 : Int) rfl)) (fun c10 => ?_) (fun c10 => ?_)
        · refine z_fgt (ls' := [mN, mN]) ⟨.inl rfl, .inl rfl, trivial⟩ ?_
          exact S_M_isTwo_73 hd  L 
        · refine z_go (fun Q hq => x_iload_n (dA d_M_isTwo 34 rfl) rfl rfl (x_bipush (dA d_M_isTwo 35 rfl) (by decide) hq)) ?_
          refine z_brn (fun Q => x_icmp_ne (dA d_M_isTwo 36 rfl) rfl ra1 (inR_lit (62 : Int) rfl)) (fun c11 => ?_) (fun c11 => ?_)
          · refine z_fgt (ls' := [mN, mN]) ⟨.inl rfl, .inl rfl, trivial⟩ ?_
            exact S_M_isTwo_73 hd  L 
          · refine z_fgt (ls' := [mN, mN]) ⟨.inl rfl, .inl rfl, trivial⟩ ?_
            exact S_M_isTwo_77 hd  L 
    · refine z_fgt (ls' := [mN, mN]) ⟨.inl rfl, .inl rfl, trivial⟩ ?_
      exact S_M_isTwo_77 hd  L 
/-! TwoMillsModel.look(II)V -/
noncomputable def F_M_look_168 (v1 : Int) (v4 : Int) (h : MH) : RS Unit := gd (inR (v4 - v1)) (sto (mPi h 107 31 (v4 - v1)) fun h2 => some (.inl (), h2))
theorem S_M_look_168 {d : Nat} (hd : 2 ≤ d) {v1 : Int} {v4 : Int} {h : MH} (L : LayC h) (rv1 : inR v1) (rv4 : inR v4) : OK d k_M_look 168 [mR 107, mI v1, mN, mN, mI v4] [] h cV pT (F_M_look_168  v1 v4 h) := by
  unfold F_M_look_168
  refine z_go (fun Q hq => x_aload_n (dA d_M_look 85 rfl) rfl rfl (x_iload (dA d_M_look 86 rfl) rfl (x_iload_n (dA d_M_look 87 rfl) rfl rfl hq))) ?_
  refine z_gd (fun g1 => ?_)
  refine z_go (fun Q hq => x_isub (dA d_M_look 88 rfl) hq) ?_
  refine z_sto (Ext.pi (L.sh (x := (12, 66)) rfl) (by decide) g1) (fun Q hq => x_putI (dA d_M_look 89 rfl) p_M_337 (L.sh (x := (12, 66)) rfl) (by decide) cl_M rfl hq) (fun h2 e3 => ?_)
  have L4 := L.ext e3
  exact z_retv (dA d_M_look 90 rfl) rfl
noncomputable def F_M_look_132 (v1 : Int) (s0 : Int) (h : MH) : RS Unit := F_M_look_168 v1 s0 h
theorem S_M_look_132 {d : Nat} (hd : 2 ≤ d) {v1 : Int} {s0 : Int} {h : MH} (L : LayC h) (rv1 : inR v1) (rs0 : inR s0) : OK d k_M_look 132 [mR 107, mI v1, mN, mN, mN] [mI s0] h cV pT (F_M_look_132  v1 s0 h) := by
  unfold F_M_look_132
  refine z_go (fun Q hq => x_istore (dA d_M_look 68 rfl) (by decide) rfl (x_goto (dA d_M_look 69 rfl) rfl hq)) ?_
  exact S_M_look_168 hd  L rv1 rs0
noncomputable def F_M_look_113 (v1 : Int) (v2 : Int) (v4 : Int) (s1 : Int) (h : MH) : RS Unit := sto (mPi h 107 30 s1) fun h5 => if v2 ≤ v4 then gd (inR (v1 + (1 : Int))) (F_M_look_132 v1 (v1 + (1 : Int)) h5) else gd (inR (v4 + (1 : Int))) (F_M_look_132 v1 (v4 + (1 : Int)) h5)
theorem S_M_look_113 {d : Nat} (hd : 2 ≤ d) {v1 : Int} {v2 : Int} {v4 : Int} {s1 : Int} {h : MH} (L : LayC h) (rv1 : inR v1) (rv2 : inR v2) (rv4 : inR v4) (rs1 : inR s1) : OK d k_M_look 113 [mR 107, mI v1, mI v2, mN, mI v4] [mI s1, mR 107] h cV pT (F_M_look_113  v1 v2 v4 s1 h) := by
  unfold F_M_look_113
  refine z_sto (Ext.pi (L.sh (x := (12, 66)) rfl) (by decide) rs1) (fun Q hq => x_putI (dA d_M_look 57 rfl) p_M_330 (L.sh (x := (12, 66)) rfl) (by decide) cl_M rfl hq) (fun h5 e6 => ?_)
  have L7 := L.ext e6
  refine z_go (fun Q hq => x_iload (dA d_M_look 58 rfl) rfl (x_iload_n (dA d_M_look 59 rfl) rfl rfl hq)) ?_
  refine z_br (fun Q => x_icmp_ge (dA d_M_look 60 rfl) rfl rv4 rv2) (fun c8 => ?_) (fun c8 => ?_)
  · refine z_go (fun Q hq => x_iload_n (dA d_M_look 65 rfl) rfl rfl (x_iconst (dA d_M_look 66 rfl) hq)) ?_
    refine z_gd (fun g9 => ?_)
    refine z_go (fun Q hq => x_iadd (dA d_M_look 67 rfl) hq) ?_
    refine z_fgt (ls' := [mR 107, mI v1, mN, mN, mN]) ⟨.inr rfl, .inr rfl, .inl rfl, .inl rfl, .inl rfl, trivial⟩ ?_
    exact S_M_look_132 hd  L7 rv1 g9
  · refine z_go (fun Q hq => x_iload (dA d_M_look 61 rfl) rfl (x_iconst (dA d_M_look 62 rfl) hq)) ?_
    refine z_gd (fun g10 => ?_)
    refine z_go (fun Q hq => x_iadd (dA d_M_look 63 rfl) (x_goto (dA d_M_look 64 rfl) rfl hq)) ?_
    refine z_fgt (ls' := [mR 107, mI v1, mN, mN, mN]) ⟨.inr rfl, .inr rfl, .inl rfl, .inl rfl, .inl rfl, trivial⟩ ?_
    exact S_M_look_132 hd  L7 rv1 g10
noncomputable def F_M_look_101 (v1 : Int) (v2 : Int) (v4 : Int) (h : MH) : RS Unit := if v2 ≤ v4 then F_M_look_113 v1 v2 v4 (4 : Int) h else F_M_look_113 v1 v2 v4 (3 : Int) h
theorem S_M_look_101 {d : Nat} (hd : 2 ≤ d) {v1 : Int} {v2 : Int} {v4 : Int} {h : MH} (L : LayC h) (rv1 : inR v1) (rv2 : inR v2) (rv4 : inR v4) : OK d k_M_look 101 [mR 107, mI v1, mI v2, mN, mI v4] [] h cV pT (F_M_look_101  v1 v2 v4 h) := by
  unfold F_M_look_101
  refine z_go (fun Q hq => x_aload_n (dA d_M_look 50 rfl) rfl rfl (x_iload (dA d_M_look 51 rfl) rfl (x_iload_n (dA d_M_look 52 rfl) rfl rfl hq))) ?_
  refine z_br (fun Q => x_icmp_ge (dA d_M_look 53 rfl) rfl rv4 rv2) (fun c11 => ?_) (fun c11 => ?_)
  · refine z_go (fun Q hq => x_iconst (dA d_M_look 56 rfl) hq) ?_
    exact S_M_look_113 hd  L rv1 rv2 rv4 (inR_lit (4 : Int) rfl)
  · refine z_go (fun Q hq => x_iconst (dA d_M_look 54 rfl) (x_goto (dA d_M_look 55 rfl) rfl hq)) ?_
    exact S_M_look_113 hd  L rv1 rv2 rv4 (inR_lit (3 : Int) rfl)
noncomputable def F_M_look_77_b (G77 : Int → Int → Int → MH → RS Unit) (v1 : Int) (v2 : Int) (v4 : Int) (h : MH) : RS Unit := if v2 ≤ v4 then F_M_look_101 v1 v2 v4 h else gd (0 ≤ v4 ∧ v4 < 1302) (if (mGi h 121 v4.toNat) = (34 : Int) then F_M_look_101 v1 v2 v4 h else gd (inR (v4 + (1 : Int))) (G77 v1 v2 (v4 + (1 : Int)) h))
theorem S_M_look_77_b {d : Nat} (hd : 2 ≤ d) {G77 : Int → Int → Int → MH → RS Unit} (hG77 : ∀ (v1 : Int) (v2 : Int) (v4 : Int) (h : MH), LayC h → inR v1 → inR v2 → inR v4 → OK d k_M_look 77 [mR 107, mI v1, mI v2, mN, mI v4] [] h cV pT (G77 v1 v2 v4 h)) {v1 : Int} {v2 : Int} {v4 : Int} {h : MH} (L : LayC h) (rv1 : inR v1) (rv2 : inR v2) (rv4 : inR v4) : OK d k_M_look 77 [mR 107, mI v1, mI v2, mN, mI v4] [] h cV pT (F_M_look_77_b G77 v1 v2 v4 h) := by
  unfold F_M_look_77_b
  refine z_go (fun Q hq => x_iload (dA d_M_look 39 rfl) rfl (x_iload_n (dA d_M_look 40 rfl) rfl rfl hq)) ?_
  refine z_br (fun Q => x_icmp_ge (dA d_M_look 41 rfl) rfl rv4 rv2) (fun c12 => ?_) (fun c12 => ?_)
  · exact S_M_look_101 hd  L rv1 rv2 rv4
  · refine z_go (fun Q hq => x_aload_n (dA d_M_look 42 rfl) rfl rfl (x_getR (dA d_M_look 43 rfl) f_M_51 (L.sh (x := (12, 66)) rfl) (by decide) (by decide) rfl (L.rf 122 rfl) (x_iload (dA d_M_look 44 rfl) rfl hq))) ?_
    refine z_gd (fun g13 => ?_)
    refine z_go (fun Q hq => x_cald (dA d_M_look 45 rfl) (L.sh (x := (101, 1302)) rfl) g13.1 g13.2 (by decide) (x_bipush (dA d_M_look 46 rfl) (by decide) hq)) ?_
    refine z_br (fun Q => x_icmp_eq (dA d_M_look 47 rfl) rfl (L.rg _ _) (inR_lit (34 : Int) rfl)) (fun c14 => ?_) (fun c14 => ?_)
    · exact S_M_look_101 hd  L rv1 rv2 rv4
    · refine z_gd (fun g15 => ?_)
      refine z_go (fun Q hq => x_iinc (dA d_M_look 48 rfl) rfl (by decide) rfl (x_goto (dA d_M_look 49 rfl) rfl hq)) ?_
      exact hG77 v1 v2 (v4 + (1 : Int)) h L rv1 rv2 g15
noncomputable def F_M_look_77 (v1 : Int) (v2 : Int) (v4 : Int) (h : MH) : RS Unit := itr (fun self (q : Int × Int × Int × MH) => F_M_look_77_b (fun v1 v2 v4 h => self (v1, v2, v4, h)) q.1 q.2.1 q.2.2.1 q.2.2.2) FU (v1, v2, v4, h)
theorem S_M_look_77 {d : Nat} (hd : 2 ≤ d) {v1 : Int} {v2 : Int} {v4 : Int} {h : MH} (L : LayC h) (rv1 : inR v1) (rv2 : inR v2) (rv4 : inR v4) : OK d k_M_look 77 [mR 107, mI v1, mI v2, mN, mI v4] [] h cV pT (F_M_look_77  v1 v2 v4 h) := by
  unfold F_M_look_77
  refine z_itr (P := fun q : Int × Int × Int × MH => LayC q.2.2.2 ∧ inR q.1 ∧ inR q.2.1 ∧ inR q.2.2.1 ∧ True) (ls := fun q : Int × Int × Int × MH => [mR 107, mI q.1, mI q.2.1, mN, mI q.2.2.1]) (hp := fun q : Int × Int × Int × MH => q.2.2.2) (fun self hs q hq => ?_) FU (v1, v2, v4, h) ⟨L, rv1, rv2, rv4, trivial⟩
  exact S_M_look_77_b hd (fun v1 v2 v4 h L rv1 rv2 rv4 => hs (v1, v2, v4, h) ⟨L, rv1, rv2, rv4, trivial⟩) hq.1 hq.2.1 hq.2.2.1 hq.2.2.2.1
noncomputable def F_M_look_68 (v1 : Int) (v2 : Int) (v3 : Int) (v4 : Int) (s1 : Int) (h : MH) : RS Unit := sto (mPi h 107 30 s1) fun h16 => if v3 = (34 : Int) then F_M_look_77 v1 v2 v4 h16 else if (mGi h16 107 30) = (4 : Int) then if v2 ≤ v4 then F_M_look_168 v1 v4 h16 else gd (0 ≤ v4 ∧ v4 < 1302) (bnd (F_M_isTwo v3 (mGi h16 121 v4.toNat) h16) fun x25 h23 => if x25 = 0 then F_M_look_168 v1 v4 h23 else gd (inR (v4 + (1 : Int))) (F_M_look_168 v1 (v4 + (1 : Int)) h23)) else F_M_look_168 v1 v4 h16
theorem S_M_look_68 {d : Nat} (hd : 2 ≤ d) {v1 : Int} {v2 : Int} {v3 : Int} {v4 : Int} {s1 : Int} {h : MH} (L : LayC h) (rv1 : inR v1) (rv2 : inR v2) (rv3 : inR v3) (rv4 : inR v4) (rs1 : inR s1) : OK d k_M_look 68 [mR 107, mI v1, mI v2, mI v3, mI v4] [mI s1, mR 107] h cV pT (F_M_look_68  v1 v2 v3 v4 s1 h) := by
  unfold F_M_look_68
  refine z_sto (Ext.pi (L.sh (x := (12, 66)) rfl) (by decide) rs1) (fun Q hq => x_putI (dA d_M_look 35 rfl) p_M_330 (L.sh (x := (12, 66)) rfl) (by decide) cl_M rfl hq) (fun h16 e17 => ?_)
  have L18 := L.ext e17
  refine z_go (fun Q hq => x_iload_n (dA d_M_look 36 rfl) rfl rfl (x_bipush (dA d_M_look 37 rfl) (by decide) hq)) ?_
  refine z_brn (fun Q => x_icmp_ne (dA d_M_look 38 rfl) rfl rv3 (inR_lit (34 : Int) rfl)) (fun c19 => ?_) (fun c19 => ?_)
  · refine z_fgt (ls' := [mR 107, mI v1, mI v2, mN, mI v4]) ⟨.inr rfl, .inr rfl, .inr rfl, .inl rfl, .inr rfl, trivial⟩ ?_
    exact S_M_look_77 hd  L18 rv1 rv2 rv4
  · refine z_go (fun Q hq => x_aload_n (dA d_M_look 70 rfl) rfl rfl (x_getI (dA d_M_look 71 rfl) f_M_330 (L18.sh (x := (12, 66)) rfl) (by decide) (by decide) rfl (x_iconst (dA d_M_look 72 rfl) hq))) ?_
    refine z_brn (fun Q => x_icmp_ne (dA d_M_look 73 rfl) rfl (L18.rg _ _) (inR_lit (4 : Int) rfl)) (fun c20 => ?_) (fun c20 => ?_)
    · refine z_go (fun Q hq => x_iload (dA d_M_look 74 rfl) rfl (x_iload_n (dA d_M_look 75 rfl) rfl rfl hq)) ?_
      refine z_br (fun Q => x_icmp_ge (dA d_M_look 76 rfl) rfl rv4 rv2) (fun c21 => ?_) (fun c21 => ?_)
      · refine z_fgt (ls' := [mR 107, mI v1, mN, mN, mI v4]) ⟨.inr rfl, .inr rfl, .inl rfl, .inl rfl, .inr rfl, trivial⟩ ?_
        exact S_M_look_168 hd  L18 rv1 rv4
      · refine z_go (fun Q hq => x_iload_n (dA d_M_look 77 rfl) rfl rfl (x_aload_n (dA d_M_look 78 rfl) rfl rfl (x_getR (dA d_M_look 79 rfl) f_M_51 (L18.sh (x := (12, 66)) rfl) (by decide) (by decide) rfl (L18.rf 122 rfl) (x_iload (dA d_M_look 80 rfl) rfl hq)))) ?_
        refine z_gd (fun g22 => ?_)
        refine z_go (fun Q hq => x_cald (dA d_M_look 81 rfl) (L18.sh (x := (101, 1302)) rfl) g22.1 g22.2 (by decide) hq) ?_
        refine z_bnd (rest := []) (st1 := fun v => mI v :: []) (S_M_isTwo (d := 0) (Nat.le_refl _) L18 rv3 (L18.rg _ _)) (fun _ hx => absurd hx List.not_mem_nil) (fun _ => rfl) (fun Q' Q => x_callS (as := [mI v3, mI (mGi h16 121 v4.toNat)]) (rest := []) (k' := k_M_isTwo) (dA d_M_look 82 rfl) o_M_isTwo lk_M_333 st_M_isTwo (Nat.le_of_ble_eq_true rfl) (Nat.le_trans (Nat.le_of_ble_eq_true rfl) hd) (Nat.le_of_ble_eq_true rfl)) (fun x25 h23 e24 p26 => ?_)
        have L27 := L18.ext e24
        refine z_br (fun Q => x_if_eq (dA d_M_look 83 rfl) rfl p26.inR) (fun c28 => ?_) (fun c28 => ?_)
        · refine z_fgt (ls' := [mR 107, mI v1, mN, mN, mI v4]) ⟨.inr rfl, .inr rfl, .inl rfl, .inl rfl, .inr rfl, trivial⟩ ?_
          exact S_M_look_168 hd  L27 rv1 rv4
        · refine z_gd (fun g29 => ?_)
          refine z_go (fun Q hq => x_iinc (dA d_M_look 84 rfl) rfl (by decide) rfl hq) ?_
          refine z_fgt (ls' := [mR 107, mI v1, mN, mN, mI (v4 + (1 : Int))]) ⟨.inr rfl, .inr rfl, .inl rfl, .inl rfl, .inr rfl, trivial⟩ ?_
          exact S_M_look_168 hd  L27 rv1 g29
    · refine z_fgt (ls' := [mR 107, mI v1, mN, mN, mI v4]) ⟨.inr rfl, .inr rfl, .inl rfl, .inl rfl, .inr rfl, trivial⟩ ?_
      exact S_M_look_168 hd  L18 rv1 rv4
noncomputable def F_M_look_44 (v1 : Int) (v2 : Int) (v3 : Int) (v4 : Int) (h : MH) : RS Unit := bnd (F_M_isDigit v3 h) fun x32 h30 => if x32 = 0 then bnd (F_M_isLetter v3 h30) fun x38 h36 => if x38 = 0 then F_M_look_68 v1 v2 v3 v4 (4 : Int) h36 else F_M_look_68 v1 v2 v3 v4 (1 : Int) h36 else F_M_look_68 v1 v2 v3 v4 (2 : Int) h30
theorem S_M_look_44 {d : Nat} (hd : 2 ≤ d) {v1 : Int} {v2 : Int} {v3 : Int} {v4 : Int} {h : MH} (L : LayC h) (rv1 : inR v1) (rv2 : inR v2) (rv3 : inR v3) (rv4 : inR v4) : OK d k_M_look 44 [mR 107, mI v1, mI v2, mI v3, mI v4] [] h cV pT (F_M_look_44  v1 v2 v3 v4 h) := by
  unfold F_M_look_44
  refine z_go (fun Q hq => x_aload_n (dA d_M_look 23 rfl) rfl rfl (x_iload_n (dA d_M_look 24 rfl) rfl rfl hq)) ?_
  refine z_bnd (rest := [mR 107]) (st1 := fun v => mI v :: [mR 107]) (S_M_isDigit (d := 0) (Nat.le_refl _) L rv3) (fun _ hx => absurd hx List.not_mem_nil) (fun _ => rfl) (fun Q' Q => x_callS (as := [mI v3]) (rest := [mR 107]) (k' := k_M_isDigit) (dA d_M_look 25 rfl) o_M_isDigit lk_M_154 st_M_isDigit (Nat.le_of_ble_eq_true rfl) (Nat.le_trans (Nat.le_of_ble_eq_true rfl) hd) (Nat.le_of_ble_eq_true rfl)) (fun x32 h30 e31 p33 => ?_)
  have L34 := L.ext e31
  refine z_br (fun Q => x_if_eq (dA d_M_look 26 rfl) rfl p33.inR) (fun c35 => ?_) (fun c35 => ?_)
  · refine z_go (fun Q hq => x_iload_n (dA d_M_look 29 rfl) rfl rfl hq) ?_
    refine z_bnd (rest := [mR 107]) (st1 := fun v => mI v :: [mR 107]) (S_M_isLetter (d := 0) (Nat.le_refl _) L34 rv3) (fun _ hx => absurd hx List.not_mem_nil) (fun _ => rfl) (fun Q' Q => x_callS (as := [mI v3]) (rest := [mR 107]) (k' := k_M_isLetter) (dA d_M_look 30 rfl) o_M_isLetter lk_M_150 st_M_isLetter (Nat.le_of_ble_eq_true rfl) (Nat.le_trans (Nat.le_of_ble_eq_true rfl) hd) (Nat.le_of_ble_eq_true rfl)) (fun x38 h36 e37 p39 => ?_)
    have L40 := L34.ext e37
    refine z_br (fun Q => x_if_eq (dA d_M_look 31 rfl) rfl p39.inR) (fun c41 => ?_) (fun c41 => ?_)
    · refine z_go (fun Q hq => x_iconst (dA d_M_look 34 rfl) hq) ?_
      exact S_M_look_68 hd  L40 rv1 rv2 rv3 rv4 (inR_lit (4 : Int) rfl)
    · refine z_go (fun Q hq => x_iconst (dA d_M_look 32 rfl) (x_goto (dA d_M_look 33 rfl) rfl hq)) ?_
      exact S_M_look_68 hd  L40 rv1 rv2 rv3 rv4 (inR_lit (1 : Int) rfl)
  · refine z_go (fun Q hq => x_iconst (dA d_M_look 27 rfl) (x_goto (dA d_M_look 28 rfl) rfl hq)) ?_
    exact S_M_look_68 hd  L34 rv1 rv2 rv3 rv4 (inR_lit (2 : Int) rfl)
noncomputable def F_M_look_12_b (G12 : Int → Int → Int → Int → MH → RS Unit) (v1 : Int) (v2 : Int) (v3 : Int) (v4 : Int) (h : MH) : RS Unit := bnd (F_M_isPart v3 h) fun x44 h42 => if x44 = 0 then F_M_look_44 v1 v2 v3 v4 h42 else if v2 ≤ v4 then F_M_look_44 v1 v2 v3 v4 h42 else gd (0 ≤ v4 ∧ v4 < 1302) (bnd (F_M_isPart (mGi h42 121 v4.toNat) h42) fun x52 h50 => if x52 = 0 then F_M_look_44 v1 v2 v3 v4 h50 else gd (inR (v4 + (1 : Int))) (G12 v1 v2 v3 (v4 + (1 : Int)) h50))
theorem S_M_look_12_b {d : Nat} (hd : 2 ≤ d) {G12 : Int → Int → Int → Int → MH → RS Unit} (hG12 : ∀ (v1 : Int) (v2 : Int) (v3 : Int) (v4 : Int) (h : MH), LayC h → inR v1 → inR v2 → inR v3 → inR v4 → OK d k_M_look 12 [mR 107, mI v1, mI v2, mI v3, mI v4] [] h cV pT (G12 v1 v2 v3 v4 h)) {v1 : Int} {v2 : Int} {v3 : Int} {v4 : Int} {h : MH} (L : LayC h) (rv1 : inR v1) (rv2 : inR v2) (rv3 : inR v3) (rv4 : inR v4) : OK d k_M_look 12 [mR 107, mI v1, mI v2, mI v3, mI v4] [] h cV pT (F_M_look_12_b G12 v1 v2 v3 v4 h) := by
  unfold F_M_look_12_b
  refine z_go (fun Q hq => x_iload_n (dA d_M_look 9 rfl) rfl rfl hq) ?_
  refine z_bnd (rest := []) (st1 := fun v => mI v :: []) (S_M_isPart (d := 1) (Nat.le_refl _) L rv3) (fun _ hx => absurd hx List.not_mem_nil) (fun _ => rfl) (fun Q' Q => x_callS (as := [mI v3]) (rest := []) (k' := k_M_isPart) (dA d_M_look 10 rfl) o_M_isPart lk_M_211 st_M_isPart (Nat.le_of_ble_eq_true rfl) (Nat.le_trans (Nat.le_of_ble_eq_true rfl) hd) (Nat.le_of_ble_eq_true rfl)) (fun x44 h42 e43 p45 => ?_)
  have L46 := L.ext e43
  refine z_br (fun Q => x_if_eq (dA d_M_look 11 rfl) rfl p45.inR) (fun c47 => ?_) (fun c47 => ?_)
  · exact S_M_look_44 hd  L46 rv1 rv2 rv3 rv4
  · refine z_go (fun Q hq => x_iload (dA d_M_look 12 rfl) rfl (x_iload_n (dA d_M_look 13 rfl) rfl rfl hq)) ?_
    refine z_br (fun Q => x_icmp_ge (dA d_M_look 14 rfl) rfl rv4 rv2) (fun c48 => ?_) (fun c48 => ?_)
    · exact S_M_look_44 hd  L46 rv1 rv2 rv3 rv4
    · refine z_go (fun Q hq => x_aload_n (dA d_M_look 15 rfl) rfl rfl (x_getR (dA d_M_look 16 rfl) f_M_51 (L46.sh (x := (12, 66)) rfl) (by decide) (by decide) rfl (L46.rf 122 rfl) (x_iload (dA d_M_look 17 rfl) rfl hq))) ?_
      refine z_gd (fun g49 => ?_)
      refine z_go (fun Q hq => x_cald (dA d_M_look 18 rfl) (L46.sh (x := (101, 1302)) rfl) g49.1 g49.2 (by decide) hq) ?_
      refine z_bnd (rest := []) (st1 := fun v => mI v :: []) (S_M_isPart (d := 1) (Nat.le_refl _) L46 (L46.rg _ _)) (fun _ hx => absurd hx List.not_mem_nil) (fun _ => rfl) (fun Q' Q => x_callS (as := [mI (mGi h42 121 v4.toNat)]) (rest := []) (k' := k_M_isPart) (dA d_M_look 19 rfl) o_M_isPart lk_M_211 st_M_isPart (Nat.le_of_ble_eq_true rfl) (Nat.le_trans (Nat.le_of_ble_eq_true rfl) hd) (Nat.le_of_ble_eq_true rfl)) (fun x52 h50 e51 p53 => ?_)
      have L54 := L46.ext e51
      refine z_br (fun Q => x_if_eq (dA d_M_look 20 rfl) rfl p53.inR) (fun c55 => ?_) (fun c55 => ?_)
      · exact S_M_look_44 hd  L54 rv1 rv2 rv3 rv4
      · refine z_gd (fun g56 => ?_)
        refine z_go (fun Q hq => x_iinc (dA d_M_look 21 rfl) rfl (by decide) rfl (x_goto (dA d_M_look 22 rfl) rfl hq)) ?_
        exact hG12 v1 v2 v3 (v4 + (1 : Int)) h50 L54 rv1 rv2 rv3 g56
noncomputable def F_M_look_12 (v1 : Int) (v2 : Int) (v3 : Int) (v4 : Int) (h : MH) : RS Unit := itr (fun self (q : Int × Int × Int × Int × MH) => F_M_look_12_b (fun v1 v2 v3 v4 h => self (v1, v2, v3, v4, h)) q.1 q.2.1 q.2.2.1 q.2.2.2.1 q.2.2.2.2) FU (v1, v2, v3, v4, h)
theorem S_M_look_12 {d : Nat} (hd : 2 ≤ d) {v1 : Int} {v2 : Int} {v3 : Int} {v4 : Int} {h : MH} (L : LayC h) (rv1 : inR v1) (rv2 : inR v2) (rv3 : inR v3) (rv4 : inR v4) : OK d k_M_look 12 [mR 107, mI v1, mI v2, mI v3, mI v4] [] h cV pT (F_M_look_12  v1 v2 v3 v4 h) := by
  unfold F_M_look_12
  refine z_itr (P := fun q : Int × Int × Int × Int × MH => LayC q.2.2.2.2 ∧ inR q.1 ∧ inR q.2.1 ∧ inR q.2.2.1 ∧ inR q.2.2.2.1 ∧ True) (ls := fun q : Int × Int × Int × Int × MH => [mR 107, mI q.1, mI q.2.1, mI q.2.2.1, mI q.2.2.2.1]) (hp := fun q : Int × Int × Int × Int × MH => q.2.2.2.2) (fun self hs q hq => ?_) FU (v1, v2, v3, v4, h) ⟨L, rv1, rv2, rv3, rv4, trivial⟩
  exact S_M_look_12_b hd (fun v1 v2 v3 v4 h L rv1 rv2 rv3 rv4 => hs (v1, v2, v3, v4, h) ⟨L, rv1, rv2, rv3, rv4, trivial⟩) hq.1 hq.2.1 hq.2.2.1 hq.2.2.2.1 hq.2.2.2.2.1
noncomputable def F_M_look (a1 : Int) (a2 : Int) (h : MH) : RS Unit := gd (0 ≤ a1 ∧ a1 < 1302) (gd (inR (a1 + (1 : Int))) (F_M_look_12 a1 a2 (mGi h 121 a1.toNat) (a1 + (1 : Int)) h))
theorem S_M_look {d : Nat} (hd : 2 ≤ d) {a1 : Int} {a2 : Int} {h : MH} (L : LayC h) (ra1 : inR a1) (ra2 : inR a2) : OK d k_M_look 0 [mR 107, mI a1, mI a2, mN, mN] [] h cV pT (F_M_look  a1 a2 h) := by
  unfold F_M_look
  refine z_go (fun Q hq => x_aload_n (dA d_M_look 0 rfl) rfl rfl (x_getR (dA d_M_look 1 rfl) f_M_51 (L.sh (x := (12, 66)) rfl) (by decide) (by decide) rfl (L.rf 122 rfl) (x_iload_n (dA d_M_look 2 rfl) rfl rfl hq))) ?_
  refine z_gd (fun g57 => ?_)
  refine z_go (fun Q hq => x_cald (dA d_M_look 3 rfl) (L.sh (x := (101, 1302)) rfl) g57.1 g57.2 (by decide) (x_istore_n (dA d_M_look 4 rfl) rfl (by decide) rfl (x_iload_n (dA d_M_look 5 rfl) rfl rfl (x_iconst (dA d_M_look 6 rfl) hq)))) ?_
  refine z_gd (fun g58 => ?_)
  refine z_go (fun Q hq => x_iadd (dA d_M_look 7 rfl) (x_istore (dA d_M_look 8 rfl) (by decide) rfl hq)) ?_
  exact S_M_look_12 hd  L ra1 ra2 (L.rg _ _) g58
/-! TwoMillsModel.takeLine(II)V -/
noncomputable def F_M_takeLine_96 (G7 : Int → Int → MH → RS Unit) (v2 : Int) (s0 : Int) (s1 : Int) (h : MH) : RS Unit := gd (inR (s0 + s1)) (G7 v2 (s0 + s1) h)
theorem S_M_takeLine_96 {d : Nat} (hd : 3 ≤ d) {G7 : Int → Int → MH → RS Unit} (hG7 : ∀ (v2 : Int) (v3 : Int) (h : MH), LayC h → inR v2 → inR v3 → OK d k_M_takeLine 7 [mR 107, mN, mI v2, mI v3, mN] [] h cV pT (G7 v2 v3 h)) {v2 : Int} {s0 : Int} {s1 : Int} {h : MH} (L : LayC h) (rv2 : inR v2) (rs0 : inR s0) (rs1 : inR s1) : OK d k_M_takeLine 96 [mR 107, mN, mI v2, mN, mN] [mI s1, mI s0] h cV pT (F_M_takeLine_96 G7 v2 s0 s1 h) := by
  unfold F_M_takeLine_96
  refine z_gd (fun g1 => ?_)
  refine z_go (fun Q hq => x_iadd (dA d_M_takeLine 53 rfl) (x_istore_n (dA d_M_takeLine 54 rfl) rfl (by decide) rfl (x_goto (dA d_M_takeLine 55 rfl) rfl hq))) ?_
  exact hG7 v2 (s0 + s1) h L rv2 g1
noncomputable def F_M_takeLine_78 (G7 : Int → Int → MH → RS Unit) (v2 : Int) (v3 : Int) (v4 : Int) (s1 : Int) (s2 : Int) (h : MH) : RS Unit := gd (inR (s1 + s2)) (sto (mPi h 107 29 (s1 + s2)) fun h3 => if v4 = 0 then F_M_takeLine_96 G7 v2 v3 (mGi h3 107 31) h3 else F_M_takeLine_96 G7 v2 v3 (1 : Int) h3)
theorem S_M_takeLine_78 {d : Nat} (hd : 3 ≤ d) {G7 : Int → Int → MH → RS Unit} (hG7 : ∀ (v2 : Int) (v3 : Int) (h : MH), LayC h → inR v2 → inR v3 → OK d k_M_takeLine 7 [mR 107, mN, mI v2, mI v3, mN] [] h cV pT (G7 v2 v3 h)) {v2 : Int} {v3 : Int} {v4 : Int} {s1 : Int} {s2 : Int} {h : MH} (L : LayC h) (rv2 : inR v2) (rv3 : inR v3) (rv4 : inR v4) (rs1 : inR s1) (rs2 : inR s2) : OK d k_M_takeLine 78 [mR 107, mN, mI v2, mI v3, mI v4] [mI s2, mI s1, mR 107] h cV pT (F_M_takeLine_78 G7 v2 v3 v4 s1 s2 h) := by
  unfold F_M_takeLine_78
  refine z_gd (fun g2 => ?_)
  refine z_go (fun Q hq => x_iadd (dA d_M_takeLine 44 rfl) hq) ?_
  refine z_sto (Ext.pi (L.sh (x := (12, 66)) rfl) (by decide) g2) (fun Q hq => x_putI (dA d_M_takeLine 45 rfl) p_M_340 (L.sh (x := (12, 66)) rfl) (by decide) cl_M rfl hq) (fun h3 e4 => ?_)
  have L5 := L.ext e4
  refine z_go (fun Q hq => x_iload_n (dA d_M_takeLine 46 rfl) rfl rfl (x_iload (dA d_M_takeLine 47 rfl) rfl hq)) ?_
  refine z_br (fun Q => x_if_eq (dA d_M_takeLine 48 rfl) rfl rv4) (fun c6 => ?_) (fun c6 => ?_)
  · refine z_go (fun Q hq => x_aload_n (dA d_M_takeLine 51 rfl) rfl rfl (x_getI (dA d_M_takeLine 52 rfl) f_M_337 (L5.sh (x := (12, 66)) rfl) (by decide) (by decide) rfl hq)) ?_
    refine z_fgt (ls' := [mR 107, mN, mI v2, mN, mN]) ⟨.inr rfl, .inl rfl, .inr rfl, .inl rfl, .inl rfl, trivial⟩ ?_
    exact S_M_takeLine_96 hd hG7 L5 rv2 rv3 (L5.rg _ _)
  · refine z_go (fun Q hq => x_iconst (dA d_M_takeLine 49 rfl) (x_goto (dA d_M_takeLine 50 rfl) rfl hq)) ?_
    refine z_fgt (ls' := [mR 107, mN, mI v2, mN, mN]) ⟨.inr rfl, .inl rfl, .inr rfl, .inl rfl, .inl rfl, trivial⟩ ?_
    exact S_M_takeLine_96 hd hG7 L5 rv2 rv3 (inR_lit (1 : Int) rfl)
noncomputable def F_M_takeLine_63 (G7 : Int → Int → MH → RS Unit) (v2 : Int) (v3 : Int) (v4 : Int) (h : MH) : RS Unit := if v4 = 0 then F_M_takeLine_78 G7 v2 v3 v4 (mGi h 107 29) (1 : Int) h else F_M_takeLine_78 G7 v2 v3 v4 (mGi h 107 29) (0 : Int) h
theorem S_M_takeLine_63 {d : Nat} (hd : 3 ≤ d) {G7 : Int → Int → MH → RS Unit} (hG7 : ∀ (v2 : Int) (v3 : Int) (h : MH), LayC h → inR v2 → inR v3 → OK d k_M_takeLine 7 [mR 107, mN, mI v2, mI v3, mN] [] h cV pT (G7 v2 v3 h)) {v2 : Int} {v3 : Int} {v4 : Int} {h : MH} (L : LayC h) (rv2 : inR v2) (rv3 : inR v3) (rv4 : inR v4) : OK d k_M_takeLine 63 [mR 107, mN, mI v2, mI v3, mI v4] [] h cV pT (F_M_takeLine_63 G7 v2 v3 v4 h) := by
  unfold F_M_takeLine_63
  refine z_go (fun Q hq => x_aload_n (dA d_M_takeLine 36 rfl) rfl rfl (x_dup (dA d_M_takeLine 37 rfl) rfl (x_getI (dA d_M_takeLine 38 rfl) f_M_340 (L.sh (x := (12, 66)) rfl) (by decide) (by decide) rfl (x_iload (dA d_M_takeLine 39 rfl) rfl hq)))) ?_
  refine z_br (fun Q => x_if_eq (dA d_M_takeLine 40 rfl) rfl rv4) (fun c7 => ?_) (fun c7 => ?_)
  · refine z_go (fun Q hq => x_iconst (dA d_M_takeLine 43 rfl) hq) ?_
    exact S_M_takeLine_78 hd hG7 L rv2 rv3 rv4 (L.rg _ _) (inR_lit (1 : Int) rfl)
  · refine z_go (fun Q hq => x_iconst (dA d_M_takeLine 41 rfl) (x_goto (dA d_M_takeLine 42 rfl) rfl hq)) ?_
    exact S_M_takeLine_78 hd hG7 L rv2 rv3 rv4 (L.rg _ _) (inR_lit (0 : Int) rfl)
noncomputable def F_M_takeLine_28 (G7 : Int → Int → MH → RS Unit) (v2 : Int) (v3 : Int) (s0 : Int) (h : MH) : RS Unit := bnd (F_M_look v3 v2 h) fun x10 h8 => if s0 = 0 then bnd (F_M_token v3 (mGi h8 107 31) (mGi h8 107 30) (0 : Int) h8) fun x16 h14 => gd (0 ≤ (mGi h8 107 29) ∧ (mGi h8 107 29) < 400) (sto (mPl h14 123 (mGi h8 107 29).toNat x16) fun h20 => F_M_takeLine_63 G7 v2 v3 s0 h20) else F_M_takeLine_63 G7 v2 v3 s0 h8
theorem S_M_takeLine_28 {d : Nat} (hd : 3 ≤ d) {G7 : Int → Int → MH → RS Unit} (hG7 : ∀ (v2 : Int) (v3 : Int) (h : MH), LayC h → inR v2 → inR v3 → OK d k_M_takeLine 7 [mR 107, mN, mI v2, mI v3, mN] [] h cV pT (G7 v2 v3 h)) {v2 : Int} {v3 : Int} {s0 : Int} {h : MH} (L : LayC h) (rv2 : inR v2) (rv3 : inR v3) (rs0 : inR s0) : OK d k_M_takeLine 28 [mR 107, mN, mI v2, mI v3, mN] [mI s0] h cV pT (F_M_takeLine_28 G7 v2 v3 s0 h) := by
  unfold F_M_takeLine_28
  refine z_go (fun Q hq => x_istore (dA d_M_takeLine 17 rfl) (by decide) rfl (x_aload_n (dA d_M_takeLine 18 rfl) rfl rfl (x_iload_n (dA d_M_takeLine 19 rfl) rfl rfl (x_iload_n (dA d_M_takeLine 20 rfl) rfl rfl hq)))) ?_
  refine z_bnd (rest := []) (st1 := fun _ => []) (S_M_look (d := 2) (Nat.le_refl _) L rv3 rv2) (fun _ hx => absurd hx List.not_mem_nil) (fun _ => rfl) (fun Q' Q => x_callV (as := [mI v3, mI v2]) (rest := []) (k' := k_M_look) (dA d_M_takeLine 21 rfl) o_M_look lk_M_343 im_M_look se_M_look rfl (L.sh (x := (12, 66)) rfl) (by decide) (Nat.le_of_ble_eq_true rfl) (Nat.le_trans (Nat.le_of_ble_eq_true rfl) hd) (Nat.le_of_ble_eq_true rfl)) (fun x10 h8 e9 p11 => ?_)
  have L12 := L.ext e9
  refine z_go (fun Q hq => x_iload (dA d_M_takeLine 22 rfl) rfl hq) ?_
  refine z_brn (fun Q => x_if_ne (dA d_M_takeLine 23 rfl) rfl rs0) (fun c13 => ?_) (fun c13 => ?_)
  · refine z_go (fun Q hq => x_aload_n (dA d_M_takeLine 24 rfl) rfl rfl (x_getR (dA d_M_takeLine 25 rfl) f_M_57 (L12.sh (x := (12, 66)) rfl) (by decide) (by decide) rfl (L12.rf 124 rfl) (x_aload_n (dA d_M_takeLine 26 rfl) rfl rfl (x_getI (dA d_M_takeLine 27 rfl) f_M_340 (L12.sh (x := (12, 66)) rfl) (by decide) (by decide) rfl (x_iload_n (dA d_M_takeLine 28 rfl) rfl rfl (x_aload_n (dA d_M_takeLine 29 rfl) rfl rfl (x_getI (dA d_M_takeLine 30 rfl) f_M_337 (L12.sh (x := (12, 66)) rfl) (by decide) (by decide) rfl (x_aload_n (dA d_M_takeLine 31 rfl) rfl rfl (x_getI (dA d_M_takeLine 32 rfl) f_M_330 (L12.sh (x := (12, 66)) rfl) (by decide) (by decide) rfl (x_iconst (dA d_M_takeLine 33 rfl) hq)))))))))) ?_
    refine z_bnd (rest := [mI (mGi h8 107 29), mR 123]) (st1 := fun v => mL v :: [mI (mGi h8 107 29), mR 123]) (S_M_token (d := 0) (Nat.le_refl _) L12 rv3 (L12.rg _ _) (L12.rg _ _) (inR_lit (0 : Int) rfl)) (fun _ hx => absurd hx List.not_mem_nil) (fun _ => rfl) (fun Q' Q => x_callS (as := [mI v3, mI (mGi h8 107 31), mI (mGi h8 107 30), mI (0 : Int)]) (rest := [mI (mGi h8 107 29), mR 123]) (k' := k_M_token) (dA d_M_takeLine 34 rfl) o_M_token lk_M_346 st_M_token (Nat.le_of_ble_eq_true rfl) (Nat.le_trans (Nat.le_of_ble_eq_true rfl) hd) (Nat.le_of_ble_eq_true rfl)) (fun x16 h14 e15 p17 => ?_)
    have L18 := L12.ext e15
    refine z_gd (fun g19 => ?_)
    refine z_sto Ext.pl (fun Q hq => x_last (dA d_M_takeLine 35 rfl) (L18.sh (x := (103, 400)) rfl) g19.1 g19.2 (by decide) hq) (fun h20 e21 => ?_)
    have L22 := L18.ext e21
    exact S_M_takeLine_63 hd hG7 L22 rv2 rv3 rs0
  · exact S_M_takeLine_63 hd hG7 L12 rv2 rv3 rs0
noncomputable def F_M_takeLine_7_b (G7 : Int → Int → MH → RS Unit) (v2 : Int) (v3 : Int) (h : MH) : RS Unit := if v2 ≤ v3 then some (.inl (), h) else gd (0 ≤ v3 ∧ v3 < 1302) (if (mGi h 121 v3.toNat) = (32 : Int) then F_M_takeLine_28 G7 v2 v3 (1 : Int) h else F_M_takeLine_28 G7 v2 v3 (0 : Int) h)
theorem S_M_takeLine_7_b {d : Nat} (hd : 3 ≤ d) {G7 : Int → Int → MH → RS Unit} (hG7 : ∀ (v2 : Int) (v3 : Int) (h : MH), LayC h → inR v2 → inR v3 → OK d k_M_takeLine 7 [mR 107, mN, mI v2, mI v3, mN] [] h cV pT (G7 v2 v3 h)) {v2 : Int} {v3 : Int} {h : MH} (L : LayC h) (rv2 : inR v2) (rv3 : inR v3) : OK d k_M_takeLine 7 [mR 107, mN, mI v2, mI v3, mN] [] h cV pT (F_M_takeLine_7_b G7 v2 v3 h) := by
  unfold F_M_takeLine_7_b
  refine z_go (fun Q hq => x_iload_n (dA d_M_takeLine 5 rfl) rfl rfl (x_iload_n (dA d_M_takeLine 6 rfl) rfl rfl hq)) ?_
  refine z_br (fun Q => x_icmp_ge (dA d_M_takeLine 7 rfl) rfl rv3 rv2) (fun c23 => ?_) (fun c23 => ?_)
  · exact z_retv (dA d_M_takeLine 56 rfl) rfl
  · refine z_go (fun Q hq => x_aload_n (dA d_M_takeLine 8 rfl) rfl rfl (x_getR (dA d_M_takeLine 9 rfl) f_M_51 (L.sh (x := (12, 66)) rfl) (by decide) (by decide) rfl (L.rf 122 rfl) (x_iload_n (dA d_M_takeLine 10 rfl) rfl rfl hq))) ?_
    refine z_gd (fun g24 => ?_)
    refine z_go (fun Q hq => x_cald (dA d_M_takeLine 11 rfl) (L.sh (x := (101, 1302)) rfl) g24.1 g24.2 (by decide) (x_bipush (dA d_M_takeLine 12 rfl) (by decide) hq)) ?_
    refine z_brn (fun Q => x_icmp_ne (dA d_M_takeLine 13 rfl) rfl (L.rg _ _) (inR_lit (32 : Int) rfl)) (fun c25 => ?_) (fun c25 => ?_)
    · refine z_go (fun Q hq => x_iconst (dA d_M_takeLine 14 rfl) (x_goto (dA d_M_takeLine 15 rfl) rfl hq)) ?_
      exact S_M_takeLine_28 hd hG7 L rv2 rv3 (inR_lit (1 : Int) rfl)
    · refine z_go (fun Q hq => x_iconst (dA d_M_takeLine 16 rfl) hq) ?_
      exact S_M_takeLine_28 hd hG7 L rv2 rv3 (inR_lit (0 : Int) rfl)
noncomputable def F_M_takeLine_7 (v2 : Int) (v3 : Int) (h : MH) : RS Unit := itr (fun self (q : Int × Int × MH) => F_M_takeLine_7_b (fun v2 v3 h => self (v2, v3, h)) q.1 q.2.1 q.2.2) FU (v2, v3, h)
theorem S_M_takeLine_7 {d : Nat} (hd : 3 ≤ d) {v2 : Int} {v3 : Int} {h : MH} (L : LayC h) (rv2 : inR v2) (rv3 : inR v3) : OK d k_M_takeLine 7 [mR 107, mN, mI v2, mI v3, mN] [] h cV pT (F_M_takeLine_7  v2 v3 h) := by
  unfold F_M_takeLine_7
  refine z_itr (P := fun q : Int × Int × MH => LayC q.2.2 ∧ inR q.1 ∧ inR q.2.1 ∧ True) (ls := fun q : Int × Int × MH => [mR 107, mN, mI q.1, mI q.2.1, mN]) (hp := fun q : Int × Int × MH => q.2.2) (fun self hs q hq => ?_) FU (v2, v3, h) ⟨L, rv2, rv3, trivial⟩
  exact S_M_takeLine_7_b hd (fun v2 v3 h L rv2 rv3 => hs (v2, v3, h) ⟨L, rv2, rv3, trivial⟩) hq.1 hq.2.1 hq.2.2.1
noncomputable def F_M_takeLine (a1 : Int) (a2 : Int) (h : MH) : RS Unit := sto (mPi h 107 29 (0 : Int)) fun h26 => F_M_takeLine_7 a2 a1 h26
theorem S_M_takeLine {d : Nat} (hd : 3 ≤ d) {a1 : Int} {a2 : Int} {h : MH} (L : LayC h) (ra1 : inR a1) (ra2 : inR a2) : OK d k_M_takeLine 0 [mR 107, mI a1, mI a2, mN, mN] [] h cV pT (F_M_takeLine  a1 a2 h) := by
  unfold F_M_takeLine
  refine z_go (fun Q hq => x_aload_n (dA d_M_takeLine 0 rfl) rfl rfl (x_iconst (dA d_M_takeLine 1 rfl) hq)) ?_
  refine z_sto (Ext.pi (L.sh (x := (12, 66)) rfl) (by decide) (inR_lit (0 : Int) rfl)) (fun Q hq => x_putI (dA d_M_takeLine 2 rfl) p_M_340 (L.sh (x := (12, 66)) rfl) (by decide) cl_M rfl hq) (fun h26 e27 => ?_)
  have L28 := L.ext e27
  refine z_go (fun Q hq => x_iload_n (dA d_M_takeLine 3 rfl) rfl rfl (x_istore_n (dA d_M_takeLine 4 rfl) rfl (by decide) rfl hq)) ?_
  refine z_fgt (ls' := [mR 107, mN, mI a2, mI a1, mN]) ⟨.inr rfl, .inl rfl, .inr rfl, .inr rfl, .inl rfl, trivial⟩ ?_
  exact S_M_takeLine_7 hd  L28 ra2 ra1
/-! TwoMillsModel.kindAt(I)I -/
noncomputable def F_M_kindAt (a1 : Int) (h : MH) : RS Int := if (mGi h 107 29) ≤ a1 then some (.inl (0 : Int), h) else gd (0 ≤ a1 ∧ a1 < 400) (bnd (F_M_kindOf (mGl h 123 a1.toNat) h) fun x5 h3 => some (.inl x5, h3))
theorem S_M_kindAt {d : Nat} (hd : 1 ≤ d) {a1 : Int} {h : MH} (L : LayC h) (ra1 : inR a1) : OK d k_M_kindAt 0 [mR 107, mI a1] [] h cI inR (F_M_kindAt  a1 h) := by
  unfold F_M_kindAt
  refine z_go (fun Q hq => x_iload_n (dA d_M_kindAt 0 rfl) rfl rfl (x_aload_n (dA d_M_kindAt 1 rfl) rfl rfl (x_getI (dA d_M_kindAt 2 rfl) f_M_340 (L.sh (x := (12, 66)) rfl) (by decide) (by decide) rfl hq))) ?_
  refine z_br (fun Q => x_icmp_ge (dA d_M_kindAt 3 rfl) rfl ra1 (L.rg _ _)) (fun c1 => ?_) (fun c1 => ?_)
  · refine z_go (fun Q hq => x_iconst (dA d_M_kindAt 10 rfl) hq) ?_
    exact z_reti (dA d_M_kindAt 11 rfl) rfl (inR_lit (0 : Int) rfl)
  · refine z_go (fun Q hq => x_aload_n (dA d_M_kindAt 4 rfl) rfl rfl (x_getR (dA d_M_kindAt 5 rfl) f_M_57 (L.sh (x := (12, 66)) rfl) (by decide) (by decide) rfl (L.rf 124 rfl) (x_iload_n (dA d_M_kindAt 6 rfl) rfl rfl hq))) ?_
    refine z_gd (fun g2 => ?_)
    refine z_go (fun Q hq => x_lald (dA d_M_kindAt 7 rfl) (L.sh (x := (103, 400)) rfl) g2.1 g2.2 (by decide) hq) ?_
    refine z_bnd (rest := []) (st1 := fun v => mI v :: []) (S_M_kindOf (d := 0) (Nat.le_refl _) L ) (fun _ hx => absurd hx List.not_mem_nil) (fun _ => rfl) (fun Q' Q => x_callS (as := [mL (mGl h 123 a1.toNat)]) (rest := []) (k' := k_M_kindOf) (dA d_M_kindAt 8 rfl) o_M_kindOf lk_M_321 st_M_kindOf (Nat.le_of_ble_eq_true rfl) (Nat.le_trans (Nat.le_of_ble_eq_true rfl) hd) (Nat.le_of_ble_eq_true rfl)) (fun x5 h3 e4 p6 => ?_)
    have L7 := L.ext e4
    refine z_go (fun Q hq => x_goto (dA d_M_kindAt 9 rfl) rfl hq) ?_
    exact z_reti (dA d_M_kindAt 11 rfl) rfl p6
/-! TwoMillsModel.isSignAt(II)Z -/
noncomputable def F_M_isSignAt_26 (h : MH) : RS Int := some (.inl (0 : Int), h)
theorem S_M_isSignAt_26 {d : Nat} (hd : 2 ≤ d) {h : MH} (L : LayC h) : OK d k_M_isSignAt 26 [mN, mN, mN] [] h cI p01 (F_M_isSignAt_26   h) := by
  unfold F_M_isSignAt_26
  refine z_go (fun Q hq => x_iconst (dA d_M_isSignAt 14 rfl) hq) ?_
  exact z_retz (dA d_M_isSignAt 15 rfl) rfl (.inl rfl)
noncomputable def F_M_isSignAt (a1 : Int) (a2 : Int) (h : MH) : RS Int := if (mGi h 107 29) ≤ a1 then F_M_isSignAt_26  h else gd (0 ≤ a1 ∧ a1 < 400) (bnd (F_M_isSign (mGl h 123 a1.toNat) a2 h) fun x5 h3 => if x5 = 0 then F_M_isSignAt_26  h3 else some (.inl (1 : Int), h3))
theorem S_M_isSignAt {d : Nat} (hd : 2 ≤ d) {a1 : Int} {a2 : Int} {h : MH} (L : LayC h) (ra1 : inR a1) (ra2 : inR a2) : OK d k_M_isSignAt 0 [mR 107, mI a1, mI a2] [] h cI p01 (F_M_isSignAt  a1 a2 h) := by
  unfold F_M_isSignAt
  refine z_go (fun Q hq => x_iload_n (dA d_M_isSignAt 0 rfl) rfl rfl (x_aload_n (dA d_M_isSignAt 1 rfl) rfl rfl (x_getI (dA d_M_isSignAt 2 rfl) f_M_340 (L.sh (x := (12, 66)) rfl) (by decide) (by decide) rfl hq))) ?_
  refine z_br (fun Q => x_icmp_ge (dA d_M_isSignAt 3 rfl) rfl ra1 (L.rg _ _)) (fun c1 => ?_) (fun c1 => ?_)
  · refine z_fgt (ls' := [mN, mN, mN]) ⟨.inl rfl, .inl rfl, .inl rfl, trivial⟩ ?_
    exact S_M_isSignAt_26 hd  L 
  · refine z_go (fun Q hq => x_aload_n (dA d_M_isSignAt 4 rfl) rfl rfl (x_aload_n (dA d_M_isSignAt 5 rfl) rfl rfl (x_getR (dA d_M_isSignAt 6 rfl) f_M_57 (L.sh (x := (12, 66)) rfl) (by decide) (by decide) rfl (L.rf 124 rfl) (x_iload_n (dA d_M_isSignAt 7 rfl) rfl rfl hq)))) ?_
    refine z_gd (fun g2 => ?_)
    refine z_go (fun Q hq => x_lald (dA d_M_isSignAt 8 rfl) (L.sh (x := (103, 400)) rfl) g2.1 g2.2 (by decide) (x_iload_n (dA d_M_isSignAt 9 rfl) rfl rfl hq)) ?_
    refine z_bnd (rest := []) (st1 := fun v => mI v :: []) (S_M_isSign (d := 1) (Nat.le_refl _) L ra2) (fun _ hx => absurd hx List.not_mem_nil) (fun _ => rfl) (fun Q' Q => x_callV (as := [mL (mGl h 123 a1.toNat), mI a2]) (rest := []) (k' := k_M_isSign) (dA d_M_isSignAt 10 rfl) o_M_isSign lk_M_350 im_M_isSign se_M_isSign rfl (L.sh (x := (12, 66)) rfl) (by decide) (Nat.le_of_ble_eq_true rfl) (Nat.le_trans (Nat.le_of_ble_eq_true rfl) hd) (Nat.le_of_ble_eq_true rfl)) (fun x5 h3 e4 p6 => ?_)
    have L7 := L.ext e4
    refine z_br (fun Q => x_if_eq (dA d_M_isSignAt 11 rfl) rfl p6.inR) (fun c8 => ?_) (fun c8 => ?_)
    · refine z_fgt (ls' := [mN, mN, mN]) ⟨.inl rfl, .inl rfl, .inl rfl, trivial⟩ ?_
      exact S_M_isSignAt_26 hd  L7 
    · refine z_go (fun Q hq => x_iconst (dA d_M_isSignAt 12 rfl) (x_goto (dA d_M_isSignAt 13 rfl) rfl hq)) ?_
      exact z_retz (dA d_M_isSignAt 15 rfl) rfl (.inr rfl)
/-! TwoMillsModel.nameOf(J)I -/
noncomputable def F_M_nameOf_51 (G5 : Int64 → Int → Int → MH → RS Int) (v1 : Int64) (v4 : Int) (s0 : Int) (h : MH) : RS Int := gd (inR (v4 + (1 : Int))) (G5 v1 s0 (v4 + (1 : Int)) h)
theorem S_M_nameOf_51 {d : Nat} (hd : 2 ≤ d) {G5 : Int64 → Int → Int → MH → RS Int} (hG5 : ∀ (v1 : Int64) (v3 : Int) (v4 : Int) (h : MH), LayC h → inR v3 → inR v4 → OK d k_M_nameOf 5 [mR 107, mL v1, mN, mI v3, mI v4] [] h cI inR (G5 v1 v3 v4 h)) {v1 : Int64} {v4 : Int} {s0 : Int} {h : MH} (L : LayC h) (rv4 : inR v4) (rs0 : inR s0) : OK d k_M_nameOf 51 [mR 107, mL v1, mN, mN, mI v4] [mI s0] h cI inR (F_M_nameOf_51 G5 v1 v4 s0 h) := by
  unfold F_M_nameOf_51
  refine z_go (fun Q hq => x_istore_n (dA d_M_nameOf 27 rfl) rfl (by decide) rfl hq) ?_
  refine z_gd (fun g1 => ?_)
  refine z_go (fun Q hq => x_iinc (dA d_M_nameOf 28 rfl) rfl (by decide) rfl (x_goto (dA d_M_nameOf 29 rfl) rfl hq)) ?_
  exact hG5 v1 s0 (v4 + (1 : Int)) h L rs0 g1
noncomputable def F_M_nameOf_50 (G5 : Int64 → Int → Int → MH → RS Int) (v1 : Int64) (v3 : Int) (v4 : Int) (h : MH) : RS Int := F_M_nameOf_51 G5 v1 v4 v3 h
theorem S_M_nameOf_50 {d : Nat} (hd : 2 ≤ d) {G5 : Int64 → Int → Int → MH → RS Int} (hG5 : ∀ (v1 : Int64) (v3 : Int) (v4 : Int) (h : MH), LayC h → inR v3 → inR v4 → OK d k_M_nameOf 5 [mR 107, mL v1, mN, mI v3, mI v4] [] h cI inR (G5 v1 v3 v4 h)) {v1 : Int64} {v3 : Int} {v4 : Int} {h : MH} (L : LayC h) (rv3 : inR v3) (rv4 : inR v4) : OK d k_M_nameOf 50 [mR 107, mL v1, mN, mI v3, mI v4] [] h cI inR (F_M_nameOf_50 G5 v1 v3 v4 h) := by
  unfold F_M_nameOf_50
  refine z_go (fun Q hq => x_iload_n (dA d_M_nameOf 26 rfl) rfl rfl hq) ?_
  refine z_fgt (ls' := [mR 107, mL v1, mN, mN, mI v4]) ⟨.inr rfl, .inr rfl, .inl rfl, .inl rfl, .inr rfl, trivial⟩ ?_
  exact S_M_nameOf_51 hd hG5 L rv4 rv3
noncomputable def F_M_nameOf_5_b (G5 : Int64 → Int → Int → MH → RS Int) (v1 : Int64) (v3 : Int) (v4 : Int) (h : MH) : RS Int := if (8 : Int) ≤ v4 then some (.inl v3, h) else bnd (F_M_kindOf v1 h) fun x5 h3 => if x5 = (1 : Int) then gd (0 ≤ v4 ∧ v4 < 8) (if (mGi h3 130 v4.toNat) = 0 then F_M_nameOf_50 G5 v1 v3 v4 h3 else bnd (F_M_isSame (mGl h3 124 v4.toNat) v1 h3) fun x13 h11 => if x13 = 0 then F_M_nameOf_50 G5 v1 v3 v4 h11 else F_M_nameOf_51 G5 v1 v4 v4 h11) else some (.inl v3, h3)
theorem S_M_nameOf_5_b {d : Nat} (hd : 2 ≤ d) {G5 : Int64 → Int → Int → MH → RS Int} (hG5 : ∀ (v1 : Int64) (v3 : Int) (v4 : Int) (h : MH), LayC h → inR v3 → inR v4 → OK d k_M_nameOf 5 [mR 107, mL v1, mN, mI v3, mI v4] [] h cI inR (G5 v1 v3 v4 h)) {v1 : Int64} {v3 : Int} {v4 : Int} {h : MH} (L : LayC h) (rv3 : inR v3) (rv4 : inR v4) : OK d k_M_nameOf 5 [mR 107, mL v1, mN, mI v3, mI v4] [] h cI inR (F_M_nameOf_5_b G5 v1 v3 v4 h) := by
  unfold F_M_nameOf_5_b
  refine z_go (fun Q hq => x_iload (dA d_M_nameOf 4 rfl) rfl (x_bipush (dA d_M_nameOf 5 rfl) (by decide) hq)) ?_
  refine z_br (fun Q => x_icmp_ge (dA d_M_nameOf 6 rfl) rfl rv4 (inR_lit (8 : Int) rfl)) (fun c2 => ?_) (fun c2 => ?_)
  · refine z_go (fun Q hq => x_iload_n (dA d_M_nameOf 30 rfl) rfl rfl hq) ?_
    exact z_reti (dA d_M_nameOf 31 rfl) rfl rv3
  · refine z_go (fun Q hq => x_lload_n (dA d_M_nameOf 7 rfl) rfl rfl hq) ?_
    refine z_bnd (rest := []) (st1 := fun v => mI v :: []) (S_M_kindOf (d := 0) (Nat.le_refl _) L ) (fun _ hx => absurd hx List.not_mem_nil) (fun _ => rfl) (fun Q' Q => x_callS (as := [mL v1]) (rest := []) (k' := k_M_kindOf) (dA d_M_nameOf 8 rfl) o_M_kindOf lk_M_321 st_M_kindOf (Nat.le_of_ble_eq_true rfl) (Nat.le_trans (Nat.le_of_ble_eq_true rfl) hd) (Nat.le_of_ble_eq_true rfl)) (fun x5 h3 e4 p6 => ?_)
    have L7 := L.ext e4
    refine z_go (fun Q hq => x_iconst (dA d_M_nameOf 9 rfl) hq) ?_
    refine z_brn (fun Q => x_icmp_ne (dA d_M_nameOf 10 rfl) rfl p6 (inR_lit (1 : Int) rfl)) (fun c8 => ?_) (fun c8 => ?_)
    · refine z_go (fun Q hq => x_aload_n (dA d_M_nameOf 11 rfl) rfl rfl (x_getR (dA d_M_nameOf 12 rfl) f_M_78 (L7.sh (x := (12, 66)) rfl) (by decide) (by decide) rfl (L7.rf 131 rfl) (x_iload (dA d_M_nameOf 13 rfl) rfl hq))) ?_
      refine z_gd (fun g9 => ?_)
      refine z_go (fun Q hq => x_zald (dA d_M_nameOf 14 rfl) (L7.sh (x := (102, 8)) rfl) g9.1 g9.2 (by decide) hq) ?_
      refine z_br (fun Q => x_if_eq (dA d_M_nameOf 15 rfl) rfl (L7.rg _ _)) (fun c10 => ?_) (fun c10 => ?_)
      · exact S_M_nameOf_50 hd hG5 L7 rv3 rv4
      · refine z_go (fun Q hq => x_aload_n (dA d_M_nameOf 16 rfl) rfl rfl (x_aload_n (dA d_M_nameOf 17 rfl) rfl rfl (x_getR (dA d_M_nameOf 18 rfl) f_M_60 (L7.sh (x := (12, 66)) rfl) (by decide) (by decide) rfl (L7.rf 125 rfl) (x_iload (dA d_M_nameOf 19 rfl) rfl (x_lald (dA d_M_nameOf 20 rfl) (L7.sh (x := (103, 8)) rfl) g9.1 g9.2 (by decide) (x_lload_n (dA d_M_nameOf 21 rfl) rfl rfl hq)))))) ?_
        refine z_bnd (rest := []) (st1 := fun v => mI v :: []) (S_M_isSame (d := 1) (Nat.le_refl _) L7 ) (fun _ hx => absurd hx List.not_mem_nil) (fun _ => rfl) (fun Q' Q => x_callV (as := [mL (mGl h3 124 v4.toNat), mL v1]) (rest := []) (k' := k_M_isSame) (dA d_M_nameOf 22 rfl) o_M_isSame lk_M_354 im_M_isSame se_M_isSame rfl (L7.sh (x := (12, 66)) rfl) (by decide) (Nat.le_of_ble_eq_true rfl) (Nat.le_trans (Nat.le_of_ble_eq_true rfl) hd) (Nat.le_of_ble_eq_true rfl)) (fun x13 h11 e12 p14 => ?_)
        have L15 := L7.ext e12
        refine z_br (fun Q => x_if_eq (dA d_M_nameOf 23 rfl) rfl p14.inR) (fun c16 => ?_) (fun c16 => ?_)
        · exact S_M_nameOf_50 hd hG5 L15 rv3 rv4
        · refine z_go (fun Q hq => x_iload (dA d_M_nameOf 24 rfl) rfl (x_goto (dA d_M_nameOf 25 rfl) rfl hq)) ?_
          refine z_fgt (ls' := [mR 107, mL v1, mN, mN, mI v4]) ⟨.inr rfl, .inr rfl, .inl rfl, .inl rfl, .inr rfl, trivial⟩ ?_
          exact S_M_nameOf_51 hd hG5 L15 rv4 rv4
    · refine z_go (fun Q hq => x_iload_n (dA d_M_nameOf 30 rfl) rfl rfl hq) ?_
      exact z_reti (dA d_M_nameOf 31 rfl) rfl rv3
noncomputable def F_M_nameOf_5 (v1 : Int64) (v3 : Int) (v4 : Int) (h : MH) : RS Int := itr (fun self (q : Int64 × Int × Int × MH) => F_M_nameOf_5_b (fun v1 v3 v4 h => self (v1, v3, v4, h)) q.1 q.2.1 q.2.2.1 q.2.2.2) FU (v1, v3, v4, h)
theorem S_M_nameOf_5 {d : Nat} (hd : 2 ≤ d) {v1 : Int64} {v3 : Int} {v4 : Int} {h : MH} (L : LayC h) (rv3 : inR v3) (rv4 : inR v4) : OK d k_M_nameOf 5 [mR 107, mL v1, mN, mI v3, mI v4] [] h cI inR (F_M_nameOf_5  v1 v3 v4 h) := by
  unfold F_M_nameOf_5
  refine z_itr (P := fun q : Int64 × Int × Int × MH => LayC q.2.2.2 ∧ inR q.2.1 ∧ inR q.2.2.1 ∧ True) (ls := fun q : Int64 × Int × Int × MH => [mR 107, mL q.1, mN, mI q.2.1, mI q.2.2.1]) (hp := fun q : Int64 × Int × Int × MH => q.2.2.2) (fun self hs q hq => ?_) FU (v1, v3, v4, h) ⟨L, rv3, rv4, trivial⟩
  exact S_M_nameOf_5_b hd (fun v1 v3 v4 h L rv3 rv4 => hs (v1, v3, v4, h) ⟨L, rv3, rv4, trivial⟩) hq.1 hq.2.1 hq.2.2.1
noncomputable def F_M_nameOf (a1 : Int64) (h : MH) : RS Int := F_M_nameOf_5 a1 (-1 : Int) (0 : Int) h
theorem S_M_nameOf {d : Nat} (hd : 2 ≤ d) {a1 : Int64} {h : MH} (L : LayC h) : OK d k_M_nameOf 0 [mR 107, mL a1, mN, mN, mN] [] h cI inR (F_M_nameOf  a1 h) := by
  unfold F_M_nameOf
  refine z_go (fun Q hq => x_iconst (dA d_M_nameOf 0 rfl) (x_istore_n (dA d_M_nameOf 1 rfl) rfl (by decide) rfl (x_iconst (dA d_M_nameOf 2 rfl) (x_istore (dA d_M_nameOf 3 rfl) (by decide) rfl hq)))) ?_
  exact S_M_nameOf_5 hd  L (inR_lit (-1 : Int) rfl) (inR_lit (0 : Int) rfl)
/-! TwoMillsModel.parameterOf(JI)I -/
noncomputable def F_M_parameterOf_42 (G6 : Int64 → Int → Int → Int → MH → RS Int) (v1 : Int64) (v3 : Int) (v5 : Int) (s0 : Int) (h : MH) : RS Int := gd (inR (v5 + (1 : Int))) (G6 v1 v3 s0 (v5 + (1 : Int)) h)
theorem S_M_parameterOf_42 {d : Nat} (hd : 2 ≤ d) {G6 : Int64 → Int → Int → Int → MH → RS Int} (hG6 : ∀ (v1 : Int64) (v3 : Int) (v4 : Int) (v5 : Int) (h : MH), LayC h → inR v3 → inR v4 → inR v5 → OK d k_M_parameterOf 6 [mR 107, mL v1, mN, mI v3, mI v4, mI v5] [] h cI inR (G6 v1 v3 v4 v5 h)) {v1 : Int64} {v3 : Int} {v5 : Int} {s0 : Int} {h : MH} (L : LayC h) (rv3 : inR v3) (rv5 : inR v5) (rs0 : inR s0) : OK d k_M_parameterOf 42 [mR 107, mL v1, mN, mI v3, mN, mI v5] [mI s0] h cI inR (F_M_parameterOf_42 G6 v1 v3 v5 s0 h) := by
  unfold F_M_parameterOf_42
  refine z_go (fun Q hq => x_istore (dA d_M_parameterOf 22 rfl) (by decide) rfl hq) ?_
  refine z_gd (fun g1 => ?_)
  refine z_go (fun Q hq => x_iinc (dA d_M_parameterOf 23 rfl) rfl (by decide) rfl (x_goto (dA d_M_parameterOf 24 rfl) rfl hq)) ?_
  exact hG6 v1 v3 s0 (v5 + (1 : Int)) h L rv3 rs0 g1
noncomputable def F_M_parameterOf_6_b (G6 : Int64 → Int → Int → Int → MH → RS Int) (v1 : Int64) (v3 : Int) (v4 : Int) (v5 : Int) (h : MH) : RS Int := if v3 ≤ v5 then some (.inl v4, h) else bnd (F_M_kindOf v1 h) fun x5 h3 => if x5 = (1 : Int) then gd (0 ≤ v5 ∧ v5 < 3) (bnd (F_M_isSame (mGl h3 126 v5.toNat) v1 h3) fun x12 h10 => if x12 = 0 then F_M_parameterOf_42 G6 v1 v3 v5 v4 h10 else F_M_parameterOf_42 G6 v1 v3 v5 v5 h10) else some (.inl v4, h3)
theorem S_M_parameterOf_6_b {d : Nat} (hd : 2 ≤ d) {G6 : Int64 → Int → Int → Int → MH → RS Int} (hG6 : ∀ (v1 : Int64) (v3 : Int) (v4 : Int) (v5 : Int) (h : MH), LayC h → inR v3 → inR v4 → inR v5 → OK d k_M_parameterOf 6 [mR 107, mL v1, mN, mI v3, mI v4, mI v5] [] h cI inR (G6 v1 v3 v4 v5 h)) {v1 : Int64} {v3 : Int} {v4 : Int} {v5 : Int} {h : MH} (L : LayC h) (rv3 : inR v3) (rv4 : inR v4) (rv5 : inR v5) : OK d k_M_parameterOf 6 [mR 107, mL v1, mN, mI v3, mI v4, mI v5] [] h cI inR (F_M_parameterOf_6_b G6 v1 v3 v4 v5 h) := by
  unfold F_M_parameterOf_6_b
  refine z_go (fun Q hq => x_iload (dA d_M_parameterOf 4 rfl) rfl (x_iload_n (dA d_M_parameterOf 5 rfl) rfl rfl hq)) ?_
  refine z_br (fun Q => x_icmp_ge (dA d_M_parameterOf 6 rfl) rfl rv5 rv3) (fun c2 => ?_) (fun c2 => ?_)
  · refine z_go (fun Q hq => x_iload (dA d_M_parameterOf 25 rfl) rfl hq) ?_
    exact z_reti (dA d_M_parameterOf 26 rfl) rfl rv4
  · refine z_go (fun Q hq => x_lload_n (dA d_M_parameterOf 7 rfl) rfl rfl hq) ?_
    refine z_bnd (rest := []) (st1 := fun v => mI v :: []) (S_M_kindOf (d := 0) (Nat.le_refl _) L ) (fun _ hx => absurd hx List.not_mem_nil) (fun _ => rfl) (fun Q' Q => x_callS (as := [mL v1]) (rest := []) (k' := k_M_kindOf) (dA d_M_parameterOf 8 rfl) o_M_kindOf lk_M_321 st_M_kindOf (Nat.le_of_ble_eq_true rfl) (Nat.le_trans (Nat.le_of_ble_eq_true rfl) hd) (Nat.le_of_ble_eq_true rfl)) (fun x5 h3 e4 p6 => ?_)
    have L7 := L.ext e4
    refine z_go (fun Q hq => x_iconst (dA d_M_parameterOf 9 rfl) hq) ?_
    refine z_brn (fun Q => x_icmp_ne (dA d_M_parameterOf 10 rfl) rfl p6 (inR_lit (1 : Int) rfl)) (fun c8 => ?_) (fun c8 => ?_)
    · refine z_go (fun Q hq => x_aload_n (dA d_M_parameterOf 11 rfl) rfl rfl (x_aload_n (dA d_M_parameterOf 12 rfl) rfl rfl (x_getR (dA d_M_parameterOf 13 rfl) f_M_66 (L7.sh (x := (12, 66)) rfl) (by decide) (by decide) rfl (L7.rf 127 rfl) (x_iload (dA d_M_parameterOf 14 rfl) rfl hq)))) ?_
      refine z_gd (fun g9 => ?_)
      refine z_go (fun Q hq => x_lald (dA d_M_parameterOf 15 rfl) (L7.sh (x := (103, 3)) rfl) g9.1 g9.2 (by decide) (x_lload_n (dA d_M_parameterOf 16 rfl) rfl rfl hq)) ?_
      refine z_bnd (rest := []) (st1 := fun v => mI v :: []) (S_M_isSame (d := 1) (Nat.le_refl _) L7 ) (fun _ hx => absurd hx List.not_mem_nil) (fun _ => rfl) (fun Q' Q => x_callV (as := [mL (mGl h3 126 v5.toNat), mL v1]) (rest := []) (k' := k_M_isSame) (dA d_M_parameterOf 17 rfl) o_M_isSame lk_M_354 im_M_isSame se_M_isSame rfl (L7.sh (x := (12, 66)) rfl) (by decide) (Nat.le_of_ble_eq_true rfl) (Nat.le_trans (Nat.le_of_ble_eq_true rfl) hd) (Nat.le_of_ble_eq_true rfl)) (fun x12 h10 e11 p13 => ?_)
      have L14 := L7.ext e11
      refine z_br (fun Q => x_if_eq (dA d_M_parameterOf 18 rfl) rfl p13.inR) (fun c15 => ?_) (fun c15 => ?_)
      · refine z_go (fun Q hq => x_iload (dA d_M_parameterOf 21 rfl) rfl hq) ?_
        refine z_fgt (ls' := [mR 107, mL v1, mN, mI v3, mN, mI v5]) ⟨.inr rfl, .inr rfl, .inl rfl, .inr rfl, .inl rfl, .inr rfl, trivial⟩ ?_
        exact S_M_parameterOf_42 hd hG6 L14 rv3 rv5 rv4
      · refine z_go (fun Q hq => x_iload (dA d_M_parameterOf 19 rfl) rfl (x_goto (dA d_M_parameterOf 20 rfl) rfl hq)) ?_
        refine z_fgt (ls' := [mR 107, mL v1, mN, mI v3, mN, mI v5]) ⟨.inr rfl, .inr rfl, .inl rfl, .inr rfl, .inl rfl, .inr rfl, trivial⟩ ?_
        exact S_M_parameterOf_42 hd hG6 L14 rv3 rv5 rv5
    · refine z_go (fun Q hq => x_iload (dA d_M_parameterOf 25 rfl) rfl hq) ?_
      exact z_reti (dA d_M_parameterOf 26 rfl) rfl rv4
noncomputable def F_M_parameterOf_6 (v1 : Int64) (v3 : Int) (v4 : Int) (v5 : Int) (h : MH) : RS Int := itr (fun self (q : Int64 × Int × Int × Int × MH) => F_M_parameterOf_6_b (fun v1 v3 v4 v5 h => self (v1, v3, v4, v5, h)) q.1 q.2.1 q.2.2.1 q.2.2.2.1 q.2.2.2.2) FU (v1, v3, v4, v5, h)
theorem S_M_parameterOf_6 {d : Nat} (hd : 2 ≤ d) {v1 : Int64} {v3 : Int} {v4 : Int} {v5 : Int} {h : MH} (L : LayC h) (rv3 : inR v3) (rv4 : inR v4) (rv5 : inR v5) : OK d k_M_parameterOf 6 [mR 107, mL v1, mN, mI v3, mI v4, mI v5] [] h cI inR (F_M_parameterOf_6  v1 v3 v4 v5 h) := by
  unfold F_M_parameterOf_6
  refine z_itr (P := fun q : Int64 × Int × Int × Int × MH => LayC q.2.2.2.2 ∧ inR q.2.1 ∧ inR q.2.2.1 ∧ inR q.2.2.2.1 ∧ True) (ls := fun q : Int64 × Int × Int × Int × MH => [mR 107, mL q.1, mN, mI q.2.1, mI q.2.2.1, mI q.2.2.2.1]) (hp := fun q : Int64 × Int × Int × Int × MH => q.2.2.2.2) (fun self hs q hq => ?_) FU (v1, v3, v4, v5, h) ⟨L, rv3, rv4, rv5, trivial⟩
  exact S_M_parameterOf_6_b hd (fun v1 v3 v4 v5 h L rv3 rv4 rv5 => hs (v1, v3, v4, v5, h) ⟨L, rv3, rv4, rv5, trivial⟩) hq.1 hq.2.1 hq.2.2.1 hq.2.2.2.1
noncomputable def F_M_parameterOf (a1 : Int64) (a2 : Int) (h : MH) : RS Int := F_M_parameterOf_6 a1 a2 (-1 : Int) (0 : Int) h
theorem S_M_parameterOf {d : Nat} (hd : 2 ≤ d) {a1 : Int64} {a2 : Int} {h : MH} (L : LayC h) (ra2 : inR a2) : OK d k_M_parameterOf 0 [mR 107, mL a1, mN, mI a2, mN, mN] [] h cI inR (F_M_parameterOf  a1 a2 h) := by
  unfold F_M_parameterOf
  refine z_go (fun Q hq => x_iconst (dA d_M_parameterOf 0 rfl) (x_istore (dA d_M_parameterOf 1 rfl) (by decide) rfl (x_iconst (dA d_M_parameterOf 2 rfl) (x_istore (dA d_M_parameterOf 3 rfl) (by decide) rfl hq)))) ?_
  exact S_M_parameterOf_6 hd  L ra2 (inR_lit (-1 : Int) rfl) (inR_lit (0 : Int) rfl)
end Fns
