section Fns
/-! TwoMillsModel.takeArguments(II)I -/
noncomputable def F_M_takeArguments_282 (v1 : Int) (v3 : Int) (v5 : Int) (v6 : Int) (s1 : Int) (h : MH) : RS Int := gd (p01 s1) (bnd (F_M_need s1 (8 : Int) h) fun x4 h2 => if x4 = 0 then some (.inl (-1 : Int), h2) else gd (inR ((4 : Int) * v1)) (gd (inR (((4 : Int) * v1) + v6)) (gd (0 ≤ (((4 : Int) * v1) + v6) ∧ (((4 : Int) * v1) + v6) < 32) (sto (mPi h2 142 (((4 : Int) * v1) + v6).toNat v5) fun h11 => some (.inl v3, h11)))))
theorem S_M_takeArguments_282 {d : Nat} (hd : 2 ≤ d) {v1 : Int} {v3 : Int} {v5 : Int} {v6 : Int} {s1 : Int} {h : MH} (L : LayC h) (rv1 : inR v1) (rv3 : inR v3) (rv5 : inR v5) (rv6 : inR v6) (rs1 : inR s1) : OK d k_M_takeArguments 282 [mR 107, mI v1, mN, mI v3, mN, mI v5, mI v6, mN, mN, mN, mN, mN] [mI s1, mR 107] h cI inR (F_M_takeArguments_282  v1 v3 v5 v6 s1 h) := by
  unfold F_M_takeArguments_282
  refine z_go (fun Q hq => x_bipush (dA d_M_takeArguments 153 rfl) (by decide) hq) ?_
  refine z_gd (fun g1 => ?_)
  refine z_bnd (rest := []) (st1 := fun v => mI v :: []) (S_M_need (d := 1) (Nat.le_refl _) L g1 (inR_lit (8 : Int) rfl)) (fun _ hx => absurd hx List.not_mem_nil) (fun _ => rfl) (fun Q' Q => x_callV (as := [mI s1, mI (8 : Int)]) (rest := []) (k' := k_M_need) (dA d_M_takeArguments 154 rfl) o_M_need lk_M_181 im_M_need se_M_need rfl (L.sh (x := (12, 66)) rfl) (by decide) (Nat.le_of_ble_eq_true rfl) (Nat.le_trans (Nat.le_of_ble_eq_true rfl) hd) (Nat.le_of_ble_eq_true rfl)) (fun x4 h2 e3 p5 => ?_)
  have L6 := L.ext e3
  refine z_brn (fun Q => x_if_ne (dA d_M_takeArguments 155 rfl) rfl p5.inR) (fun c7 => ?_) (fun c7 => ?_)
  · refine z_go (fun Q hq => x_iconst (dA d_M_takeArguments 156 rfl) hq) ?_
    exact z_reti (dA d_M_takeArguments 157 rfl) rfl (inR_lit (-1 : Int) rfl)
  · refine z_go (fun Q hq => x_aload_n (dA d_M_takeArguments 158 rfl) rfl rfl (x_getR (dA d_M_takeArguments 159 rfl) f_M_115 (L6.sh (x := (12, 66)) rfl) (by decide) (by decide) rfl (L6.rf 143 rfl) (x_iconst (dA d_M_takeArguments 160 rfl) (x_iload_n (dA d_M_takeArguments 161 rfl) rfl rfl hq)))) ?_
    refine z_gd (fun g8 => ?_)
    refine z_go (fun Q hq => x_imul (dA d_M_takeArguments 162 rfl) (x_iload (dA d_M_takeArguments 163 rfl) rfl hq)) ?_
    refine z_gd (fun g9 => ?_)
    refine z_go (fun Q hq => x_iadd (dA d_M_takeArguments 164 rfl) (x_iload (dA d_M_takeArguments 165 rfl) rfl hq)) ?_
    refine z_gd (fun g10 => ?_)
    refine z_sto (Ext.pi (L6.sh (x := (100, 32)) rfl) (by decide) rv5) (fun Q hq => x_iast (dA d_M_takeArguments 166 rfl) (L6.sh (x := (100, 32)) rfl) g10.1 g10.2 (by decide) hq) (fun h11 e12 => ?_)
    have L13 := L6.ext e12
    refine z_go (fun Q hq => x_iload_n (dA d_M_takeArguments 167 rfl) rfl rfl hq) ?_
    exact z_reti (dA d_M_takeArguments 168 rfl) rfl rv3
noncomputable def F_M_takeArguments_281 (v1 : Int) (v3 : Int) (v5 : Int) (v6 : Int) (h : MH) : RS Int := F_M_takeArguments_282 v1 v3 v5 v6 (0 : Int) h
theorem S_M_takeArguments_281 {d : Nat} (hd : 2 ≤ d) {v1 : Int} {v3 : Int} {v5 : Int} {v6 : Int} {h : MH} (L : LayC h) (rv1 : inR v1) (rv3 : inR v3) (rv5 : inR v5) (rv6 : inR v6) : OK d k_M_takeArguments 281 [mR 107, mI v1, mN, mI v3, mN, mI v5, mI v6, mN, mN, mN, mN, mN] [mR 107] h cI inR (F_M_takeArguments_281  v1 v3 v5 v6 h) := by
  unfold F_M_takeArguments_281
  refine z_go (fun Q hq => x_iconst (dA d_M_takeArguments 152 rfl) hq) ?_
  exact S_M_takeArguments_282 hd  L rv1 rv3 rv5 rv6 (inR_lit (0 : Int) rfl)
noncomputable def F_M_takeArguments_277 (v1 : Int) (v3 : Int) (v5 : Int) (v6 : Int) (h : MH) : RS Int := F_M_takeArguments_282 v1 v3 v5 v6 (1 : Int) h
theorem S_M_takeArguments_277 {d : Nat} (hd : 2 ≤ d) {v1 : Int} {v3 : Int} {v5 : Int} {v6 : Int} {h : MH} (L : LayC h) (rv1 : inR v1) (rv3 : inR v3) (rv5 : inR v5) (rv6 : inR v6) : OK d k_M_takeArguments 277 [mR 107, mI v1, mN, mI v3, mN, mI v5, mI v6, mN, mN, mN, mN, mN] [mR 107] h cI inR (F_M_takeArguments_277  v1 v3 v5 v6 h) := by
  unfold F_M_takeArguments_277
  refine z_go (fun Q hq => x_iconst (dA d_M_takeArguments 150 rfl) (x_goto (dA d_M_takeArguments 151 rfl) rfl hq)) ?_
  exact S_M_takeArguments_282 hd  L rv1 rv3 rv5 rv6 (inR_lit (1 : Int) rfl)
noncomputable def F_M_takeArguments_237 (v1 : Int) (v2 : Int) (v3 : Int) (v5 : Int) (v6 : Int) (v7 : Int) (h : MH) : RS Int := if v7 = 0 then gd (0 ≤ v2 ∧ v2 < 8) (if (mGi h 127 v2.toNat) = 0 then if v6 = (1 : Int) then if v5 = 0 then F_M_takeArguments_277 v1 v3 v5 v6 h else F_M_takeArguments_281 v1 v3 v5 v6 h else F_M_takeArguments_281 v1 v3 v5 v6 h else if v6 = (mGi h 127 v2.toNat) then F_M_takeArguments_277 v1 v3 v5 v6 h else F_M_takeArguments_281 v1 v3 v5 v6 h) else F_M_takeArguments_281 v1 v3 v5 v6 h
theorem S_M_takeArguments_237 {d : Nat} (hd : 2 ≤ d) {v1 : Int} {v2 : Int} {v3 : Int} {v5 : Int} {v6 : Int} {v7 : Int} {h : MH} (L : LayC h) (rv1 : inR v1) (rv2 : inR v2) (rv3 : inR v3) (rv5 : inR v5) (rv6 : inR v6) (rv7 : inR v7) : OK d k_M_takeArguments 237 [mR 107, mI v1, mI v2, mI v3, mN, mI v5, mI v6, mI v7, mN, mN, mN, mN] [] h cI inR (F_M_takeArguments_237  v1 v2 v3 v5 v6 v7 h) := by
  unfold F_M_takeArguments_237
  refine z_go (fun Q hq => x_aload_n (dA d_M_takeArguments 130 rfl) rfl rfl (x_iload (dA d_M_takeArguments 131 rfl) rfl hq)) ?_
  refine z_brn (fun Q => x_if_ne (dA d_M_takeArguments 132 rfl) rfl rv7) (fun c14 => ?_) (fun c14 => ?_)
  · refine z_go (fun Q hq => x_aload_n (dA d_M_takeArguments 133 rfl) rfl rfl (x_getR (dA d_M_takeArguments 134 rfl) f_M_69 (L.sh (x := (12, 66)) rfl) (by decide) (by decide) rfl (L.rf 128 rfl) (x_iload_n (dA d_M_takeArguments 135 rfl) rfl rfl hq))) ?_
    refine z_gd (fun g15 => ?_)
    refine z_go (fun Q hq => x_iald (dA d_M_takeArguments 136 rfl) (L.sh (x := (100, 8)) rfl) g15.1 g15.2 (by decide) hq) ?_
    refine z_brn (fun Q => x_if_ne (dA d_M_takeArguments 137 rfl) rfl (L.rg _ _)) (fun c16 => ?_) (fun c16 => ?_)
    · refine z_go (fun Q hq => x_iload (dA d_M_takeArguments 138 rfl) rfl (x_iconst (dA d_M_takeArguments 139 rfl) hq)) ?_
      refine z_brn (fun Q => x_icmp_ne (dA d_M_takeArguments 140 rfl) rfl rv6 (inR_lit (1 : Int) rfl)) (fun c17 => ?_) (fun c17 => ?_)
      · refine z_go (fun Q hq => x_iload (dA d_M_takeArguments 141 rfl) rfl hq) ?_
        refine z_brn (fun Q => x_if_ne (dA d_M_takeArguments 142 rfl) rfl rv5) (fun c18 => ?_) (fun c18 => ?_)
        · refine z_go (fun Q hq => x_goto (dA d_M_takeArguments 143 rfl) rfl hq) ?_
          refine z_fgt (ls' := [mR 107, mI v1, mN, mI v3, mN, mI v5, mI v6, mN, mN, mN, mN, mN]) ⟨.inr rfl, .inr rfl, .inl rfl, .inr rfl, .inl rfl, .inr rfl, .inr rfl, .inl rfl, .inl rfl, .inl rfl, .inl rfl, .inl rfl, trivial⟩ ?_
          exact S_M_takeArguments_277 hd  L rv1 rv3 rv5 rv6
        · refine z_fgt (ls' := [mR 107, mI v1, mN, mI v3, mN, mI v5, mI v6, mN, mN, mN, mN, mN]) ⟨.inr rfl, .inr rfl, .inl rfl, .inr rfl, .inl rfl, .inr rfl, .inr rfl, .inl rfl, .inl rfl, .inl rfl, .inl rfl, .inl rfl, trivial⟩ ?_
          exact S_M_takeArguments_281 hd  L rv1 rv3 rv5 rv6
      · refine z_fgt (ls' := [mR 107, mI v1, mN, mI v3, mN, mI v5, mI v6, mN, mN, mN, mN, mN]) ⟨.inr rfl, .inr rfl, .inl rfl, .inr rfl, .inl rfl, .inr rfl, .inr rfl, .inl rfl, .inl rfl, .inl rfl, .inl rfl, .inl rfl, trivial⟩ ?_
        exact S_M_takeArguments_281 hd  L rv1 rv3 rv5 rv6
    · refine z_go (fun Q hq => x_iload (dA d_M_takeArguments 144 rfl) rfl (x_aload_n (dA d_M_takeArguments 145 rfl) rfl rfl (x_getR (dA d_M_takeArguments 146 rfl) f_M_69 (L.sh (x := (12, 66)) rfl) (by decide) (by decide) rfl (L.rf 128 rfl) (x_iload_n (dA d_M_takeArguments 147 rfl) rfl rfl (x_iald (dA d_M_takeArguments 148 rfl) (L.sh (x := (100, 8)) rfl) g15.1 g15.2 (by decide) hq))))) ?_
      refine z_brn (fun Q => x_icmp_ne (dA d_M_takeArguments 149 rfl) rfl rv6 (L.rg _ _)) (fun c19 => ?_) (fun c19 => ?_)
      · refine z_fgt (ls' := [mR 107, mI v1, mN, mI v3, mN, mI v5, mI v6, mN, mN, mN, mN, mN]) ⟨.inr rfl, .inr rfl, .inl rfl, .inr rfl, .inl rfl, .inr rfl, .inr rfl, .inl rfl, .inl rfl, .inl rfl, .inl rfl, .inl rfl, trivial⟩ ?_
        exact S_M_takeArguments_277 hd  L rv1 rv3 rv5 rv6
      · refine z_fgt (ls' := [mR 107, mI v1, mN, mI v3, mN, mI v5, mI v6, mN, mN, mN, mN, mN]) ⟨.inr rfl, .inr rfl, .inl rfl, .inr rfl, .inl rfl, .inr rfl, .inr rfl, .inl rfl, .inl rfl, .inl rfl, .inl rfl, .inl rfl, trivial⟩ ?_
        exact S_M_takeArguments_281 hd  L rv1 rv3 rv5 rv6
  · refine z_fgt (ls' := [mR 107, mI v1, mN, mI v3, mN, mI v5, mI v6, mN, mN, mN, mN, mN]) ⟨.inr rfl, .inr rfl, .inl rfl, .inr rfl, .inl rfl, .inr rfl, .inr rfl, .inl rfl, .inl rfl, .inl rfl, .inl rfl, .inl rfl, trivial⟩ ?_
    exact S_M_takeArguments_281 hd  L rv1 rv3 rv5 rv6
noncomputable def F_M_takeArguments_232 (G30 : Int → Int → Int → Int → Int → Int → Int → MH → RS Int) (v1 : Int) (v2 : Int) (v3 : Int) (v4 : Int) (v5 : Int) (v6 : Int) (s0 : Int) (h : MH) : RS Int := G30 v1 v2 v3 v4 v5 v6 s0 h
theorem S_M_takeArguments_232 {d : Nat} (hd : 2 ≤ d) {G30 : Int → Int → Int → Int → Int → Int → Int → MH → RS Int} (hG30 : ∀ (v1 : Int) (v2 : Int) (v3 : Int) (v4 : Int) (v5 : Int) (v6 : Int) (v7 : Int) (h : MH), LayC h → inR v1 → inR v2 → inR v3 → inR v4 → inR v5 → inR v6 → inR v7 → OK d k_M_takeArguments 30 [mR 107, mI v1, mI v2, mI v3, mI v4, mI v5, mI v6, mI v7, mN, mN, mN, mN] [] h cI inR (G30 v1 v2 v3 v4 v5 v6 v7 h)) {v1 : Int} {v2 : Int} {v3 : Int} {v4 : Int} {v5 : Int} {v6 : Int} {s0 : Int} {h : MH} (L : LayC h) (rv1 : inR v1) (rv2 : inR v2) (rv3 : inR v3) (rv4 : inR v4) (rv5 : inR v5) (rv6 : inR v6) (rs0 : inR s0) : OK d k_M_takeArguments 232 [mR 107, mI v1, mI v2, mI v3, mI v4, mI v5, mI v6, mN, mN, mN, mN, mN] [mI s0] h cI inR (F_M_takeArguments_232 G30 v1 v2 v3 v4 v5 v6 s0 h) := by
  unfold F_M_takeArguments_232
  refine z_go (fun Q hq => x_istore (dA d_M_takeArguments 128 rfl) (by decide) rfl (x_goto (dA d_M_takeArguments 129 rfl) rfl hq)) ?_
  exact hG30 v1 v2 v3 v4 v5 v6 s0 h L rv1 rv2 rv3 rv4 rv5 rv6 rs0
noncomputable def F_M_takeArguments_219 (G30 : Int → Int → Int → Int → Int → Int → Int → MH → RS Int) (v1 : Int) (v2 : Int) (v3 : Int) (v4 : Int) (v6 : Int) (s0 : Int) (s1 : Int) (h : MH) : RS Int := gd (inR (s0 + s1)) (if v4 ≤ 0 then F_M_takeArguments_232 G30 v1 v2 v3 v4 (s0 + s1) v6 (0 : Int) h else F_M_takeArguments_232 G30 v1 v2 v3 v4 (s0 + s1) v6 (1 : Int) h)
theorem S_M_takeArguments_219 {d : Nat} (hd : 2 ≤ d) {G30 : Int → Int → Int → Int → Int → Int → Int → MH → RS Int} (hG30 : ∀ (v1 : Int) (v2 : Int) (v3 : Int) (v4 : Int) (v5 : Int) (v6 : Int) (v7 : Int) (h : MH), LayC h → inR v1 → inR v2 → inR v3 → inR v4 → inR v5 → inR v6 → inR v7 → OK d k_M_takeArguments 30 [mR 107, mI v1, mI v2, mI v3, mI v4, mI v5, mI v6, mI v7, mN, mN, mN, mN] [] h cI inR (G30 v1 v2 v3 v4 v5 v6 v7 h)) {v1 : Int} {v2 : Int} {v3 : Int} {v4 : Int} {v6 : Int} {s0 : Int} {s1 : Int} {h : MH} (L : LayC h) (rv1 : inR v1) (rv2 : inR v2) (rv3 : inR v3) (rv4 : inR v4) (rv6 : inR v6) (rs0 : inR s0) (rs1 : inR s1) : OK d k_M_takeArguments 219 [mR 107, mI v1, mI v2, mI v3, mI v4, mN, mI v6, mN, mN, mN, mN, mN] [mI s1, mI s0] h cI inR (F_M_takeArguments_219 G30 v1 v2 v3 v4 v6 s0 s1 h) := by
  unfold F_M_takeArguments_219
  refine z_gd (fun g20 => ?_)
  refine z_go (fun Q hq => x_iadd (dA d_M_takeArguments 121 rfl) (x_istore (dA d_M_takeArguments 122 rfl) (by decide) rfl (x_iload (dA d_M_takeArguments 123 rfl) rfl hq))) ?_
  refine z_br (fun Q => x_if_le (dA d_M_takeArguments 124 rfl) rfl rv4) (fun c21 => ?_) (fun c21 => ?_)
  · refine z_go (fun Q hq => x_iconst (dA d_M_takeArguments 127 rfl) hq) ?_
    exact S_M_takeArguments_232 hd hG30 L rv1 rv2 rv3 rv4 g20 rv6 (inR_lit (0 : Int) rfl)
  · refine z_go (fun Q hq => x_iconst (dA d_M_takeArguments 125 rfl) (x_goto (dA d_M_takeArguments 126 rfl) rfl hq)) ?_
    exact S_M_takeArguments_232 hd hG30 L rv1 rv2 rv3 rv4 g20 rv6 (inR_lit (1 : Int) rfl)
noncomputable def F_M_takeArguments_207 (G30 : Int → Int → Int → Int → Int → Int → Int → MH → RS Int) (v1 : Int) (v2 : Int) (v3 : Int) (v4 : Int) (v5 : Int) (v6 : Int) (v11 : Int) (h : MH) : RS Int := if v11 = 0 then F_M_takeArguments_219 G30 v1 v2 v3 v4 v6 v5 (0 : Int) h else F_M_takeArguments_219 G30 v1 v2 v3 v4 v6 v5 (1 : Int) h
theorem S_M_takeArguments_207 {d : Nat} (hd : 2 ≤ d) {G30 : Int → Int → Int → Int → Int → Int → Int → MH → RS Int} (hG30 : ∀ (v1 : Int) (v2 : Int) (v3 : Int) (v4 : Int) (v5 : Int) (v6 : Int) (v7 : Int) (h : MH), LayC h → inR v1 → inR v2 → inR v3 → inR v4 → inR v5 → inR v6 → inR v7 → OK d k_M_takeArguments 30 [mR 107, mI v1, mI v2, mI v3, mI v4, mI v5, mI v6, mI v7, mN, mN, mN, mN] [] h cI inR (G30 v1 v2 v3 v4 v5 v6 v7 h)) {v1 : Int} {v2 : Int} {v3 : Int} {v4 : Int} {v5 : Int} {v6 : Int} {v11 : Int} {h : MH} (L : LayC h) (rv1 : inR v1) (rv2 : inR v2) (rv3 : inR v3) (rv4 : inR v4) (rv5 : inR v5) (rv6 : inR v6) (rv11 : inR v11) : OK d k_M_takeArguments 207 [mR 107, mI v1, mI v2, mI v3, mI v4, mI v5, mI v6, mN, mN, mN, mN, mI v11] [] h cI inR (F_M_takeArguments_207 G30 v1 v2 v3 v4 v5 v6 v11 h) := by
  unfold F_M_takeArguments_207
  refine z_go (fun Q hq => x_iload (dA d_M_takeArguments 115 rfl) rfl (x_iload (dA d_M_takeArguments 116 rfl) rfl hq)) ?_
  refine z_br (fun Q => x_if_eq (dA d_M_takeArguments 117 rfl) rfl rv11) (fun c22 => ?_) (fun c22 => ?_)
  · refine z_go (fun Q hq => x_iconst (dA d_M_takeArguments 120 rfl) hq) ?_
    refine z_fgt (ls' := [mR 107, mI v1, mI v2, mI v3, mI v4, mN, mI v6, mN, mN, mN, mN, mN]) ⟨.inr rfl, .inr rfl, .inr rfl, .inr rfl, .inr rfl, .inl rfl, .inr rfl, .inl rfl, .inl rfl, .inl rfl, .inl rfl, .inl rfl, trivial⟩ ?_
    exact S_M_takeArguments_219 hd hG30 L rv1 rv2 rv3 rv4 rv6 rv5 (inR_lit (0 : Int) rfl)
  · refine z_go (fun Q hq => x_iconst (dA d_M_takeArguments 118 rfl) (x_goto (dA d_M_takeArguments 119 rfl) rfl hq)) ?_
    refine z_fgt (ls' := [mR 107, mI v1, mI v2, mI v3, mI v4, mN, mI v6, mN, mN, mN, mN, mN]) ⟨.inr rfl, .inr rfl, .inr rfl, .inr rfl, .inr rfl, .inl rfl, .inr rfl, .inl rfl, .inl rfl, .inl rfl, .inl rfl, .inl rfl, trivial⟩ ?_
    exact S_M_takeArguments_219 hd hG30 L rv1 rv2 rv3 rv4 rv6 rv5 (inR_lit (1 : Int) rfl)
noncomputable def F_M_takeArguments_185 (G30 : Int → Int → Int → Int → Int → Int → Int → MH → RS Int) (v1 : Int) (v2 : Int) (v3 : Int) (v4 : Int) (v5 : Int) (v8 : Int64) (v11 : Int) (s0 : Int) (s1 : Int) (h : MH) : RS Int := gd (inR (s0 + s1)) (if v11 = 0 then F_M_takeArguments_207 G30 v1 v2 v3 v4 v5 (s0 + s1) v11 h else gd (inR ((100 : Int) * v1)) (gd (inR (((100 : Int) * v1) + v5)) (gd (0 ≤ (((100 : Int) * v1) + v5) ∧ (((100 : Int) * v1) + v5) < 800) (sto (mPl h 137 (((100 : Int) * v1) + v5).toNat v8) fun h28 => F_M_takeArguments_207 G30 v1 v2 v3 v4 v5 (s0 + s1) v11 h28))))
theorem S_M_takeArguments_185 {d : Nat} (hd : 2 ≤ d) {G30 : Int → Int → Int → Int → Int → Int → Int → MH → RS Int} (hG30 : ∀ (v1 : Int) (v2 : Int) (v3 : Int) (v4 : Int) (v5 : Int) (v6 : Int) (v7 : Int) (h : MH), LayC h → inR v1 → inR v2 → inR v3 → inR v4 → inR v5 → inR v6 → inR v7 → OK d k_M_takeArguments 30 [mR 107, mI v1, mI v2, mI v3, mI v4, mI v5, mI v6, mI v7, mN, mN, mN, mN] [] h cI inR (G30 v1 v2 v3 v4 v5 v6 v7 h)) {v1 : Int} {v2 : Int} {v3 : Int} {v4 : Int} {v5 : Int} {v8 : Int64} {v11 : Int} {s0 : Int} {s1 : Int} {h : MH} (L : LayC h) (rv1 : inR v1) (rv2 : inR v2) (rv3 : inR v3) (rv4 : inR v4) (rv5 : inR v5) (rv11 : inR v11) (rs0 : inR s0) (rs1 : inR s1) : OK d k_M_takeArguments 185 [mR 107, mI v1, mI v2, mI v3, mI v4, mI v5, mN, mN, mL v8, mN, mN, mI v11] [mI s1, mI s0] h cI inR (F_M_takeArguments_185 G30 v1 v2 v3 v4 v5 v8 v11 s0 s1 h) := by
  unfold F_M_takeArguments_185
  refine z_gd (fun g23 => ?_)
  refine z_go (fun Q hq => x_iadd (dA d_M_takeArguments 102 rfl) (x_istore (dA d_M_takeArguments 103 rfl) (by decide) rfl (x_iload (dA d_M_takeArguments 104 rfl) rfl hq))) ?_
  refine z_br (fun Q => x_if_eq (dA d_M_takeArguments 105 rfl) rfl rv11) (fun c24 => ?_) (fun c24 => ?_)
  · refine z_fgt (ls' := [mR 107, mI v1, mI v2, mI v3, mI v4, mI v5, mI (s0 + s1), mN, mN, mN, mN, mI v11]) ⟨.inr rfl, .inr rfl, .inr rfl, .inr rfl, .inr rfl, .inr rfl, .inr rfl, .inl rfl, .inl rfl, .inl rfl, .inl rfl, .inr rfl, trivial⟩ ?_
    exact S_M_takeArguments_207 hd hG30 L rv1 rv2 rv3 rv4 rv5 g23 rv11
  · refine z_go (fun Q hq => x_aload_n (dA d_M_takeArguments 106 rfl) rfl rfl (x_getR (dA d_M_takeArguments 107 rfl) f_M_100 (L.sh (x := (12, 66)) rfl) (by decide) (by decide) rfl (L.rf 138 rfl) (x_bipush (dA d_M_takeArguments 108 rfl) (by decide) (x_iload_n (dA d_M_takeArguments 109 rfl) rfl rfl hq)))) ?_
    refine z_gd (fun g25 => ?_)
    refine z_go (fun Q hq => x_imul (dA d_M_takeArguments 110 rfl) (x_iload (dA d_M_takeArguments 111 rfl) rfl hq)) ?_
    refine z_gd (fun g26 => ?_)
    refine z_go (fun Q hq => x_iadd (dA d_M_takeArguments 112 rfl) (x_lload (dA d_M_takeArguments 113 rfl) rfl hq)) ?_
    refine z_gd (fun g27 => ?_)
    refine z_sto Ext.pl (fun Q hq => x_last (dA d_M_takeArguments 114 rfl) (L.sh (x := (103, 800)) rfl) g27.1 g27.2 (by decide) hq) (fun h28 e29 => ?_)
    have L30 := L.ext e29
    refine z_fgt (ls' := [mR 107, mI v1, mI v2, mI v3, mI v4, mI v5, mI (s0 + s1), mN, mN, mN, mN, mI v11]) ⟨.inr rfl, .inr rfl, .inr rfl, .inr rfl, .inr rfl, .inr rfl, .inr rfl, .inl rfl, .inl rfl, .inl rfl, .inl rfl, .inr rfl, trivial⟩ ?_
    exact S_M_takeArguments_207 hd hG30 L30 rv1 rv2 rv3 rv4 rv5 g23 rv11
noncomputable def F_M_takeArguments_173 (G30 : Int → Int → Int → Int → Int → Int → Int → MH → RS Int) (v1 : Int) (v2 : Int) (v3 : Int) (v4 : Int) (v5 : Int) (v6 : Int) (v8 : Int64) (v10 : Int) (v11 : Int) (h : MH) : RS Int := if v10 = 0 then F_M_takeArguments_185 G30 v1 v2 v3 v4 v5 v8 v11 v6 (0 : Int) h else F_M_takeArguments_185 G30 v1 v2 v3 v4 v5 v8 v11 v6 (1 : Int) h
theorem S_M_takeArguments_173 {d : Nat} (hd : 2 ≤ d) {G30 : Int → Int → Int → Int → Int → Int → Int → MH → RS Int} (hG30 : ∀ (v1 : Int) (v2 : Int) (v3 : Int) (v4 : Int) (v5 : Int) (v6 : Int) (v7 : Int) (h : MH), LayC h → inR v1 → inR v2 → inR v3 → inR v4 → inR v5 → inR v6 → inR v7 → OK d k_M_takeArguments 30 [mR 107, mI v1, mI v2, mI v3, mI v4, mI v5, mI v6, mI v7, mN, mN, mN, mN] [] h cI inR (G30 v1 v2 v3 v4 v5 v6 v7 h)) {v1 : Int} {v2 : Int} {v3 : Int} {v4 : Int} {v5 : Int} {v6 : Int} {v8 : Int64} {v10 : Int} {v11 : Int} {h : MH} (L : LayC h) (rv1 : inR v1) (rv2 : inR v2) (rv3 : inR v3) (rv4 : inR v4) (rv5 : inR v5) (rv6 : inR v6) (rv10 : inR v10) (rv11 : inR v11) : OK d k_M_takeArguments 173 [mR 107, mI v1, mI v2, mI v3, mI v4, mI v5, mI v6, mN, mL v8, mN, mI v10, mI v11] [] h cI inR (F_M_takeArguments_173 G30 v1 v2 v3 v4 v5 v6 v8 v10 v11 h) := by
  unfold F_M_takeArguments_173
  refine z_go (fun Q hq => x_iload (dA d_M_takeArguments 96 rfl) rfl (x_iload (dA d_M_takeArguments 97 rfl) rfl hq)) ?_
  refine z_br (fun Q => x_if_eq (dA d_M_takeArguments 98 rfl) rfl rv10) (fun c31 => ?_) (fun c31 => ?_)
  · refine z_go (fun Q hq => x_iconst (dA d_M_takeArguments 101 rfl) hq) ?_
    refine z_fgt (ls' := [mR 107, mI v1, mI v2, mI v3, mI v4, mI v5, mN, mN, mL v8, mN, mN, mI v11]) ⟨.inr rfl, .inr rfl, .inr rfl, .inr rfl, .inr rfl, .inr rfl, .inl rfl, .inl rfl, .inr rfl, .inl rfl, .inl rfl, .inr rfl, trivial⟩ ?_
    exact S_M_takeArguments_185 hd hG30 L rv1 rv2 rv3 rv4 rv5 rv11 rv6 (inR_lit (0 : Int) rfl)
  · refine z_go (fun Q hq => x_iconst (dA d_M_takeArguments 99 rfl) (x_goto (dA d_M_takeArguments 100 rfl) rfl hq)) ?_
    refine z_fgt (ls' := [mR 107, mI v1, mI v2, mI v3, mI v4, mI v5, mN, mN, mL v8, mN, mN, mI v11]) ⟨.inr rfl, .inr rfl, .inr rfl, .inr rfl, .inr rfl, .inr rfl, .inl rfl, .inl rfl, .inr rfl, .inl rfl, .inl rfl, .inr rfl, trivial⟩ ?_
    exact S_M_takeArguments_185 hd hG30 L rv1 rv2 rv3 rv4 rv5 rv11 rv6 (inR_lit (1 : Int) rfl)
noncomputable def F_M_takeArguments_146 (G30 : Int → Int → Int → Int → Int → Int → Int → MH → RS Int) (v1 : Int) (v2 : Int) (v3 : Int) (v5 : Int) (v6 : Int) (v8 : Int64) (v10 : Int) (v11 : Int) (s0 : Int) (s1 : Int) (h : MH) : RS Int := gd (inR (s0 + s1)) (if v10 = 0 then F_M_takeArguments_173 G30 v1 v2 v3 (s0 + s1) v5 v6 v8 v10 v11 h else if (4 : Int) ≤ v6 then F_M_takeArguments_173 G30 v1 v2 v3 (s0 + s1) v5 v6 v8 v10 v11 h else gd (inR ((4 : Int) * v1)) (gd (inR (((4 : Int) * v1) + v6)) (gd (0 ≤ (((4 : Int) * v1) + v6) ∧ (((4 : Int) * v1) + v6) < 32) (sto (mPi h 142 (((4 : Int) * v1) + v6).toNat v5) fun h38 => F_M_takeArguments_173 G30 v1 v2 v3 (s0 + s1) v5 v6 v8 v10 v11 h38))))
theorem S_M_takeArguments_146 {d : Nat} (hd : 2 ≤ d) {G30 : Int → Int → Int → Int → Int → Int → Int → MH → RS Int} (hG30 : ∀ (v1 : Int) (v2 : Int) (v3 : Int) (v4 : Int) (v5 : Int) (v6 : Int) (v7 : Int) (h : MH), LayC h → inR v1 → inR v2 → inR v3 → inR v4 → inR v5 → inR v6 → inR v7 → OK d k_M_takeArguments 30 [mR 107, mI v1, mI v2, mI v3, mI v4, mI v5, mI v6, mI v7, mN, mN, mN, mN] [] h cI inR (G30 v1 v2 v3 v4 v5 v6 v7 h)) {v1 : Int} {v2 : Int} {v3 : Int} {v5 : Int} {v6 : Int} {v8 : Int64} {v10 : Int} {v11 : Int} {s0 : Int} {s1 : Int} {h : MH} (L : LayC h) (rv1 : inR v1) (rv2 : inR v2) (rv3 : inR v3) (rv5 : inR v5) (rv6 : inR v6) (rv10 : inR v10) (rv11 : inR v11) (rs0 : inR s0) (rs1 : inR s1) : OK d k_M_takeArguments 146 [mR 107, mI v1, mI v2, mI v3, mN, mI v5, mI v6, mN, mL v8, mN, mI v10, mI v11] [mI s1, mI s0] h cI inR (F_M_takeArguments_146 G30 v1 v2 v3 v5 v6 v8 v10 v11 s0 s1 h) := by
  unfold F_M_takeArguments_146
  refine z_gd (fun g32 => ?_)
  refine z_go (fun Q hq => x_iadd (dA d_M_takeArguments 80 rfl) (x_istore (dA d_M_takeArguments 81 rfl) (by decide) rfl (x_iload (dA d_M_takeArguments 82 rfl) rfl hq))) ?_
  refine z_br (fun Q => x_if_eq (dA d_M_takeArguments 83 rfl) rfl rv10) (fun c33 => ?_) (fun c33 => ?_)
  · exact S_M_takeArguments_173 hd hG30 L rv1 rv2 rv3 g32 rv5 rv6 rv10 rv11
  · refine z_go (fun Q hq => x_iload (dA d_M_takeArguments 84 rfl) rfl (x_iconst (dA d_M_takeArguments 85 rfl) hq)) ?_
    refine z_br (fun Q => x_icmp_ge (dA d_M_takeArguments 86 rfl) rfl rv6 (inR_lit (4 : Int) rfl)) (fun c34 => ?_) (fun c34 => ?_)
    · exact S_M_takeArguments_173 hd hG30 L rv1 rv2 rv3 g32 rv5 rv6 rv10 rv11
    · refine z_go (fun Q hq => x_aload_n (dA d_M_takeArguments 87 rfl) rfl rfl (x_getR (dA d_M_takeArguments 88 rfl) f_M_115 (L.sh (x := (12, 66)) rfl) (by decide) (by decide) rfl (L.rf 143 rfl) (x_iconst (dA d_M_takeArguments 89 rfl) (x_iload_n (dA d_M_takeArguments 90 rfl) rfl rfl hq)))) ?_
      refine z_gd (fun g35 => ?_)
      refine z_go (fun Q hq => x_imul (dA d_M_takeArguments 91 rfl) (x_iload (dA d_M_takeArguments 92 rfl) rfl hq)) ?_
      refine z_gd (fun g36 => ?_)
      refine z_go (fun Q hq => x_iadd (dA d_M_takeArguments 93 rfl) (x_iload (dA d_M_takeArguments 94 rfl) rfl hq)) ?_
      refine z_gd (fun g37 => ?_)
      refine z_sto (Ext.pi (L.sh (x := (100, 32)) rfl) (by decide) rv5) (fun Q hq => x_iast (dA d_M_takeArguments 95 rfl) (L.sh (x := (100, 32)) rfl) g37.1 g37.2 (by decide) hq) (fun h38 e39 => ?_)
      have L40 := L.ext e39
      exact S_M_takeArguments_173 hd hG30 L40 rv1 rv2 rv3 g32 rv5 rv6 rv10 rv11
noncomputable def F_M_takeArguments_111 (G30 : Int → Int → Int → Int → Int → Int → Int → MH → RS Int) (v1 : Int) (v2 : Int) (v3 : Int) (v4 : Int) (v5 : Int) (v6 : Int) (v8 : Int64) (v10 : Int) (s0 : Int) (h : MH) : RS Int := bnd (F_M_isSign v8 (40 : Int) h) fun x43 h41 => if x43 = 0 then bnd (F_M_isSign v8 (41 : Int) h41) fun x49 h47 => if x49 = 0 then F_M_takeArguments_146 G30 v1 v2 v3 v5 v6 v8 v10 s0 v4 (0 : Int) h47 else F_M_takeArguments_146 G30 v1 v2 v3 v5 v6 v8 v10 s0 v4 (-1 : Int) h47 else F_M_takeArguments_146 G30 v1 v2 v3 v5 v6 v8 v10 s0 v4 (1 : Int) h41
theorem S_M_takeArguments_111 {d : Nat} (hd : 2 ≤ d) {G30 : Int → Int → Int → Int → Int → Int → Int → MH → RS Int} (hG30 : ∀ (v1 : Int) (v2 : Int) (v3 : Int) (v4 : Int) (v5 : Int) (v6 : Int) (v7 : Int) (h : MH), LayC h → inR v1 → inR v2 → inR v3 → inR v4 → inR v5 → inR v6 → inR v7 → OK d k_M_takeArguments 30 [mR 107, mI v1, mI v2, mI v3, mI v4, mI v5, mI v6, mI v7, mN, mN, mN, mN] [] h cI inR (G30 v1 v2 v3 v4 v5 v6 v7 h)) {v1 : Int} {v2 : Int} {v3 : Int} {v4 : Int} {v5 : Int} {v6 : Int} {v8 : Int64} {v10 : Int} {s0 : Int} {h : MH} (L : LayC h) (rv1 : inR v1) (rv2 : inR v2) (rv3 : inR v3) (rv4 : inR v4) (rv5 : inR v5) (rv6 : inR v6) (rv10 : inR v10) (rs0 : inR s0) : OK d k_M_takeArguments 111 [mR 107, mI v1, mI v2, mI v3, mI v4, mI v5, mI v6, mN, mL v8, mN, mI v10, mN] [mI s0] h cI inR (F_M_takeArguments_111 G30 v1 v2 v3 v4 v5 v6 v8 v10 s0 h) := by
  unfold F_M_takeArguments_111
  refine z_go (fun Q hq => x_istore (dA d_M_takeArguments 63 rfl) (by decide) rfl (x_iload (dA d_M_takeArguments 64 rfl) rfl (x_aload_n (dA d_M_takeArguments 65 rfl) rfl rfl (x_lload (dA d_M_takeArguments 66 rfl) rfl (x_bipush (dA d_M_takeArguments 67 rfl) (by decide) hq))))) ?_
  refine z_bnd (rest := [mI v4]) (st1 := fun v => mI v :: [mI v4]) (S_M_isSign (d := 1) (Nat.le_refl _) L (inR_lit (40 : Int) rfl)) (fun _ hx => absurd hx List.not_mem_nil) (fun _ => rfl) (fun Q' Q => x_callV (as := [mL v8, mI (40 : Int)]) (rest := [mI v4]) (k' := k_M_isSign) (dA d_M_takeArguments 68 rfl) o_M_isSign lk_M_350 im_M_isSign se_M_isSign rfl (L.sh (x := (12, 66)) rfl) (by decide) (Nat.le_of_ble_eq_true rfl) (Nat.le_trans (Nat.le_of_ble_eq_true rfl) hd) (Nat.le_of_ble_eq_true rfl)) (fun x43 h41 e42 p44 => ?_)
  have L45 := L.ext e42
  refine z_br (fun Q => x_if_eq (dA d_M_takeArguments 69 rfl) rfl p44.inR) (fun c46 => ?_) (fun c46 => ?_)
  · refine z_go (fun Q hq => x_aload_n (dA d_M_takeArguments 72 rfl) rfl rfl (x_lload (dA d_M_takeArguments 73 rfl) rfl (x_bipush (dA d_M_takeArguments 74 rfl) (by decide) hq))) ?_
    refine z_bnd (rest := [mI v4]) (st1 := fun v => mI v :: [mI v4]) (S_M_isSign (d := 1) (Nat.le_refl _) L45 (inR_lit (41 : Int) rfl)) (fun _ hx => absurd hx List.not_mem_nil) (fun _ => rfl) (fun Q' Q => x_callV (as := [mL v8, mI (41 : Int)]) (rest := [mI v4]) (k' := k_M_isSign) (dA d_M_takeArguments 75 rfl) o_M_isSign lk_M_350 im_M_isSign se_M_isSign rfl (L45.sh (x := (12, 66)) rfl) (by decide) (Nat.le_of_ble_eq_true rfl) (Nat.le_trans (Nat.le_of_ble_eq_true rfl) hd) (Nat.le_of_ble_eq_true rfl)) (fun x49 h47 e48 p50 => ?_)
    have L51 := L45.ext e48
    refine z_br (fun Q => x_if_eq (dA d_M_takeArguments 76 rfl) rfl p50.inR) (fun c52 => ?_) (fun c52 => ?_)
    · refine z_go (fun Q hq => x_iconst (dA d_M_takeArguments 79 rfl) hq) ?_
      refine z_fgt (ls' := [mR 107, mI v1, mI v2, mI v3, mN, mI v5, mI v6, mN, mL v8, mN, mI v10, mI s0]) ⟨.inr rfl, .inr rfl, .inr rfl, .inr rfl, .inl rfl, .inr rfl, .inr rfl, .inl rfl, .inr rfl, .inl rfl, .inr rfl, .inr rfl, trivial⟩ ?_
      exact S_M_takeArguments_146 hd hG30 L51 rv1 rv2 rv3 rv5 rv6 rv10 rs0 rv4 (inR_lit (0 : Int) rfl)
    · refine z_go (fun Q hq => x_iconst (dA d_M_takeArguments 77 rfl) (x_goto (dA d_M_takeArguments 78 rfl) rfl hq)) ?_
      refine z_fgt (ls' := [mR 107, mI v1, mI v2, mI v3, mN, mI v5, mI v6, mN, mL v8, mN, mI v10, mI s0]) ⟨.inr rfl, .inr rfl, .inr rfl, .inr rfl, .inl rfl, .inr rfl, .inr rfl, .inl rfl, .inr rfl, .inl rfl, .inr rfl, .inr rfl, trivial⟩ ?_
      exact S_M_takeArguments_146 hd hG30 L51 rv1 rv2 rv3 rv5 rv6 rv10 rs0 rv4 (inR_lit (-1 : Int) rfl)
  · refine z_go (fun Q hq => x_iconst (dA d_M_takeArguments 70 rfl) (x_goto (dA d_M_takeArguments 71 rfl) rfl hq)) ?_
    refine z_fgt (ls' := [mR 107, mI v1, mI v2, mI v3, mN, mI v5, mI v6, mN, mL v8, mN, mI v10, mI s0]) ⟨.inr rfl, .inr rfl, .inr rfl, .inr rfl, .inl rfl, .inr rfl, .inr rfl, .inl rfl, .inr rfl, .inl rfl, .inr rfl, .inr rfl, trivial⟩ ?_
    exact S_M_takeArguments_146 hd hG30 L45 rv1 rv2 rv3 rv5 rv6 rv10 rs0 rv4 (inR_lit (1 : Int) rfl)
noncomputable def F_M_takeArguments_110 (G30 : Int → Int → Int → Int → Int → Int → Int → MH → RS Int) (v1 : Int) (v2 : Int) (v3 : Int) (v4 : Int) (v5 : Int) (v6 : Int) (v8 : Int64) (v10 : Int) (h : MH) : RS Int := F_M_takeArguments_111 G30 v1 v2 v3 v4 v5 v6 v8 v10 (0 : Int) h
theorem S_M_takeArguments_110 {d : Nat} (hd : 2 ≤ d) {G30 : Int → Int → Int → Int → Int → Int → Int → MH → RS Int} (hG30 : ∀ (v1 : Int) (v2 : Int) (v3 : Int) (v4 : Int) (v5 : Int) (v6 : Int) (v7 : Int) (h : MH), LayC h → inR v1 → inR v2 → inR v3 → inR v4 → inR v5 → inR v6 → inR v7 → OK d k_M_takeArguments 30 [mR 107, mI v1, mI v2, mI v3, mI v4, mI v5, mI v6, mI v7, mN, mN, mN, mN] [] h cI inR (G30 v1 v2 v3 v4 v5 v6 v7 h)) {v1 : Int} {v2 : Int} {v3 : Int} {v4 : Int} {v5 : Int} {v6 : Int} {v8 : Int64} {v10 : Int} {h : MH} (L : LayC h) (rv1 : inR v1) (rv2 : inR v2) (rv3 : inR v3) (rv4 : inR v4) (rv5 : inR v5) (rv6 : inR v6) (rv10 : inR v10) : OK d k_M_takeArguments 110 [mR 107, mI v1, mI v2, mI v3, mI v4, mI v5, mI v6, mN, mL v8, mN, mI v10, mN] [] h cI inR (F_M_takeArguments_110 G30 v1 v2 v3 v4 v5 v6 v8 v10 h) := by
  unfold F_M_takeArguments_110
  refine z_go (fun Q hq => x_iconst (dA d_M_takeArguments 62 rfl) hq) ?_
  exact S_M_takeArguments_111 hd hG30 L rv1 rv2 rv3 rv4 rv5 rv6 rv10 (inR_lit (0 : Int) rfl)
noncomputable def F_M_takeArguments_106 (G30 : Int → Int → Int → Int → Int → Int → Int → MH → RS Int) (v1 : Int) (v2 : Int) (v3 : Int) (v4 : Int) (v5 : Int) (v6 : Int) (v8 : Int64) (v10 : Int) (h : MH) : RS Int := F_M_takeArguments_111 G30 v1 v2 v3 v4 v5 v6 v8 v10 (1 : Int) h
theorem S_M_takeArguments_106 {d : Nat} (hd : 2 ≤ d) {G30 : Int → Int → Int → Int → Int → Int → Int → MH → RS Int} (hG30 : ∀ (v1 : Int) (v2 : Int) (v3 : Int) (v4 : Int) (v5 : Int) (v6 : Int) (v7 : Int) (h : MH), LayC h → inR v1 → inR v2 → inR v3 → inR v4 → inR v5 → inR v6 → inR v7 → OK d k_M_takeArguments 30 [mR 107, mI v1, mI v2, mI v3, mI v4, mI v5, mI v6, mI v7, mN, mN, mN, mN] [] h cI inR (G30 v1 v2 v3 v4 v5 v6 v7 h)) {v1 : Int} {v2 : Int} {v3 : Int} {v4 : Int} {v5 : Int} {v6 : Int} {v8 : Int64} {v10 : Int} {h : MH} (L : LayC h) (rv1 : inR v1) (rv2 : inR v2) (rv3 : inR v3) (rv4 : inR v4) (rv5 : inR v5) (rv6 : inR v6) (rv10 : inR v10) : OK d k_M_takeArguments 106 [mR 107, mI v1, mI v2, mI v3, mI v4, mI v5, mI v6, mN, mL v8, mN, mI v10, mN] [] h cI inR (F_M_takeArguments_106 G30 v1 v2 v3 v4 v5 v6 v8 v10 h) := by
  unfold F_M_takeArguments_106
  refine z_go (fun Q hq => x_iconst (dA d_M_takeArguments 60 rfl) (x_goto (dA d_M_takeArguments 61 rfl) rfl hq)) ?_
  exact S_M_takeArguments_111 hd hG30 L rv1 rv2 rv3 rv4 rv5 rv6 rv10 (inR_lit (1 : Int) rfl)
noncomputable def F_M_takeArguments_77 (G30 : Int → Int → Int → Int → Int → Int → Int → MH → RS Int) (v1 : Int) (v2 : Int) (v3 : Int) (v4 : Int) (v5 : Int) (v6 : Int) (v8 : Int64) (s0 : Int) (h : MH) : RS Int := if v4 ≤ 0 then F_M_takeArguments_110 G30 v1 v2 v3 v4 v5 v6 v8 s0 h else if s0 = 0 then if (1 : Int) < v4 then F_M_takeArguments_106 G30 v1 v2 v3 v4 v5 v6 v8 s0 h else bnd (F_M_isSign v8 (41 : Int) h) fun x58 h56 => if x58 = 0 then F_M_takeArguments_106 G30 v1 v2 v3 v4 v5 v6 v8 s0 h56 else F_M_takeArguments_110 G30 v1 v2 v3 v4 v5 v6 v8 s0 h56 else F_M_takeArguments_110 G30 v1 v2 v3 v4 v5 v6 v8 s0 h
theorem S_M_takeArguments_77 {d : Nat} (hd : 2 ≤ d) {G30 : Int → Int → Int → Int → Int → Int → Int → MH → RS Int} (hG30 : ∀ (v1 : Int) (v2 : Int) (v3 : Int) (v4 : Int) (v5 : Int) (v6 : Int) (v7 : Int) (h : MH), LayC h → inR v1 → inR v2 → inR v3 → inR v4 → inR v5 → inR v6 → inR v7 → OK d k_M_takeArguments 30 [mR 107, mI v1, mI v2, mI v3, mI v4, mI v5, mI v6, mI v7, mN, mN, mN, mN] [] h cI inR (G30 v1 v2 v3 v4 v5 v6 v7 h)) {v1 : Int} {v2 : Int} {v3 : Int} {v4 : Int} {v5 : Int} {v6 : Int} {v8 : Int64} {s0 : Int} {h : MH} (L : LayC h) (rv1 : inR v1) (rv2 : inR v2) (rv3 : inR v3) (rv4 : inR v4) (rv5 : inR v5) (rv6 : inR v6) (rs0 : inR s0) : OK d k_M_takeArguments 77 [mR 107, mI v1, mI v2, mI v3, mI v4, mI v5, mI v6, mN, mL v8, mN, mN, mN] [mI s0] h cI inR (F_M_takeArguments_77 G30 v1 v2 v3 v4 v5 v6 v8 s0 h) := by
  unfold F_M_takeArguments_77
  refine z_go (fun Q hq => x_istore (dA d_M_takeArguments 47 rfl) (by decide) rfl (x_iload (dA d_M_takeArguments 48 rfl) rfl hq)) ?_
  refine z_br (fun Q => x_if_le (dA d_M_takeArguments 49 rfl) rfl rv4) (fun c53 => ?_) (fun c53 => ?_)
  · exact S_M_takeArguments_110 hd hG30 L rv1 rv2 rv3 rv4 rv5 rv6 rs0
  · refine z_go (fun Q hq => x_iload (dA d_M_takeArguments 50 rfl) rfl hq) ?_
    refine z_brn (fun Q => x_if_ne (dA d_M_takeArguments 51 rfl) rfl rs0) (fun c54 => ?_) (fun c54 => ?_)
    · refine z_go (fun Q hq => x_iload (dA d_M_takeArguments 52 rfl) rfl (x_iconst (dA d_M_takeArguments 53 rfl) hq)) ?_
      refine z_br (fun Q => x_icmp_gt (dA d_M_takeArguments 54 rfl) rfl rv4 (inR_lit (1 : Int) rfl)) (fun c55 => ?_) (fun c55 => ?_)
      · exact S_M_takeArguments_106 hd hG30 L rv1 rv2 rv3 rv4 rv5 rv6 rs0
      · refine z_go (fun Q hq => x_aload_n (dA d_M_takeArguments 55 rfl) rfl rfl (x_lload (dA d_M_takeArguments 56 rfl) rfl (x_bipush (dA d_M_takeArguments 57 rfl) (by decide) hq))) ?_
        refine z_bnd (rest := []) (st1 := fun v => mI v :: []) (S_M_isSign (d := 1) (Nat.le_refl _) L (inR_lit (41 : Int) rfl)) (fun _ hx => absurd hx List.not_mem_nil) (fun _ => rfl) (fun Q' Q => x_callV (as := [mL v8, mI (41 : Int)]) (rest := []) (k' := k_M_isSign) (dA d_M_takeArguments 58 rfl) o_M_isSign lk_M_350 im_M_isSign se_M_isSign rfl (L.sh (x := (12, 66)) rfl) (by decide) (Nat.le_of_ble_eq_true rfl) (Nat.le_trans (Nat.le_of_ble_eq_true rfl) hd) (Nat.le_of_ble_eq_true rfl)) (fun x58 h56 e57 p59 => ?_)
        have L60 := L.ext e57
        refine z_brn (fun Q => x_if_ne (dA d_M_takeArguments 59 rfl) rfl p59.inR) (fun c61 => ?_) (fun c61 => ?_)
        · exact S_M_takeArguments_106 hd hG30 L60 rv1 rv2 rv3 rv4 rv5 rv6 rs0
        · exact S_M_takeArguments_110 hd hG30 L60 rv1 rv2 rv3 rv4 rv5 rv6 rs0
    · exact S_M_takeArguments_110 hd hG30 L rv1 rv2 rv3 rv4 rv5 rv6 rs0
noncomputable def F_M_takeArguments_76 (G30 : Int → Int → Int → Int → Int → Int → Int → MH → RS Int) (v1 : Int) (v2 : Int) (v3 : Int) (v4 : Int) (v5 : Int) (v6 : Int) (v8 : Int64) (h : MH) : RS Int := F_M_takeArguments_77 G30 v1 v2 v3 v4 v5 v6 v8 (0 : Int) h
theorem S_M_takeArguments_76 {d : Nat} (hd : 2 ≤ d) {G30 : Int → Int → Int → Int → Int → Int → Int → MH → RS Int} (hG30 : ∀ (v1 : Int) (v2 : Int) (v3 : Int) (v4 : Int) (v5 : Int) (v6 : Int) (v7 : Int) (h : MH), LayC h → inR v1 → inR v2 → inR v3 → inR v4 → inR v5 → inR v6 → inR v7 → OK d k_M_takeArguments 30 [mR 107, mI v1, mI v2, mI v3, mI v4, mI v5, mI v6, mI v7, mN, mN, mN, mN] [] h cI inR (G30 v1 v2 v3 v4 v5 v6 v7 h)) {v1 : Int} {v2 : Int} {v3 : Int} {v4 : Int} {v5 : Int} {v6 : Int} {v8 : Int64} {h : MH} (L : LayC h) (rv1 : inR v1) (rv2 : inR v2) (rv3 : inR v3) (rv4 : inR v4) (rv5 : inR v5) (rv6 : inR v6) : OK d k_M_takeArguments 76 [mR 107, mI v1, mI v2, mI v3, mI v4, mI v5, mI v6, mN, mL v8, mN, mN, mN] [] h cI inR (F_M_takeArguments_76 G30 v1 v2 v3 v4 v5 v6 v8 h) := by
  unfold F_M_takeArguments_76
  refine z_go (fun Q hq => x_iconst (dA d_M_takeArguments 46 rfl) hq) ?_
  exact S_M_takeArguments_77 hd hG30 L rv1 rv2 rv3 rv4 rv5 rv6 (inR_lit (0 : Int) rfl)
noncomputable def F_M_takeArguments_30_b (G30 : Int → Int → Int → Int → Int → Int → Int → MH → RS Int) (v1 : Int) (v2 : Int) (v3 : Int) (v4 : Int) (v5 : Int) (v6 : Int) (v7 : Int) (h : MH) : RS Int := if v7 = 0 then F_M_takeArguments_237 v1 v2 v3 v5 v6 v7 h else if v3 ≤ 0 then F_M_takeArguments_237 v1 v2 v3 v5 v6 v7 h else gd (inR (v3 + (-1 : Int))) (gd (inR ((100 : Int) * v1)) (gd (inR (((100 : Int) * v1) + (v3 + (-1 : Int)))) (gd (0 ≤ (((100 : Int) * v1) + (v3 + (-1 : Int))) ∧ (((100 : Int) * v1) + (v3 + (-1 : Int))) < 800) (if v4 = (1 : Int) then bnd (F_M_isSign (mGl h 135 (((100 : Int) * v1) + (v3 + (-1 : Int))).toNat) (44 : Int) h) fun x71 h69 => if x71 = 0 then F_M_takeArguments_76 G30 v1 v2 (v3 + (-1 : Int)) v4 v5 v6 (mGl h 135 (((100 : Int) * v1) + (v3 + (-1 : Int))).toNat) h69 else F_M_takeArguments_77 G30 v1 v2 (v3 + (-1 : Int)) v4 v5 v6 (mGl h 135 (((100 : Int) * v1) + (v3 + (-1 : Int))).toNat) (1 : Int) h69 else F_M_takeArguments_76 G30 v1 v2 (v3 + (-1 : Int)) v4 v5 v6 (mGl h 135 (((100 : Int) * v1) + (v3 + (-1 : Int))).toNat) h))))
theorem S_M_takeArguments_30_b {d : Nat} (hd : 2 ≤ d) {G30 : Int → Int → Int → Int → Int → Int → Int → MH → RS Int} (hG30 : ∀ (v1 : Int) (v2 : Int) (v3 : Int) (v4 : Int) (v5 : Int) (v6 : Int) (v7 : Int) (h : MH), LayC h → inR v1 → inR v2 → inR v3 → inR v4 → inR v5 → inR v6 → inR v7 → OK d k_M_takeArguments 30 [mR 107, mI v1, mI v2, mI v3, mI v4, mI v5, mI v6, mI v7, mN, mN, mN, mN] [] h cI inR (G30 v1 v2 v3 v4 v5 v6 v7 h)) {v1 : Int} {v2 : Int} {v3 : Int} {v4 : Int} {v5 : Int} {v6 : Int} {v7 : Int} {h : MH} (L : LayC h) (rv1 : inR v1) (rv2 : inR v2) (rv3 : inR v3) (rv4 : inR v4) (rv5 : inR v5) (rv6 : inR v6) (rv7 : inR v7) : OK d k_M_takeArguments 30 [mR 107, mI v1, mI v2, mI v3, mI v4, mI v5, mI v6, mI v7, mN, mN, mN, mN] [] h cI inR (F_M_takeArguments_30_b G30 v1 v2 v3 v4 v5 v6 v7 h) := by
  unfold F_M_takeArguments_30_b
  refine z_go (fun Q hq => x_iload (dA d_M_takeArguments 22 rfl) rfl hq) ?_
  refine z_br (fun Q => x_if_eq (dA d_M_takeArguments 23 rfl) rfl rv7) (fun c62 => ?_) (fun c62 => ?_)
  · refine z_fgt (ls' := [mR 107, mI v1, mI v2, mI v3, mN, mI v5, mI v6, mI v7, mN, mN, mN, mN]) ⟨.inr rfl, .inr rfl, .inr rfl, .inr rfl, .inl rfl, .inr rfl, .inr rfl, .inr rfl, .inl rfl, .inl rfl, .inl rfl, .inl rfl, trivial⟩ ?_
    exact S_M_takeArguments_237 hd  L rv1 rv2 rv3 rv5 rv6 rv7
  · refine z_go (fun Q hq => x_iload_n (dA d_M_takeArguments 24 rfl) rfl rfl hq) ?_
    refine z_br (fun Q => x_if_le (dA d_M_takeArguments 25 rfl) rfl rv3) (fun c63 => ?_) (fun c63 => ?_)
    · refine z_fgt (ls' := [mR 107, mI v1, mI v2, mI v3, mN, mI v5, mI v6, mI v7, mN, mN, mN, mN]) ⟨.inr rfl, .inr rfl, .inr rfl, .inr rfl, .inl rfl, .inr rfl, .inr rfl, .inr rfl, .inl rfl, .inl rfl, .inl rfl, .inl rfl, trivial⟩ ?_
      exact S_M_takeArguments_237 hd  L rv1 rv2 rv3 rv5 rv6 rv7
    · refine z_gd (fun g64 => ?_)
      refine z_go (fun Q hq => x_iinc (dA d_M_takeArguments 26 rfl) rfl (by decide) rfl (x_aload_n (dA d_M_takeArguments 27 rfl) rfl rfl (x_getR (dA d_M_takeArguments 28 rfl) f_M_94 (L.sh (x := (12, 66)) rfl) (by decide) (by decide) rfl (L.rf 136 rfl) (x_bipush (dA d_M_takeArguments 29 rfl) (by decide) (x_iload_n (dA d_M_takeArguments 30 rfl) rfl rfl hq))))) ?_
      refine z_gd (fun g65 => ?_)
      refine z_go (fun Q hq => x_imul (dA d_M_takeArguments 31 rfl) (x_iload_n (dA d_M_takeArguments 32 rfl) rfl rfl hq)) ?_
      refine z_gd (fun g66 => ?_)
      refine z_go (fun Q hq => x_iadd (dA d_M_takeArguments 33 rfl) hq) ?_
      refine z_gd (fun g67 => ?_)
      refine z_go (fun Q hq => x_lald (dA d_M_takeArguments 34 rfl) (L.sh (x := (103, 800)) rfl) g67.1 g67.2 (by decide) (x_lstore (dA d_M_takeArguments 35 rfl) (by decide) rfl (x_iload (dA d_M_takeArguments 36 rfl) rfl (x_iconst (dA d_M_takeArguments 37 rfl) hq)))) ?_
      refine z_brn (fun Q => x_icmp_ne (dA d_M_takeArguments 38 rfl) rfl rv4 (inR_lit (1 : Int) rfl)) (fun c68 => ?_) (fun c68 => ?_)
      · refine z_go (fun Q hq => x_aload_n (dA d_M_takeArguments 39 rfl) rfl rfl (x_lload (dA d_M_takeArguments 40 rfl) rfl (x_bipush (dA d_M_takeArguments 41 rfl) (by decide) hq))) ?_
        refine z_bnd (rest := []) (st1 := fun v => mI v :: []) (S_M_isSign (d := 1) (Nat.le_refl _) L (inR_lit (44 : Int) rfl)) (fun _ hx => absurd hx List.not_mem_nil) (fun _ => rfl) (fun Q' Q => x_callV (as := [mL (mGl h 135 (((100 : Int) * v1) + (v3 + (-1 : Int))).toNat), mI (44 : Int)]) (rest := []) (k' := k_M_isSign) (dA d_M_takeArguments 42 rfl) o_M_isSign lk_M_350 im_M_isSign se_M_isSign rfl (L.sh (x := (12, 66)) rfl) (by decide) (Nat.le_of_ble_eq_true rfl) (Nat.le_trans (Nat.le_of_ble_eq_true rfl) hd) (Nat.le_of_ble_eq_true rfl)) (fun x71 h69 e70 p72 => ?_)
        have L73 := L.ext e70
        refine z_br (fun Q => x_if_eq (dA d_M_takeArguments 43 rfl) rfl p72.inR) (fun c74 => ?_) (fun c74 => ?_)
        · refine z_fgt (ls' := [mR 107, mI v1, mI v2, mI (v3 + (-1 : Int)), mI v4, mI v5, mI v6, mN, mL (mGl h 135 (((100 : Int) * v1) + (v3 + (-1 : Int))).toNat), mN, mN, mN]) ⟨.inr rfl, .inr rfl, .inr rfl, .inr rfl, .inr rfl, .inr rfl, .inr rfl, .inl rfl, .inr rfl, .inl rfl, .inl rfl, .inl rfl, trivial⟩ ?_
          exact S_M_takeArguments_76 hd hG30 L73 rv1 rv2 g64 rv4 rv5 rv6
        · refine z_go (fun Q hq => x_iconst (dA d_M_takeArguments 44 rfl) (x_goto (dA d_M_takeArguments 45 rfl) rfl hq)) ?_
          refine z_fgt (ls' := [mR 107, mI v1, mI v2, mI (v3 + (-1 : Int)), mI v4, mI v5, mI v6, mN, mL (mGl h 135 (((100 : Int) * v1) + (v3 + (-1 : Int))).toNat), mN, mN, mN]) ⟨.inr rfl, .inr rfl, .inr rfl, .inr rfl, .inr rfl, .inr rfl, .inr rfl, .inl rfl, .inr rfl, .inl rfl, .inl rfl, .inl rfl, trivial⟩ ?_
          exact S_M_takeArguments_77 hd hG30 L73 rv1 rv2 g64 rv4 rv5 rv6 (inR_lit (1 : Int) rfl)
      · refine z_fgt (ls' := [mR 107, mI v1, mI v2, mI (v3 + (-1 : Int)), mI v4, mI v5, mI v6, mN, mL (mGl h 135 (((100 : Int) * v1) + (v3 + (-1 : Int))).toNat), mN, mN, mN]) ⟨.inr rfl, .inr rfl, .inr rfl, .inr rfl, .inr rfl, .inr rfl, .inr rfl, .inl rfl, .inr rfl, .inl rfl, .inl rfl, .inl rfl, trivial⟩ ?_
        exact S_M_takeArguments_76 hd hG30 L rv1 rv2 g64 rv4 rv5 rv6
noncomputable def F_M_takeArguments_30 (v1 : Int) (v2 : Int) (v3 : Int) (v4 : Int) (v5 : Int) (v6 : Int) (v7 : Int) (h : MH) : RS Int := itr (fun self (q : Int × Int × Int × Int × Int × Int × Int × MH) => F_M_takeArguments_30_b (fun v1 v2 v3 v4 v5 v6 v7 h => self (v1, v2, v3, v4, v5, v6, v7, h)) q.1 q.2.1 q.2.2.1 q.2.2.2.1 q.2.2.2.2.1 q.2.2.2.2.2.1 q.2.2.2.2.2.2.1 q.2.2.2.2.2.2.2) FU (v1, v2, v3, v4, v5, v6, v7, h)
theorem S_M_takeArguments_30 {d : Nat} (hd : 2 ≤ d) {v1 : Int} {v2 : Int} {v3 : Int} {v4 : Int} {v5 : Int} {v6 : Int} {v7 : Int} {h : MH} (L : LayC h) (rv1 : inR v1) (rv2 : inR v2) (rv3 : inR v3) (rv4 : inR v4) (rv5 : inR v5) (rv6 : inR v6) (rv7 : inR v7) : OK d k_M_takeArguments 30 [mR 107, mI v1, mI v2, mI v3, mI v4, mI v5, mI v6, mI v7, mN, mN, mN, mN] [] h cI inR (F_M_takeArguments_30  v1 v2 v3 v4 v5 v6 v7 h) := by
  unfold F_M_takeArguments_30
  refine z_itr (P := fun q : Int × Int × Int × Int × Int × Int × Int × MH => LayC q.2.2.2.2.2.2.2 ∧ inR q.1 ∧ inR q.2.1 ∧ inR q.2.2.1 ∧ inR q.2.2.2.1 ∧ inR q.2.2.2.2.1 ∧ inR q.2.2.2.2.2.1 ∧ inR q.2.2.2.2.2.2.1 ∧ True) (ls := fun q : Int × Int × Int × Int × Int × Int × Int × MH => [mR 107, mI q.1, mI q.2.1, mI q.2.2.1, mI q.2.2.2.1, mI q.2.2.2.2.1, mI q.2.2.2.2.2.1, mI q.2.2.2.2.2.2.1, mN, mN, mN, mN]) (hp := fun q : Int × Int × Int × Int × Int × Int × Int × MH => q.2.2.2.2.2.2.2) (fun self hs q hq => ?_) FU (v1, v2, v3, v4, v5, v6, v7, h) ⟨L, rv1, rv2, rv3, rv4, rv5, rv6, rv7, trivial⟩
  exact S_M_takeArguments_30_b hd (fun v1 v2 v3 v4 v5 v6 v7 h L rv1 rv2 rv3 rv4 rv5 rv6 rv7 => hs (v1, v2, v3, v4, v5, v6, v7, h) ⟨L, rv1, rv2, rv3, rv4, rv5, rv6, rv7, trivial⟩) hq.1 hq.2.1 hq.2.2.1 hq.2.2.2.1 hq.2.2.2.2.1 hq.2.2.2.2.2.1 hq.2.2.2.2.2.2.1 hq.2.2.2.2.2.2.2.1
noncomputable def F_M_takeArguments (a1 : Int) (a2 : Int) (h : MH) : RS Int := gd (0 ≤ a1 ∧ a1 < 8) (gd (inR ((mGi h 140 a1.toNat) - (1 : Int))) (gd (inR ((4 : Int) * a1)) (gd (0 ≤ ((4 : Int) * a1) ∧ ((4 : Int) * a1) < 32) (sto (mPi h 142 ((4 : Int) * a1).toNat (0 : Int)) fun h79 => F_M_takeArguments_30 a1 a2 ((mGi h 140 a1.toNat) - (1 : Int)) (0 : Int) (0 : Int) (1 : Int) (1 : Int) h79))))
theorem S_M_takeArguments {d : Nat} (hd : 2 ≤ d) {a1 : Int} {a2 : Int} {h : MH} (L : LayC h) (ra1 : inR a1) (ra2 : inR a2) : OK d k_M_takeArguments 0 [mR 107, mI a1, mI a2, mN, mN, mN, mN, mN, mN, mN, mN, mN] [] h cI inR (F_M_takeArguments  a1 a2 h) := by
  unfold F_M_takeArguments
  refine z_go (fun Q hq => x_aload_n (dA d_M_takeArguments 0 rfl) rfl rfl (x_getR (dA d_M_takeArguments 1 rfl) f_M_109 (L.sh (x := (12, 66)) rfl) (by decide) (by decide) rfl (L.rf 141 rfl) (x_iload_n (dA d_M_takeArguments 2 rfl) rfl rfl hq))) ?_
  refine z_gd (fun g75 => ?_)
  refine z_go (fun Q hq => x_iald (dA d_M_takeArguments 3 rfl) (L.sh (x := (100, 8)) rfl) g75.1 g75.2 (by decide) (x_iconst (dA d_M_takeArguments 4 rfl) hq)) ?_
  refine z_gd (fun g76 => ?_)
  refine z_go (fun Q hq => x_isub (dA d_M_takeArguments 5 rfl) (x_istore_n (dA d_M_takeArguments 6 rfl) rfl (by decide) rfl (x_iconst (dA d_M_takeArguments 7 rfl) (x_istore (dA d_M_takeArguments 8 rfl) (by decide) rfl (x_iconst (dA d_M_takeArguments 9 rfl) (x_istore (dA d_M_takeArguments 10 rfl) (by decide) rfl (x_iconst (dA d_M_takeArguments 11 rfl) (x_istore (dA d_M_takeArguments 12 rfl) (by decide) rfl (x_aload_n (dA d_M_takeArguments 13 rfl) rfl rfl (x_getR (dA d_M_takeArguments 14 rfl) f_M_115 (L.sh (x := (12, 66)) rfl) (by decide) (by decide) rfl (L.rf 143 rfl) (x_iconst (dA d_M_takeArguments 15 rfl) (x_iload_n (dA d_M_takeArguments 16 rfl) rfl rfl hq)))))))))))) ?_
  refine z_gd (fun g77 => ?_)
  refine z_go (fun Q hq => x_imul (dA d_M_takeArguments 17 rfl) (x_iconst (dA d_M_takeArguments 18 rfl) hq)) ?_
  refine z_gd (fun g78 => ?_)
  refine z_sto (Ext.pi (L.sh (x := (100, 32)) rfl) (by decide) (inR_lit (0 : Int) rfl)) (fun Q hq => x_iast (dA d_M_takeArguments 19 rfl) (L.sh (x := (100, 32)) rfl) g78.1 g78.2 (by decide) hq) (fun h79 e80 => ?_)
  have L81 := L.ext e80
  refine z_go (fun Q hq => x_iconst (dA d_M_takeArguments 20 rfl) (x_istore (dA d_M_takeArguments 21 rfl) (by decide) rfl hq)) ?_
  exact S_M_takeArguments_30 hd  L81 ra1 ra2 g76 (inR_lit (0 : Int) rfl) (inR_lit (0 : Int) rfl) (inR_lit (1 : Int) rfl) (inR_lit (1 : Int) rfl)
/-! TwoMillsModel.scanNext()Z -/
noncomputable def F_M_scanNext_276 (v1 : Int) (v3 : Int64) (s1 : Int) (h : MH) : RS Int := gd (p01 s1) (bnd (F_M_need s1 (1 : Int) h) fun x4 h2 => if x4 = 0 then some (.inl (1 : Int), h2) else gd (inR ((100 : Int) * v1)) (gd (0 ≤ v1 ∧ v1 < 8) (gd (inR (((100 : Int) * v1) + (mGi h2 141 v1.toNat))) (gd (0 ≤ (((100 : Int) * v1) + (mGi h2 141 v1.toNat)) ∧ (((100 : Int) * v1) + (mGi h2 141 v1.toNat)) < 800) (sto (mPl h2 136 (((100 : Int) * v1) + (mGi h2 141 v1.toNat)).toNat v3) fun h12 => gd (inR ((mGi h12 141 v1.toNat) + (1 : Int))) (sto (mPi h12 141 v1.toNat ((mGi h12 141 v1.toNat) + (1 : Int))) fun h16 => gd (inR ((mGi h16 140 v1.toNat) - (1 : Int))) (sto (mPi h16 140 v1.toNat ((mGi h16 140 v1.toNat) - (1 : Int))) fun h20 => some (.inl (1 : Int), h20))))))))
theorem S_M_scanNext_276 {d : Nat} (hd : 3 ≤ d) {v1 : Int} {v3 : Int64} {s1 : Int} {h : MH} (L : LayC h) (rv1 : inR v1) (rs1 : inR s1) : OK d k_M_scanNext 276 [mR 107, mI v1, mN, mL v3, mN, mN, mN, mN] [mI s1, mR 107] h cI p01 (F_M_scanNext_276  v1 v3 s1 h) := by
  unfold F_M_scanNext_276
  refine z_go (fun Q hq => x_iconst (dA d_M_scanNext 160 rfl) hq) ?_
  refine z_gd (fun g1 => ?_)
  refine z_bnd (rest := []) (st1 := fun v => mI v :: []) (S_M_need (d := 1) (Nat.le_refl _) L g1 (inR_lit (1 : Int) rfl)) (fun _ hx => absurd hx List.not_mem_nil) (fun _ => rfl) (fun Q' Q => x_callV (as := [mI s1, mI (1 : Int)]) (rest := []) (k' := k_M_need) (dA d_M_scanNext 161 rfl) o_M_need lk_M_181 im_M_need se_M_need rfl (L.sh (x := (12, 66)) rfl) (by decide) (Nat.le_of_ble_eq_true rfl) (Nat.le_trans (Nat.le_of_ble_eq_true rfl) hd) (Nat.le_of_ble_eq_true rfl)) (fun x4 h2 e3 p5 => ?_)
  have L6 := L.ext e3
  refine z_br (fun Q => x_if_eq (dA d_M_scanNext 162 rfl) rfl p5.inR) (fun c7 => ?_) (fun c7 => ?_)
  · refine z_go (fun Q hq => x_iconst (dA d_M_scanNext 191 rfl) hq) ?_
    exact z_retz (dA d_M_scanNext 192 rfl) rfl (.inr rfl)
  · refine z_go (fun Q hq => x_aload_n (dA d_M_scanNext 163 rfl) rfl rfl (x_getR (dA d_M_scanNext 164 rfl) f_M_97 (L6.sh (x := (12, 66)) rfl) (by decide) (by decide) rfl (L6.rf 137 rfl) (x_bipush (dA d_M_scanNext 165 rfl) (by decide) (x_iload_n (dA d_M_scanNext 166 rfl) rfl rfl hq)))) ?_
    refine z_gd (fun g8 => ?_)
    refine z_go (fun Q hq => x_imul (dA d_M_scanNext 167 rfl) (x_aload_n (dA d_M_scanNext 168 rfl) rfl rfl (x_getR (dA d_M_scanNext 169 rfl) f_M_112 (L6.sh (x := (12, 66)) rfl) (by decide) (by decide) rfl (L6.rf 142 rfl) (x_iload_n (dA d_M_scanNext 170 rfl) rfl rfl hq)))) ?_
    refine z_gd (fun g9 => ?_)
    refine z_go (fun Q hq => x_iald (dA d_M_scanNext 171 rfl) (L6.sh (x := (100, 8)) rfl) g9.1 g9.2 (by decide) hq) ?_
    refine z_gd (fun g10 => ?_)
    refine z_go (fun Q hq => x_iadd (dA d_M_scanNext 172 rfl) (x_lload_n (dA d_M_scanNext 173 rfl) rfl rfl hq)) ?_
    refine z_gd (fun g11 => ?_)
    refine z_sto Ext.pl (fun Q hq => x_last (dA d_M_scanNext 174 rfl) (L6.sh (x := (103, 800)) rfl) g11.1 g11.2 (by decide) hq) (fun h12 e13 => ?_)
    have L14 := L6.ext e13
    refine z_go (fun Q hq => x_aload_n (dA d_M_scanNext 175 rfl) rfl rfl (x_getR (dA d_M_scanNext 176 rfl) f_M_112 (L14.sh (x := (12, 66)) rfl) (by decide) (by decide) rfl (L14.rf 142 rfl) (x_iload_n (dA d_M_scanNext 177 rfl) rfl rfl (x_dup2 (dA d_M_scanNext 178 rfl) rfl rfl (x_iald (dA d_M_scanNext 179 rfl) (L14.sh (x := (100, 8)) rfl) g9.1 g9.2 (by decide) (x_iconst (dA d_M_scanNext 180 rfl) hq)))))) ?_
    refine z_gd (fun g15 => ?_)
    refine z_go (fun Q hq => x_iadd (dA d_M_scanNext 181 rfl) hq) ?_
    refine z_sto (Ext.pi (L14.sh (x := (100, 8)) rfl) (by decide) g15) (fun Q hq => x_iast (dA d_M_scanNext 182 rfl) (L14.sh (x := (100, 8)) rfl) g9.1 g9.2 (by decide) hq) (fun h16 e17 => ?_)
    have L18 := L14.ext e17
    refine z_go (fun Q hq => x_aload_n (dA d_M_scanNext 183 rfl) rfl rfl (x_getR (dA d_M_scanNext 184 rfl) f_M_109 (L18.sh (x := (12, 66)) rfl) (by decide) (by decide) rfl (L18.rf 141 rfl) (x_iload_n (dA d_M_scanNext 185 rfl) rfl rfl (x_dup2 (dA d_M_scanNext 186 rfl) rfl rfl (x_iald (dA d_M_scanNext 187 rfl) (L18.sh (x := (100, 8)) rfl) g9.1 g9.2 (by decide) (x_iconst (dA d_M_scanNext 188 rfl) hq)))))) ?_
    refine z_gd (fun g19 => ?_)
    refine z_go (fun Q hq => x_isub (dA d_M_scanNext 189 rfl) hq) ?_
    refine z_sto (Ext.pi (L18.sh (x := (100, 8)) rfl) (by decide) g19) (fun Q hq => x_iast (dA d_M_scanNext 190 rfl) (L18.sh (x := (100, 8)) rfl) g9.1 g9.2 (by decide) hq) (fun h20 e21 => ?_)
    have L22 := L18.ext e21
    refine z_go (fun Q hq => x_iconst (dA d_M_scanNext 191 rfl) hq) ?_
    exact z_retz (dA d_M_scanNext 192 rfl) rfl (.inr rfl)
noncomputable def F_M_scanNext_259 (v1 : Int) (v3 : Int64) (h : MH) : RS Int := gd (0 ≤ v1 ∧ v1 < 8) (if (100 : Int) ≤ (mGi h 141 v1.toNat) then F_M_scanNext_276 v1 v3 (0 : Int) h else F_M_scanNext_276 v1 v3 (1 : Int) h)
theorem S_M_scanNext_259 {d : Nat} (hd : 3 ≤ d) {v1 : Int} {v3 : Int64} {h : MH} (L : LayC h) (rv1 : inR v1) : OK d k_M_scanNext 259 [mR 107, mI v1, mN, mL v3, mN, mN, mN, mN] [] h cI p01 (F_M_scanNext_259  v1 v3 h) := by
  unfold F_M_scanNext_259
  refine z_go (fun Q hq => x_aload_n (dA d_M_scanNext 150 rfl) rfl rfl (x_aload_n (dA d_M_scanNext 151 rfl) rfl rfl (x_getR (dA d_M_scanNext 152 rfl) f_M_112 (L.sh (x := (12, 66)) rfl) (by decide) (by decide) rfl (L.rf 142 rfl) (x_iload_n (dA d_M_scanNext 153 rfl) rfl rfl hq)))) ?_
  refine z_gd (fun g23 => ?_)
  refine z_go (fun Q hq => x_iald (dA d_M_scanNext 154 rfl) (L.sh (x := (100, 8)) rfl) g23.1 g23.2 (by decide) (x_bipush (dA d_M_scanNext 155 rfl) (by decide) hq)) ?_
  refine z_br (fun Q => x_icmp_ge (dA d_M_scanNext 156 rfl) rfl (L.rg _ _) (inR_lit (100 : Int) rfl)) (fun c24 => ?_) (fun c24 => ?_)
  · refine z_go (fun Q hq => x_iconst (dA d_M_scanNext 159 rfl) hq) ?_
    exact S_M_scanNext_276 hd  L rv1 (inR_lit (0 : Int) rfl)
  · refine z_go (fun Q hq => x_iconst (dA d_M_scanNext 157 rfl) (x_goto (dA d_M_scanNext 158 rfl) rfl hq)) ?_
    exact S_M_scanNext_276 hd  L rv1 (inR_lit (1 : Int) rfl)
noncomputable def F_M_scanNext_222 (v1 : Int) (v3 : Int64) (v5 : Int) (v6 : Int) (h : MH) : RS Int := if v6 = 0 then F_M_scanNext_259 v1 v3 h else gd (0 ≤ v5 ∧ v5 < 8) (if (mGi h 131 v5.toNat) = 0 then gd (0 ≤ v1 ∧ v1 < 8) (gd (inR ((mGi h 140 v1.toNat) - (1 : Int))) (bnd (F_M_hidesOf v3 h) fun x32 h30 => bnd (F_M_replace v1 v5 ((mGi h 140 v1.toNat) - (1 : Int)) x32 h30) fun x37 h35 => some (.inl (1 : Int), h35))) else F_M_scanNext_259 v1 v3 h)
theorem S_M_scanNext_222 {d : Nat} (hd : 3 ≤ d) {v1 : Int} {v3 : Int64} {v5 : Int} {v6 : Int} {h : MH} (L : LayC h) (rv1 : inR v1) (rv5 : inR v5) (rv6 : inR v6) : OK d k_M_scanNext 222 [mR 107, mI v1, mN, mL v3, mN, mI v5, mI v6, mN] [] h cI p01 (F_M_scanNext_222  v1 v3 v5 v6 h) := by
  unfold F_M_scanNext_222
  refine z_go (fun Q hq => x_iload (dA d_M_scanNext 130 rfl) rfl hq) ?_
  refine z_br (fun Q => x_if_eq (dA d_M_scanNext 131 rfl) rfl rv6) (fun c25 => ?_) (fun c25 => ?_)
  · refine z_fgt (ls' := [mR 107, mI v1, mN, mL v3, mN, mN, mN, mN]) ⟨.inr rfl, .inr rfl, .inl rfl, .inr rfl, .inl rfl, .inl rfl, .inl rfl, .inl rfl, trivial⟩ ?_
    exact S_M_scanNext_259 hd  L rv1
  · refine z_go (fun Q hq => x_aload_n (dA d_M_scanNext 132 rfl) rfl rfl (x_getR (dA d_M_scanNext 133 rfl) f_M_82 (L.sh (x := (12, 66)) rfl) (by decide) (by decide) rfl (L.rf 132 rfl) (x_iload (dA d_M_scanNext 134 rfl) rfl hq))) ?_
    refine z_gd (fun g26 => ?_)
    refine z_go (fun Q hq => x_zald (dA d_M_scanNext 135 rfl) (L.sh (x := (102, 8)) rfl) g26.1 g26.2 (by decide) hq) ?_
    refine z_brn (fun Q => x_if_ne (dA d_M_scanNext 136 rfl) rfl (L.rg _ _)) (fun c27 => ?_) (fun c27 => ?_)
    · refine z_go (fun Q hq => x_aload_n (dA d_M_scanNext 137 rfl) rfl rfl (x_iload_n (dA d_M_scanNext 138 rfl) rfl rfl (x_iload (dA d_M_scanNext 139 rfl) rfl (x_aload_n (dA d_M_scanNext 140 rfl) rfl rfl (x_getR (dA d_M_scanNext 141 rfl) f_M_109 (L.sh (x := (12, 66)) rfl) (by decide) (by decide) rfl (L.rf 141 rfl) (x_iload_n (dA d_M_scanNext 142 rfl) rfl rfl hq)))))) ?_
      refine z_gd (fun g28 => ?_)
      refine z_go (fun Q hq => x_iald (dA d_M_scanNext 143 rfl) (L.sh (x := (100, 8)) rfl) g28.1 g28.2 (by decide) (x_iconst (dA d_M_scanNext 144 rfl) hq)) ?_
      refine z_gd (fun g29 => ?_)
      refine z_go (fun Q hq => x_isub (dA d_M_scanNext 145 rfl) (x_lload_n (dA d_M_scanNext 146 rfl) rfl rfl hq)) ?_
      refine z_bnd (rest := [mI ((mGi h 140 v1.toNat) - (1 : Int)), mI v5, mI v1, mR 107]) (st1 := fun v => mI v :: [mI ((mGi h 140 v1.toNat) - (1 : Int)), mI v5, mI v1, mR 107]) (S_M_hidesOf (d := 0) (Nat.le_refl _) L ) (fun _ hx => absurd hx List.not_mem_nil) (fun _ => rfl) (fun Q' Q => x_callS (as := [mL v3]) (rest := [mI ((mGi h 140 v1.toNat) - (1 : Int)), mI v5, mI v1, mR 107]) (k' := k_M_hidesOf) (dA d_M_scanNext 147 rfl) o_M_hidesOf lk_M_398 st_M_hidesOf (Nat.le_of_ble_eq_true rfl) (Nat.le_trans (Nat.le_of_ble_eq_true rfl) hd) (Nat.le_of_ble_eq_true rfl)) (fun x32 h30 e31 p33 => ?_)
      have L34 := L.ext e31
      refine z_bnd (rest := []) (st1 := fun _ => []) (S_M_replace (d := 2) (Nat.le_refl _) L34 rv1 rv5 g29 p33) (fun _ hx => absurd hx List.not_mem_nil) (fun _ => rfl) (fun Q' Q => x_callV (as := [mI v1, mI v5, mI ((mGi h 140 v1.toNat) - (1 : Int)), mI x32]) (rest := []) (k' := k_M_replace) (dA d_M_scanNext 148 rfl) o_M_replace lk_M_404 im_M_replace se_M_replace rfl (L34.sh (x := (12, 66)) rfl) (by decide) (Nat.le_of_ble_eq_true rfl) (Nat.le_trans (Nat.le_of_ble_eq_true rfl) hd) (Nat.le_of_ble_eq_true rfl)) (fun x37 h35 e36 p38 => ?_)
      have L39 := L34.ext e36
      refine z_go (fun Q hq => x_goto (dA d_M_scanNext 149 rfl) rfl (x_iconst (dA d_M_scanNext 191 rfl) hq)) ?_
      exact z_retz (dA d_M_scanNext 192 rfl) rfl (.inr rfl)
    · refine z_fgt (ls' := [mR 107, mI v1, mN, mL v3, mN, mN, mN, mN]) ⟨.inr rfl, .inr rfl, .inl rfl, .inr rfl, .inl rfl, .inl rfl, .inl rfl, .inl rfl, trivial⟩ ?_
      exact S_M_scanNext_259 hd  L rv1
noncomputable def F_M_scanNext_219 (h : MH) : RS Int := some (.inl (1 : Int), h)
theorem S_M_scanNext_219 {d : Nat} (hd : 3 ≤ d) {h : MH} (L : LayC h) : OK d k_M_scanNext 219 [mN, mN, mN, mN, mN, mN, mN, mN] [] h cI p01 (F_M_scanNext_219   h) := by
  unfold F_M_scanNext_219
  refine z_go (fun Q hq => x_goto (dA d_M_scanNext 129 rfl) rfl (x_iconst (dA d_M_scanNext 191 rfl) hq)) ?_
  exact z_retz (dA d_M_scanNext 192 rfl) rfl (.inr rfl)
noncomputable def F_M_scanNext_132 (v1 : Int) (v2 : Int) (v3 : Int64) (v5 : Int) (s0 : Int) (h : MH) : RS Int := if s0 = 0 then F_M_scanNext_222 v1 v3 v5 s0 h else gd (0 ≤ v5 ∧ v5 < 8) (if (mGi h 131 v5.toNat) = 0 then F_M_scanNext_222 v1 v3 v5 s0 h else gd (0 ≤ v1 ∧ v1 < 8) (if (mGi h 140 v1.toNat) ≤ (1 : Int) then F_M_scanNext_222 v1 v3 v5 s0 h else gd (inR (v2 - (1 : Int))) (gd (0 ≤ (v2 - (1 : Int)) ∧ (v2 - (1 : Int)) < 800) (bnd (F_M_isSign (mGl h 135 (v2 - (1 : Int)).toNat) (40 : Int) h) fun x49 h47 => if x49 = 0 then F_M_scanNext_222 v1 v3 v5 s0 h47 else bnd (F_M_takeArguments v1 v5 h47) fun x55 h53 => if x55 < 0 then F_M_scanNext_219  h53 else bnd (F_M_hidesOf v3 h53) fun x61 h59 => gd (inR ((100 : Int) * v1)) (gd (inR (((100 : Int) * v1) + x55)) (gd (0 ≤ (((100 : Int) * v1) + x55) ∧ (((100 : Int) * v1) + x55) < 800) (bnd (F_M_hidesOf (mGl h59 135 (((100 : Int) * v1) + x55).toNat) h59) fun x69 h67 => bnd (F_M_replace v1 v5 x55 (iAnd x61 x69) h67) fun x74 h72 => F_M_scanNext_219  h72)))))))
theorem S_M_scanNext_132 {d : Nat} (hd : 3 ≤ d) {v1 : Int} {v2 : Int} {v3 : Int64} {v5 : Int} {s0 : Int} {h : MH} (L : LayC h) (rv1 : inR v1) (rv2 : inR v2) (rv5 : inR v5) (rs0 : inR s0) : OK d k_M_scanNext 132 [mR 107, mI v1, mI v2, mL v3, mN, mI v5, mN, mN] [mI s0] h cI p01 (F_M_scanNext_132  v1 v2 v3 v5 s0 h) := by
  unfold F_M_scanNext_132
  refine z_go (fun Q hq => x_istore (dA d_M_scanNext 81 rfl) (by decide) rfl (x_iload (dA d_M_scanNext 82 rfl) rfl hq)) ?_
  refine z_br (fun Q => x_if_eq (dA d_M_scanNext 83 rfl) rfl rs0) (fun c40 => ?_) (fun c40 => ?_)
  · refine z_fgt (ls' := [mR 107, mI v1, mN, mL v3, mN, mI v5, mI s0, mN]) ⟨.inr rfl, .inr rfl, .inl rfl, .inr rfl, .inl rfl, .inr rfl, .inr rfl, .inl rfl, trivial⟩ ?_
    exact S_M_scanNext_222 hd  L rv1 rv5 rs0
  · refine z_go (fun Q hq => x_aload_n (dA d_M_scanNext 84 rfl) rfl rfl (x_getR (dA d_M_scanNext 85 rfl) f_M_82 (L.sh (x := (12, 66)) rfl) (by decide) (by decide) rfl (L.rf 132 rfl) (x_iload (dA d_M_scanNext 86 rfl) rfl hq))) ?_
    refine z_gd (fun g41 => ?_)
    refine z_go (fun Q hq => x_zald (dA d_M_scanNext 87 rfl) (L.sh (x := (102, 8)) rfl) g41.1 g41.2 (by decide) hq) ?_
    refine z_br (fun Q => x_if_eq (dA d_M_scanNext 88 rfl) rfl (L.rg _ _)) (fun c42 => ?_) (fun c42 => ?_)
    · refine z_fgt (ls' := [mR 107, mI v1, mN, mL v3, mN, mI v5, mI s0, mN]) ⟨.inr rfl, .inr rfl, .inl rfl, .inr rfl, .inl rfl, .inr rfl, .inr rfl, .inl rfl, trivial⟩ ?_
      exact S_M_scanNext_222 hd  L rv1 rv5 rs0
    · refine z_go (fun Q hq => x_aload_n (dA d_M_scanNext 89 rfl) rfl rfl (x_getR (dA d_M_scanNext 90 rfl) f_M_109 (L.sh (x := (12, 66)) rfl) (by decide) (by decide) rfl (L.rf 141 rfl) (x_iload_n (dA d_M_scanNext 91 rfl) rfl rfl hq))) ?_
      refine z_gd (fun g43 => ?_)
      refine z_go (fun Q hq => x_iald (dA d_M_scanNext 92 rfl) (L.sh (x := (100, 8)) rfl) g43.1 g43.2 (by decide) (x_iconst (dA d_M_scanNext 93 rfl) hq)) ?_
      refine z_br (fun Q => x_icmp_le (dA d_M_scanNext 94 rfl) rfl (L.rg _ _) (inR_lit (1 : Int) rfl)) (fun c44 => ?_) (fun c44 => ?_)
      · refine z_fgt (ls' := [mR 107, mI v1, mN, mL v3, mN, mI v5, mI s0, mN]) ⟨.inr rfl, .inr rfl, .inl rfl, .inr rfl, .inl rfl, .inr rfl, .inr rfl, .inl rfl, trivial⟩ ?_
        exact S_M_scanNext_222 hd  L rv1 rv5 rs0
      · refine z_go (fun Q hq => x_aload_n (dA d_M_scanNext 95 rfl) rfl rfl (x_aload_n (dA d_M_scanNext 96 rfl) rfl rfl (x_getR (dA d_M_scanNext 97 rfl) f_M_94 (L.sh (x := (12, 66)) rfl) (by decide) (by decide) rfl (L.rf 136 rfl) (x_iload_n (dA d_M_scanNext 98 rfl) rfl rfl (x_iconst (dA d_M_scanNext 99 rfl) hq))))) ?_
        refine z_gd (fun g45 => ?_)
        refine z_go (fun Q hq => x_isub (dA d_M_scanNext 100 rfl) hq) ?_
        refine z_gd (fun g46 => ?_)
        refine z_go (fun Q hq => x_lald (dA d_M_scanNext 101 rfl) (L.sh (x := (103, 800)) rfl) g46.1 g46.2 (by decide) (x_bipush (dA d_M_scanNext 102 rfl) (by decide) hq)) ?_
        refine z_bnd (rest := []) (st1 := fun v => mI v :: []) (S_M_isSign (d := 1) (Nat.le_refl _) L (inR_lit (40 : Int) rfl)) (fun _ hx => absurd hx List.not_mem_nil) (fun _ => rfl) (fun Q' Q => x_callV (as := [mL (mGl h 135 (v2 - (1 : Int)).toNat), mI (40 : Int)]) (rest := []) (k' := k_M_isSign) (dA d_M_scanNext 103 rfl) o_M_isSign lk_M_350 im_M_isSign se_M_isSign rfl (L.sh (x := (12, 66)) rfl) (by decide) (Nat.le_of_ble_eq_true rfl) (Nat.le_trans (Nat.le_of_ble_eq_true rfl) hd) (Nat.le_of_ble_eq_true rfl)) (fun x49 h47 e48 p50 => ?_)
        have L51 := L.ext e48
        refine z_br (fun Q => x_if_eq (dA d_M_scanNext 104 rfl) rfl p50.inR) (fun c52 => ?_) (fun c52 => ?_)
        · refine z_fgt (ls' := [mR 107, mI v1, mN, mL v3, mN, mI v5, mI s0, mN]) ⟨.inr rfl, .inr rfl, .inl rfl, .inr rfl, .inl rfl, .inr rfl, .inr rfl, .inl rfl, trivial⟩ ?_
          exact S_M_scanNext_222 hd  L51 rv1 rv5 rs0
        · refine z_go (fun Q hq => x_aload_n (dA d_M_scanNext 105 rfl) rfl rfl (x_iload_n (dA d_M_scanNext 106 rfl) rfl rfl (x_iload (dA d_M_scanNext 107 rfl) rfl hq))) ?_
          refine z_bnd (rest := []) (st1 := fun v => mI v :: []) (S_M_takeArguments (d := 2) (Nat.le_refl _) L51 rv1 rv5) (fun _ hx => absurd hx List.not_mem_nil) (fun _ => rfl) (fun Q' Q => x_callV (as := [mI v1, mI v5]) (rest := []) (k' := k_M_takeArguments) (dA d_M_scanNext 108 rfl) o_M_takeArguments lk_M_401 im_M_takeArguments se_M_takeArguments rfl (L51.sh (x := (12, 66)) rfl) (by decide) (Nat.le_of_ble_eq_true rfl) (Nat.le_trans (Nat.le_of_ble_eq_true rfl) hd) (Nat.le_of_ble_eq_true rfl)) (fun x55 h53 e54 p56 => ?_)
          have L57 := L51.ext e54
          refine z_go (fun Q hq => x_istore (dA d_M_scanNext 109 rfl) (by decide) rfl (x_iload (dA d_M_scanNext 110 rfl) rfl hq)) ?_
          refine z_br (fun Q => x_if_lt (dA d_M_scanNext 111 rfl) rfl p56) (fun c58 => ?_) (fun c58 => ?_)
          · refine z_fgt (ls' := [mN, mN, mN, mN, mN, mN, mN, mN]) ⟨.inl rfl, .inl rfl, .inl rfl, .inl rfl, .inl rfl, .inl rfl, .inl rfl, .inl rfl, trivial⟩ ?_
            exact S_M_scanNext_219 hd  L57 
          · refine z_go (fun Q hq => x_aload_n (dA d_M_scanNext 112 rfl) rfl rfl (x_iload_n (dA d_M_scanNext 113 rfl) rfl rfl (x_iload (dA d_M_scanNext 114 rfl) rfl (x_iload (dA d_M_scanNext 115 rfl) rfl (x_lload_n (dA d_M_scanNext 116 rfl) rfl rfl hq))))) ?_
            refine z_bnd (rest := [mI x55, mI v5, mI v1, mR 107]) (st1 := fun v => mI v :: [mI x55, mI v5, mI v1, mR 107]) (S_M_hidesOf (d := 0) (Nat.le_refl _) L57 ) (fun _ hx => absurd hx List.not_mem_nil) (fun _ => rfl) (fun Q' Q => x_callS (as := [mL v3]) (rest := [mI x55, mI v5, mI v1, mR 107]) (k' := k_M_hidesOf) (dA d_M_scanNext 117 rfl) o_M_hidesOf lk_M_398 st_M_hidesOf (Nat.le_of_ble_eq_true rfl) (Nat.le_trans (Nat.le_of_ble_eq_true rfl) hd) (Nat.le_of_ble_eq_true rfl)) (fun x61 h59 e60 p62 => ?_)
            have L63 := L57.ext e60
            refine z_go (fun Q hq => x_aload_n (dA d_M_scanNext 118 rfl) rfl rfl (x_getR (dA d_M_scanNext 119 rfl) f_M_94 (L63.sh (x := (12, 66)) rfl) (by decide) (by decide) rfl (L63.rf 136 rfl) (x_bipush (dA d_M_scanNext 120 rfl) (by decide) (x_iload_n (dA d_M_scanNext 121 rfl) rfl rfl hq)))) ?_
            refine z_gd (fun g64 => ?_)
            refine z_go (fun Q hq => x_imul (dA d_M_scanNext 122 rfl) (x_iload (dA d_M_scanNext 123 rfl) rfl hq)) ?_
            refine z_gd (fun g65 => ?_)
            refine z_go (fun Q hq => x_iadd (dA d_M_scanNext 124 rfl) hq) ?_
            refine z_gd (fun g66 => ?_)
            refine z_go (fun Q hq => x_lald (dA d_M_scanNext 125 rfl) (L63.sh (x := (103, 800)) rfl) g66.1 g66.2 (by decide) hq) ?_
            refine z_bnd (rest := [mI x61, mI x55, mI v5, mI v1, mR 107]) (st1 := fun v => mI v :: [mI x61, mI x55, mI v5, mI v1, mR 107]) (S_M_hidesOf (d := 0) (Nat.le_refl _) L63 ) (fun _ hx => absurd hx List.not_mem_nil) (fun _ => rfl) (fun Q' Q => x_callS (as := [mL (mGl h59 135 (((100 : Int) * v1) + x55).toNat)]) (rest := [mI x61, mI x55, mI v5, mI v1, mR 107]) (k' := k_M_hidesOf) (dA d_M_scanNext 126 rfl) o_M_hidesOf lk_M_398 st_M_hidesOf (Nat.le_of_ble_eq_true rfl) (Nat.le_trans (Nat.le_of_ble_eq_true rfl) hd) (Nat.le_of_ble_eq_true rfl)) (fun x69 h67 e68 p70 => ?_)
            have L71 := L63.ext e68
            refine z_go (fun Q hq => x_andI (dA d_M_scanNext 127 rfl) hq) ?_
            refine z_bnd (rest := []) (st1 := fun _ => []) (S_M_replace (d := 2) (Nat.le_refl _) L71 rv1 rv5 p56 (inR_and _ _)) (fun _ hx => absurd hx List.not_mem_nil) (fun _ => rfl) (fun Q' Q => x_callV (as := [mI v1, mI v5, mI x55, mI (iAnd x61 x69)]) (rest := []) (k' := k_M_replace) (dA d_M_scanNext 128 rfl) o_M_replace lk_M_404 im_M_replace se_M_replace rfl (L71.sh (x := (12, 66)) rfl) (by decide) (Nat.le_of_ble_eq_true rfl) (Nat.le_trans (Nat.le_of_ble_eq_true rfl) hd) (Nat.le_of_ble_eq_true rfl)) (fun x74 h72 e73 p75 => ?_)
            have L76 := L71.ext e73
            refine z_fgt (ls' := [mN, mN, mN, mN, mN, mN, mN, mN]) ⟨.inl rfl, .inl rfl, .inl rfl, .inl rfl, .inl rfl, .inl rfl, .inl rfl, .inl rfl, trivial⟩ ?_
            exact S_M_scanNext_219 hd  L76 
noncomputable def F_M_scanNext_131 (v1 : Int) (v2 : Int) (v3 : Int64) (v5 : Int) (h : MH) : RS Int := F_M_scanNext_132 v1 v2 v3 v5 (0 : Int) h
theorem S_M_scanNext_131 {d : Nat} (hd : 3 ≤ d) {v1 : Int} {v2 : Int} {v3 : Int64} {v5 : Int} {h : MH} (L : LayC h) (rv1 : inR v1) (rv2 : inR v2) (rv5 : inR v5) : OK d k_M_scanNext 131 [mR 107, mI v1, mI v2, mL v3, mN, mI v5, mN, mN] [] h cI p01 (F_M_scanNext_131  v1 v2 v3 v5 h) := by
  unfold F_M_scanNext_131
  refine z_go (fun Q hq => x_iconst (dA d_M_scanNext 80 rfl) hq) ?_
  exact S_M_scanNext_132 hd  L rv1 rv2 rv5 (inR_lit (0 : Int) rfl)
noncomputable def F_M_scanNext_86 (v1 : Int) (h : MH) : RS Int := if v1 ≤ 0 then some (.inl (0 : Int), h) else some (.inl (1 : Int), h)
theorem S_M_scanNext_86 {d : Nat} (hd : 3 ≤ d) {v1 : Int} {h : MH} (L : LayC h) (rv1 : inR v1) : OK d k_M_scanNext 86 [mN, mI v1, mN, mN, mN, mN, mN, mN] [] h cI p01 (F_M_scanNext_86  v1 h) := by
  unfold F_M_scanNext_86
  refine z_go (fun Q hq => x_iload_n (dA d_M_scanNext 54 rfl) rfl rfl hq) ?_
  refine z_br (fun Q => x_if_le (dA d_M_scanNext 55 rfl) rfl rv1) (fun c77 => ?_) (fun c77 => ?_)
  · refine z_go (fun Q hq => x_iconst (dA d_M_scanNext 58 rfl) hq) ?_
    exact z_retz (dA d_M_scanNext 59 rfl) rfl (.inl rfl)
  · refine z_go (fun Q hq => x_iconst (dA d_M_scanNext 56 rfl) (x_goto (dA d_M_scanNext 57 rfl) rfl hq)) ?_
    exact z_retz (dA d_M_scanNext 59 rfl) rfl (.inr rfl)
noncomputable def F_M_scanNext_48_b (G48 : Int → Int → MH → RS Int) (v1 : Int) (v3 : Int) (h : MH) : RS Int := gd (0 ≤ v1 ∧ v1 < 8) (if (mGi h 141 v1.toNat) ≤ v3 then F_M_scanNext_86 v1 h else if v1 ≤ 0 then F_M_scanNext_86 v1 h else gd (inR (v1 - (1 : Int))) (gd (inR ((100 : Int) * v1)) (gd (inR (((100 : Int) * v1) + v3)) (gd (0 ≤ (((100 : Int) * v1) + v3) ∧ (((100 : Int) * v1) + v3) < 800) (bnd (F_M_append (v1 - (1 : Int)) (mGl h 136 (((100 : Int) * v1) + v3).toNat) h) fun x87 h85 => gd (inR (v3 + (1 : Int))) (G48 v1 (v3 + (1 : Int)) h85))))))
theorem S_M_scanNext_48_b {d : Nat} (hd : 3 ≤ d) {G48 : Int → Int → MH → RS Int} (hG48 : ∀ (v1 : Int) (v3 : Int) (h : MH), LayC h → inR v1 → inR v3 → OK d k_M_scanNext 48 [mR 107, mI v1, mN, mI v3, mN, mN, mN, mN] [] h cI p01 (G48 v1 v3 h)) {v1 : Int} {v3 : Int} {h : MH} (L : LayC h) (rv1 : inR v1) (rv3 : inR v3) : OK d k_M_scanNext 48 [mR 107, mI v1, mN, mI v3, mN, mN, mN, mN] [] h cI p01 (F_M_scanNext_48_b G48 v1 v3 h) := by
  unfold F_M_scanNext_48_b
  refine z_go (fun Q hq => x_iload_n (dA d_M_scanNext 31 rfl) rfl rfl (x_aload_n (dA d_M_scanNext 32 rfl) rfl rfl (x_getR (dA d_M_scanNext 33 rfl) f_M_112 (L.sh (x := (12, 66)) rfl) (by decide) (by decide) rfl (L.rf 142 rfl) (x_iload_n (dA d_M_scanNext 34 rfl) rfl rfl hq)))) ?_
  refine z_gd (fun g78 => ?_)
  refine z_go (fun Q hq => x_iald (dA d_M_scanNext 35 rfl) (L.sh (x := (100, 8)) rfl) g78.1 g78.2 (by decide) hq) ?_
  refine z_br (fun Q => x_icmp_ge (dA d_M_scanNext 36 rfl) rfl rv3 (L.rg _ _)) (fun c79 => ?_) (fun c79 => ?_)
  · refine z_fgt (ls' := [mN, mI v1, mN, mN, mN, mN, mN, mN]) ⟨.inl rfl, .inr rfl, .inl rfl, .inl rfl, .inl rfl, .inl rfl, .inl rfl, .inl rfl, trivial⟩ ?_
    exact S_M_scanNext_86 hd  L rv1
  · refine z_go (fun Q hq => x_iload_n (dA d_M_scanNext 37 rfl) rfl rfl hq) ?_
    refine z_br (fun Q => x_if_le (dA d_M_scanNext 38 rfl) rfl rv1) (fun c80 => ?_) (fun c80 => ?_)
    · refine z_fgt (ls' := [mN, mI v1, mN, mN, mN, mN, mN, mN]) ⟨.inl rfl, .inr rfl, .inl rfl, .inl rfl, .inl rfl, .inl rfl, .inl rfl, .inl rfl, trivial⟩ ?_
      exact S_M_scanNext_86 hd  L rv1
    · refine z_go (fun Q hq => x_aload_n (dA d_M_scanNext 39 rfl) rfl rfl (x_iload_n (dA d_M_scanNext 40 rfl) rfl rfl (x_iconst (dA d_M_scanNext 41 rfl) hq))) ?_
      refine z_gd (fun g81 => ?_)
      refine z_go (fun Q hq => x_isub (dA d_M_scanNext 42 rfl) (x_aload_n (dA d_M_scanNext 43 rfl) rfl rfl (x_getR (dA d_M_scanNext 44 rfl) f_M_97 (L.sh (x := (12, 66)) rfl) (by decide) (by decide) rfl (L.rf 137 rfl) (x_bipush (dA d_M_scanNext 45 rfl) (by decide) (x_iload_n (dA d_M_scanNext 46 rfl) rfl rfl hq))))) ?_
      refine z_gd (fun g82 => ?_)
      refine z_go (fun Q hq => x_imul (dA d_M_scanNext 47 rfl) (x_iload_n (dA d_M_scanNext 48 rfl) rfl rfl hq)) ?_
      refine z_gd (fun g83 => ?_)
      refine z_go (fun Q hq => x_iadd (dA d_M_scanNext 49 rfl) hq) ?_
      refine z_gd (fun g84 => ?_)
      refine z_go (fun Q hq => x_lald (dA d_M_scanNext 50 rfl) (L.sh (x := (103, 800)) rfl) g84.1 g84.2 (by decide) hq) ?_
      refine z_bnd (rest := []) (st1 := fun _ => []) (S_M_append (d := 0) (Nat.le_refl _) L g81) (fun _ hx => absurd hx List.not_mem_nil) (fun _ => rfl) (fun Q' Q => x_callV (as := [mI (v1 - (1 : Int)), mL (mGl h 136 (((100 : Int) * v1) + v3).toNat)]) (rest := []) (k' := k_M_append) (dA d_M_scanNext 51 rfl) o_M_append lk_M_394 im_M_append se_M_append rfl (L.sh (x := (12, 66)) rfl) (by decide) (Nat.le_of_ble_eq_true rfl) (Nat.le_trans (Nat.le_of_ble_eq_true rfl) hd) (Nat.le_of_ble_eq_true rfl)) (fun x87 h85 e86 p88 => ?_)
      have L89 := L.ext e86
      refine z_gd (fun g90 => ?_)
      refine z_go (fun Q hq => x_iinc (dA d_M_scanNext 52 rfl) rfl (by decide) rfl (x_goto (dA d_M_scanNext 53 rfl) rfl hq)) ?_
      exact hG48 v1 (v3 + (1 : Int)) h85 L89 rv1 g90
noncomputable def F_M_scanNext_48 (v1 : Int) (v3 : Int) (h : MH) : RS Int := itr (fun self (q : Int × Int × MH) => F_M_scanNext_48_b (fun v1 v3 h => self (v1, v3, h)) q.1 q.2.1 q.2.2) FU (v1, v3, h)
theorem S_M_scanNext_48 {d : Nat} (hd : 3 ≤ d) {v1 : Int} {v3 : Int} {h : MH} (L : LayC h) (rv1 : inR v1) (rv3 : inR v3) : OK d k_M_scanNext 48 [mR 107, mI v1, mN, mI v3, mN, mN, mN, mN] [] h cI p01 (F_M_scanNext_48  v1 v3 h) := by
  unfold F_M_scanNext_48
  refine z_itr (P := fun q : Int × Int × MH => LayC q.2.2 ∧ inR q.1 ∧ inR q.2.1 ∧ True) (ls := fun q : Int × Int × MH => [mR 107, mI q.1, mN, mI q.2.1, mN, mN, mN, mN]) (hp := fun q : Int × Int × MH => q.2.2) (fun self hs q hq => ?_) FU (v1, v3, h) ⟨L, rv1, rv3, trivial⟩
  exact S_M_scanNext_48_b hd (fun v1 v3 h L rv1 rv3 => hs (v1, v3, h) ⟨L, rv1, rv3, trivial⟩) hq.1 hq.2.1 hq.2.2.1
noncomputable def F_M_scanNext_42 (v1 : Int) (s1 : Int) (s2 : Int) (h : MH) : RS Int := gd (inR (s1 - s2)) (sto (mPi h 107 48 (s1 - s2)) fun h92 => F_M_scanNext_48 v1 (0 : Int) h92)
theorem S_M_scanNext_42 {d : Nat} (hd : 3 ≤ d) {v1 : Int} {s1 : Int} {s2 : Int} {h : MH} (L : LayC h) (rv1 : inR v1) (rs1 : inR s1) (rs2 : inR s2) : OK d k_M_scanNext 42 [mR 107, mI v1, mN, mN, mN, mN, mN, mN] [mI s2, mI s1, mR 107] h cI p01 (F_M_scanNext_42  v1 s1 s2 h) := by
  unfold F_M_scanNext_42
  refine z_gd (fun g91 => ?_)
  refine z_go (fun Q hq => x_isub (dA d_M_scanNext 27 rfl) hq) ?_
  refine z_sto (Ext.pi (L.sh (x := (12, 66)) rfl) (by decide) g91) (fun Q hq => x_putI (dA d_M_scanNext 28 rfl) p_M_378 (L.sh (x := (12, 66)) rfl) (by decide) cl_M rfl hq) (fun h92 e93 => ?_)
  have L94 := L.ext e93
  refine z_go (fun Q hq => x_iconst (dA d_M_scanNext 29 rfl) (x_istore_n (dA d_M_scanNext 30 rfl) rfl (by decide) rfl hq)) ?_
  exact S_M_scanNext_48 hd  L94 rv1 (inR_lit (0 : Int) rfl)
noncomputable def F_M_scanNext (h : MH) : RS Int := gd (inR ((100 : Int) * (mGi h 107 48))) (gd (0 ≤ (mGi h 107 48) ∧ (mGi h 107 48) < 8) (gd (inR (((100 : Int) * (mGi h 107 48)) + (mGi h 140 (mGi h 107 48).toNat))) (gd (inR ((((100 : Int) * (mGi h 107 48)) + (mGi h 140 (mGi h 107 48).toNat)) - (1 : Int))) (if (mGi h 140 (mGi h 107 48).toNat) = 0 then if (mGi h 107 48) ≤ 0 then F_M_scanNext_42 (mGi h 107 48) (mGi h 107 48) (0 : Int) h else F_M_scanNext_42 (mGi h 107 48) (mGi h 107 48) (1 : Int) h else gd (0 ≤ ((((100 : Int) * (mGi h 107 48)) + (mGi h 140 (mGi h 107 48).toNat)) - (1 : Int)) ∧ ((((100 : Int) * (mGi h 107 48)) + (mGi h 140 (mGi h 107 48).toNat)) - (1 : Int)) < 800) (bnd (F_M_nameOf (mGl h 135 ((((100 : Int) * (mGi h 107 48)) + (mGi h 140 (mGi h 107 48).toNat)) - (1 : Int)).toNat) h) fun x104 h102 => if x104 < 0 then F_M_scanNext_131 (mGi h 107 48) ((((100 : Int) * (mGi h 107 48)) + (mGi h 140 (mGi h 107 48).toNat)) - (1 : Int)) (mGl h 135 ((((100 : Int) * (mGi h 107 48)) + (mGi h 140 (mGi h 107 48).toNat)) - (1 : Int)).toNat) x104 h102 else bnd (F_M_hidesOf (mGl h 135 ((((100 : Int) * (mGi h 107 48)) + (mGi h 140 (mGi h 107 48).toNat)) - (1 : Int)).toNat) h102) fun x110 h108 => if (iAnd (iShr x110 x104) (1 : Int)) = 0 then F_M_scanNext_132 (mGi h 107 48) ((((100 : Int) * (mGi h 107 48)) + (mGi h 140 (mGi h 107 48).toNat)) - (1 : Int)) (mGl h 135 ((((100 : Int) * (mGi h 107 48)) + (mGi h 140 (mGi h 107 48).toNat)) - (1 : Int)).toNat) x104 (1 : Int) h108 else F_M_scanNext_131 (mGi h 107 48) ((((100 : Int) * (mGi h 107 48)) + (mGi h 140 (mGi h 107 48).toNat)) - (1 : Int)) (mGl h 135 ((((100 : Int) * (mGi h 107 48)) + (mGi h 140 (mGi h 107 48).toNat)) - (1 : Int)).toNat) x104 h108)))))
theorem S_M_scanNext {d : Nat} (hd : 3 ≤ d) {h : MH} (L : LayC h) : OK d k_M_scanNext 0 [mR 107, mN, mN, mN, mN, mN, mN, mN] [] h cI p01 (F_M_scanNext   h) := by
  unfold F_M_scanNext
  refine z_go (fun Q hq => x_aload_n (dA d_M_scanNext 0 rfl) rfl rfl (x_getI (dA d_M_scanNext 1 rfl) f_M_378 (L.sh (x := (12, 66)) rfl) (by decide) (by decide) rfl (x_istore_n (dA d_M_scanNext 2 rfl) rfl (by decide) rfl (x_bipush (dA d_M_scanNext 3 rfl) (by decide) (x_iload_n (dA d_M_scanNext 4 rfl) rfl rfl hq))))) ?_
  refine z_gd (fun g95 => ?_)
  refine z_go (fun Q hq => x_imul (dA d_M_scanNext 5 rfl) (x_aload_n (dA d_M_scanNext 6 rfl) rfl rfl (x_getR (dA d_M_scanNext 7 rfl) f_M_109 (L.sh (x := (12, 66)) rfl) (by decide) (by decide) rfl (L.rf 141 rfl) (x_iload_n (dA d_M_scanNext 8 rfl) rfl rfl hq)))) ?_
  refine z_gd (fun g96 => ?_)
  refine z_go (fun Q hq => x_iald (dA d_M_scanNext 9 rfl) (L.sh (x := (100, 8)) rfl) g96.1 g96.2 (by decide) hq) ?_
  refine z_gd (fun g97 => ?_)
  refine z_go (fun Q hq => x_iadd (dA d_M_scanNext 10 rfl) (x_iconst (dA d_M_scanNext 11 rfl) hq)) ?_
  refine z_gd (fun g98 => ?_)
  refine z_go (fun Q hq => x_isub (dA d_M_scanNext 12 rfl) (x_istore_n (dA d_M_scanNext 13 rfl) rfl (by decide) rfl (x_aload_n (dA d_M_scanNext 14 rfl) rfl rfl (x_getR (dA d_M_scanNext 15 rfl) f_M_109 (L.sh (x := (12, 66)) rfl) (by decide) (by decide) rfl (L.rf 141 rfl) (x_iload_n (dA d_M_scanNext 16 rfl) rfl rfl (x_iald (dA d_M_scanNext 17 rfl) (L.sh (x := (100, 8)) rfl) g96.1 g96.2 (by decide) hq)))))) ?_
  refine z_brn (fun Q => x_if_ne (dA d_M_scanNext 18 rfl) rfl (L.rg _ _)) (fun c99 => ?_) (fun c99 => ?_)
  · refine z_go (fun Q hq => x_aload_n (dA d_M_scanNext 19 rfl) rfl rfl (x_dup (dA d_M_scanNext 20 rfl) rfl (x_getI (dA d_M_scanNext 21 rfl) f_M_378 (L.sh (x := (12, 66)) rfl) (by decide) (by decide) rfl (x_iload_n (dA d_M_scanNext 22 rfl) rfl rfl hq)))) ?_
    refine z_br (fun Q => x_if_le (dA d_M_scanNext 23 rfl) rfl (L.rg _ _)) (fun c100 => ?_) (fun c100 => ?_)
    · refine z_go (fun Q hq => x_iconst (dA d_M_scanNext 26 rfl) hq) ?_
      refine z_fgt (ls' := [mR 107, mI (mGi h 107 48), mN, mN, mN, mN, mN, mN]) ⟨.inr rfl, .inr rfl, .inl rfl, .inl rfl, .inl rfl, .inl rfl, .inl rfl, .inl rfl, trivial⟩ ?_
      exact S_M_scanNext_42 hd  L (L.rg _ _) (L.rg _ _) (inR_lit (0 : Int) rfl)
    · refine z_go (fun Q hq => x_iconst (dA d_M_scanNext 24 rfl) (x_goto (dA d_M_scanNext 25 rfl) rfl hq)) ?_
      refine z_fgt (ls' := [mR 107, mI (mGi h 107 48), mN, mN, mN, mN, mN, mN]) ⟨.inr rfl, .inr rfl, .inl rfl, .inl rfl, .inl rfl, .inl rfl, .inl rfl, .inl rfl, trivial⟩ ?_
      exact S_M_scanNext_42 hd  L (L.rg _ _) (L.rg _ _) (inR_lit (1 : Int) rfl)
  · refine z_go (fun Q hq => x_aload_n (dA d_M_scanNext 60 rfl) rfl rfl (x_getR (dA d_M_scanNext 61 rfl) f_M_94 (L.sh (x := (12, 66)) rfl) (by decide) (by decide) rfl (L.rf 136 rfl) (x_iload_n (dA d_M_scanNext 62 rfl) rfl rfl hq))) ?_
    refine z_gd (fun g101 => ?_)
    refine z_go (fun Q hq => x_lald (dA d_M_scanNext 63 rfl) (L.sh (x := (103, 800)) rfl) g101.1 g101.2 (by decide) (x_lstore_n (dA d_M_scanNext 64 rfl) rfl (by decide) rfl (x_aload_n (dA d_M_scanNext 65 rfl) rfl rfl (x_lload_n (dA d_M_scanNext 66 rfl) rfl rfl hq)))) ?_
    refine z_bnd (rest := []) (st1 := fun v => mI v :: []) (S_M_nameOf (d := 2) (Nat.le_refl _) L ) (fun _ hx => absurd hx List.not_mem_nil) (fun _ => rfl) (fun Q' Q => x_callV (as := [mL (mGl h 135 ((((100 : Int) * (mGi h 107 48)) + (mGi h 140 (mGi h 107 48).toNat)) - (1 : Int)).toNat)]) (rest := []) (k' := k_M_nameOf) (dA d_M_scanNext 67 rfl) o_M_nameOf lk_M_372 im_M_nameOf se_M_nameOf rfl (L.sh (x := (12, 66)) rfl) (by decide) (Nat.le_of_ble_eq_true rfl) (Nat.le_trans (Nat.le_of_ble_eq_true rfl) hd) (Nat.le_of_ble_eq_true rfl)) (fun x104 h102 e103 p105 => ?_)
    have L106 := L.ext e103
    refine z_go (fun Q hq => x_istore (dA d_M_scanNext 68 rfl) (by decide) rfl (x_iload (dA d_M_scanNext 69 rfl) rfl hq)) ?_
    refine z_br (fun Q => x_if_lt (dA d_M_scanNext 70 rfl) rfl p105) (fun c107 => ?_) (fun c107 => ?_)
    · exact S_M_scanNext_131 hd  L106 (L.rg _ _) g98 p105
    · refine z_go (fun Q hq => x_lload_n (dA d_M_scanNext 71 rfl) rfl rfl hq) ?_
      refine z_bnd (rest := []) (st1 := fun v => mI v :: []) (S_M_hidesOf (d := 0) (Nat.le_refl _) L106 ) (fun _ hx => absurd hx List.not_mem_nil) (fun _ => rfl) (fun Q' Q => x_callS (as := [mL (mGl h 135 ((((100 : Int) * (mGi h 107 48)) + (mGi h 140 (mGi h 107 48).toNat)) - (1 : Int)).toNat)]) (rest := []) (k' := k_M_hidesOf) (dA d_M_scanNext 72 rfl) o_M_hidesOf lk_M_398 st_M_hidesOf (Nat.le_of_ble_eq_true rfl) (Nat.le_trans (Nat.le_of_ble_eq_true rfl) hd) (Nat.le_of_ble_eq_true rfl)) (fun x110 h108 e109 p111 => ?_)
      have L112 := L106.ext e109
      refine z_go (fun Q hq => x_iload (dA d_M_scanNext 73 rfl) rfl (x_shrI (dA d_M_scanNext 74 rfl) (x_iconst (dA d_M_scanNext 75 rfl) (x_andI (dA d_M_scanNext 76 rfl) hq)))) ?_
      refine z_brn (fun Q => x_if_ne (dA d_M_scanNext 77 rfl) rfl (inR_and _ _)) (fun c113 => ?_) (fun c113 => ?_)
      · refine z_go (fun Q hq => x_iconst (dA d_M_scanNext 78 rfl) (x_goto (dA d_M_scanNext 79 rfl) rfl hq)) ?_
        exact S_M_scanNext_132 hd  L112 (L.rg _ _) g98 p105 (inR_lit (1 : Int) rfl)
      · exact S_M_scanNext_131 hd  L112 (L.rg _ _) g98 p105
/-! TwoMillsModel.appendString(III)V -/
noncomputable def F_M_appendString_99 (G81 : Int → Int → Int → MH → RS Unit) (v2 : Int) (v3 : Int) (v5 : Int) (h : MH) : RS Unit := gd (0 ≤ v5 ∧ v5 < 800) (bnd (F_M_copyText (mGl h 137 v5.toNat) h) fun x4 h2 => gd (inR (v5 + (1 : Int))) (G81 v2 v3 (v5 + (1 : Int)) h2))
theorem S_M_appendString_99 {d : Nat} (hd : 3 ≤ d) {G81 : Int → Int → Int → MH → RS Unit} (hG81 : ∀ (v2 : Int) (v3 : Int) (v5 : Int) (h : MH), LayC h → inR v2 → inR v3 → inR v5 → OK d k_M_appendString 81 [mR 107, mN, mI v2, mI v3, mN, mI v5] [] h cV pT (G81 v2 v3 v5 h)) {v2 : Int} {v3 : Int} {v5 : Int} {h : MH} (L : LayC h) (rv2 : inR v2) (rv3 : inR v3) (rv5 : inR v5) : OK d k_M_appendString 99 [mR 107, mN, mI v2, mI v3, mN, mI v5] [] h cV pT (F_M_appendString_99 G81 v2 v3 v5 h) := by
  unfold F_M_appendString_99
  refine z_go (fun Q hq => x_aload_n (dA d_M_appendString 54 rfl) rfl rfl (x_aload_n (dA d_M_appendString 55 rfl) rfl rfl (x_getR (dA d_M_appendString 56 rfl) f_M_100 (L.sh (x := (12, 66)) rfl) (by decide) (by decide) rfl (L.rf 138 rfl) (x_iload (dA d_M_appendString 57 rfl) rfl hq)))) ?_
  refine z_gd (fun g1 => ?_)
  refine z_go (fun Q hq => x_lald (dA d_M_appendString 58 rfl) (L.sh (x := (103, 800)) rfl) g1.1 g1.2 (by decide) hq) ?_
  refine z_bnd (rest := []) (st1 := fun _ => []) (S_M_copyText (d := 1) (Nat.le_refl _) L ) (fun _ hx => absurd hx List.not_mem_nil) (fun _ => rfl) (fun Q' Q => x_callV (as := [mL (mGl h 137 v5.toNat)]) (rest := []) (k' := k_M_copyText) (dA d_M_appendString 59 rfl) o_M_copyText lk_M_434 im_M_copyText se_M_copyText rfl (L.sh (x := (12, 66)) rfl) (by decide) (Nat.le_of_ble_eq_true rfl) (Nat.le_trans (Nat.le_of_ble_eq_true rfl) hd) (Nat.le_of_ble_eq_true rfl)) (fun x4 h2 e3 p5 => ?_)
  have L6 := L.ext e3
  refine z_gd (fun g7 => ?_)
  refine z_go (fun Q hq => x_iinc (dA d_M_appendString 60 rfl) rfl (by decide) rfl (x_goto (dA d_M_appendString 61 rfl) rfl hq)) ?_
  exact hG81 v2 v3 (v5 + (1 : Int)) h2 L6 rv2 rv3 g7
noncomputable def F_M_appendString_81_b (G81 : Int → Int → Int → MH → RS Unit) (v2 : Int) (v3 : Int) (v5 : Int) (h : MH) : RS Unit := if v3 ≤ v5 then bnd (F_M_addSign (34 : Int) h) fun x11 h9 => some (.inl (), h9) else if v5 ≤ v2 then F_M_appendString_99 G81 v2 v3 v5 h else bnd (F_M_addSign (32 : Int) h) fun x17 h15 => F_M_appendString_99 G81 v2 v3 v5 h15
theorem S_M_appendString_81_b {d : Nat} (hd : 3 ≤ d) {G81 : Int → Int → Int → MH → RS Unit} (hG81 : ∀ (v2 : Int) (v3 : Int) (v5 : Int) (h : MH), LayC h → inR v2 → inR v3 → inR v5 → OK d k_M_appendString 81 [mR 107, mN, mI v2, mI v3, mN, mI v5] [] h cV pT (G81 v2 v3 v5 h)) {v2 : Int} {v3 : Int} {v5 : Int} {h : MH} (L : LayC h) (rv2 : inR v2) (rv3 : inR v3) (rv5 : inR v5) : OK d k_M_appendString 81 [mR 107, mN, mI v2, mI v3, mN, mI v5] [] h cV pT (F_M_appendString_81_b G81 v2 v3 v5 h) := by
  unfold F_M_appendString_81_b
  refine z_go (fun Q hq => x_iload (dA d_M_appendString 45 rfl) rfl (x_iload_n (dA d_M_appendString 46 rfl) rfl rfl hq)) ?_
  refine z_br (fun Q => x_icmp_ge (dA d_M_appendString 47 rfl) rfl rv5 rv3) (fun c8 => ?_) (fun c8 => ?_)
  · refine z_go (fun Q hq => x_aload_n (dA d_M_appendString 62 rfl) rfl rfl (x_bipush (dA d_M_appendString 63 rfl) (by decide) hq)) ?_
    refine z_bnd (rest := []) (st1 := fun _ => []) (S_M_addSign (d := 0) (Nat.le_refl _) L (inR_lit (34 : Int) rfl)) (fun _ hx => absurd hx List.not_mem_nil) (fun _ => rfl) (fun Q' Q => x_callV (as := [mI (34 : Int)]) (rest := []) (k' := k_M_addSign) (dA d_M_appendString 64 rfl) o_M_addSign lk_M_425 im_M_addSign se_M_addSign rfl (L.sh (x := (12, 66)) rfl) (by decide) (Nat.le_of_ble_eq_true rfl) (Nat.le_trans (Nat.le_of_ble_eq_true rfl) hd) (Nat.le_of_ble_eq_true rfl)) (fun x11 h9 e10 p12 => ?_)
    have L13 := L.ext e10
    exact z_retv (dA d_M_appendString 65 rfl) rfl
  · refine z_go (fun Q hq => x_iload (dA d_M_appendString 48 rfl) rfl (x_iload_n (dA d_M_appendString 49 rfl) rfl rfl hq)) ?_
    refine z_br (fun Q => x_icmp_le (dA d_M_appendString 50 rfl) rfl rv5 rv2) (fun c14 => ?_) (fun c14 => ?_)
    · exact S_M_appendString_99 hd hG81 L rv2 rv3 rv5
    · refine z_go (fun Q hq => x_aload_n (dA d_M_appendString 51 rfl) rfl rfl (x_bipush (dA d_M_appendString 52 rfl) (by decide) hq)) ?_
      refine z_bnd (rest := []) (st1 := fun _ => []) (S_M_addSign (d := 0) (Nat.le_refl _) L (inR_lit (32 : Int) rfl)) (fun _ hx => absurd hx List.not_mem_nil) (fun _ => rfl) (fun Q' Q => x_callV (as := [mI (32 : Int)]) (rest := []) (k' := k_M_addSign) (dA d_M_appendString 53 rfl) o_M_addSign lk_M_425 im_M_addSign se_M_addSign rfl (L.sh (x := (12, 66)) rfl) (by decide) (Nat.le_of_ble_eq_true rfl) (Nat.le_trans (Nat.le_of_ble_eq_true rfl) hd) (Nat.le_of_ble_eq_true rfl)) (fun x17 h15 e16 p18 => ?_)
      have L19 := L.ext e16
      exact S_M_appendString_99 hd hG81 L19 rv2 rv3 rv5
noncomputable def F_M_appendString_81 (v2 : Int) (v3 : Int) (v5 : Int) (h : MH) : RS Unit := itr (fun self (q : Int × Int × Int × MH) => F_M_appendString_81_b (fun v2 v3 v5 h => self (v2, v3, v5, h)) q.1 q.2.1 q.2.2.1 q.2.2.2) FU (v2, v3, v5, h)
theorem S_M_appendString_81 {d : Nat} (hd : 3 ≤ d) {v2 : Int} {v3 : Int} {v5 : Int} {h : MH} (L : LayC h) (rv2 : inR v2) (rv3 : inR v3) (rv5 : inR v5) : OK d k_M_appendString 81 [mR 107, mN, mI v2, mI v3, mN, mI v5] [] h cV pT (F_M_appendString_81  v2 v3 v5 h) := by
  unfold F_M_appendString_81
  refine z_itr (P := fun q : Int × Int × Int × MH => LayC q.2.2.2 ∧ inR q.1 ∧ inR q.2.1 ∧ inR q.2.2.1 ∧ True) (ls := fun q : Int × Int × Int × MH => [mR 107, mN, mI q.1, mI q.2.1, mN, mI q.2.2.1]) (hp := fun q : Int × Int × Int × MH => q.2.2.2) (fun self hs q hq => ?_) FU (v2, v3, v5, h) ⟨L, rv2, rv3, rv5, trivial⟩
  exact S_M_appendString_81_b hd (fun v2 v3 v5 h L rv2 rv3 rv5 => hs (v2, v3, v5, h) ⟨L, rv2, rv3, rv5, trivial⟩) hq.1 hq.2.1 hq.2.2.1 hq.2.2.2.1
noncomputable def F_M_appendString_19_b (G19 : Int → Int → Int → Int → Int → MH → RS Unit) (v1 : Int) (v2 : Int) (v3 : Int) (v4 : Int) (v5 : Int) (h : MH) : RS Unit := if v3 ≤ v5 then bnd (F_M_makes v4 h) fun x23 h21 => if x23 = 0 then some (.inl (), h21) else bnd (F_M_token (mGi h21 107 24) v4 (3 : Int) (0 : Int) h21) fun x29 h27 => bnd (F_M_append v1 x29 h27) fun x34 h32 => bnd (F_M_addSign (34 : Int) h32) fun x39 h37 => F_M_appendString_81 v2 v3 v2 h37 else gd (0 ≤ v5 ∧ v5 < 800) (bnd (F_M_sizeOf (mGl h 137 v5.toNat) h) fun x45 h43 => gd (inR (v4 + x45)) (gd (inR (v5 + (1 : Int))) (G19 v1 v2 v3 (v4 + x45) (v5 + (1 : Int)) h43)))
theorem S_M_appendString_19_b {d : Nat} (hd : 3 ≤ d) {G19 : Int → Int → Int → Int → Int → MH → RS Unit} (hG19 : ∀ (v1 : Int) (v2 : Int) (v3 : Int) (v4 : Int) (v5 : Int) (h : MH), LayC h → inR v1 → inR v2 → inR v3 → inR v4 → inR v5 → OK d k_M_appendString 19 [mR 107, mI v1, mI v2, mI v3, mI v4, mI v5] [] h cV pT (G19 v1 v2 v3 v4 v5 h)) {v1 : Int} {v2 : Int} {v3 : Int} {v4 : Int} {v5 : Int} {h : MH} (L : LayC h) (rv1 : inR v1) (rv2 : inR v2) (rv3 : inR v3) (rv4 : inR v4) (rv5 : inR v5) : OK d k_M_appendString 19 [mR 107, mI v1, mI v2, mI v3, mI v4, mI v5] [] h cV pT (F_M_appendString_19_b G19 v1 v2 v3 v4 v5 h) := by
  unfold F_M_appendString_19_b
  refine z_go (fun Q hq => x_iload (dA d_M_appendString 13 rfl) rfl (x_iload_n (dA d_M_appendString 14 rfl) rfl rfl hq)) ?_
  refine z_br (fun Q => x_icmp_ge (dA d_M_appendString 15 rfl) rfl rv5 rv3) (fun c20 => ?_) (fun c20 => ?_)
  · refine z_go (fun Q hq => x_aload_n (dA d_M_appendString 26 rfl) rfl rfl (x_iload (dA d_M_appendString 27 rfl) rfl hq)) ?_
    refine z_bnd (rest := []) (st1 := fun v => mI v :: []) (S_M_makes (d := 2) (Nat.le_refl _) L rv4) (fun _ hx => absurd hx List.not_mem_nil) (fun _ => rfl) (fun Q' Q => x_callV (as := [mI v4]) (rest := []) (k' := k_M_makes) (dA d_M_appendString 28 rfl) o_M_makes lk_M_431 im_M_makes se_M_makes rfl (L.sh (x := (12, 66)) rfl) (by decide) (Nat.le_of_ble_eq_true rfl) (Nat.le_trans (Nat.le_of_ble_eq_true rfl) hd) (Nat.le_of_ble_eq_true rfl)) (fun x23 h21 e22 p24 => ?_)
    have L25 := L.ext e22
    refine z_brn (fun Q => x_if_ne (dA d_M_appendString 29 rfl) rfl p24.inR) (fun c26 => ?_) (fun c26 => ?_)
    · exact z_retv (dA d_M_appendString 30 rfl) rfl
    · refine z_go (fun Q hq => x_aload_n (dA d_M_appendString 31 rfl) rfl rfl (x_iload_n (dA d_M_appendString 32 rfl) rfl rfl (x_aload_n (dA d_M_appendString 33 rfl) rfl rfl (x_getI (dA d_M_appendString 34 rfl) f_M_428 (L25.sh (x := (12, 66)) rfl) (by decide) (by decide) rfl (x_iload (dA d_M_appendString 35 rfl) rfl (x_iconst (dA d_M_appendString 36 rfl) (x_iconst (dA d_M_appendString 37 rfl) hq))))))) ?_
      refine z_bnd (rest := [mI v1, mR 107]) (st1 := fun v => mL v :: [mI v1, mR 107]) (S_M_token (d := 0) (Nat.le_refl _) L25 (L25.rg _ _) rv4 (inR_lit (3 : Int) rfl) (inR_lit (0 : Int) rfl)) (fun _ hx => absurd hx List.not_mem_nil) (fun _ => rfl) (fun Q' Q => x_callS (as := [mI (mGi h21 107 24), mI v4, mI (3 : Int), mI (0 : Int)]) (rest := [mI v1, mR 107]) (k' := k_M_token) (dA d_M_appendString 38 rfl) o_M_token lk_M_346 st_M_token (Nat.le_of_ble_eq_true rfl) (Nat.le_trans (Nat.le_of_ble_eq_true rfl) hd) (Nat.le_of_ble_eq_true rfl)) (fun x29 h27 e28 p30 => ?_)
      have L31 := L25.ext e28
      refine z_bnd (rest := []) (st1 := fun _ => []) (S_M_append (d := 0) (Nat.le_refl _) L31 rv1) (fun _ hx => absurd hx List.not_mem_nil) (fun _ => rfl) (fun Q' Q => x_callV (as := [mI v1, mL x29]) (rest := []) (k' := k_M_append) (dA d_M_appendString 39 rfl) o_M_append lk_M_394 im_M_append se_M_append rfl (L31.sh (x := (12, 66)) rfl) (by decide) (Nat.le_of_ble_eq_true rfl) (Nat.le_trans (Nat.le_of_ble_eq_true rfl) hd) (Nat.le_of_ble_eq_true rfl)) (fun x34 h32 e33 p35 => ?_)
      have L36 := L31.ext e33
      refine z_go (fun Q hq => x_aload_n (dA d_M_appendString 40 rfl) rfl rfl (x_bipush (dA d_M_appendString 41 rfl) (by decide) hq)) ?_
      refine z_bnd (rest := []) (st1 := fun _ => []) (S_M_addSign (d := 0) (Nat.le_refl _) L36 (inR_lit (34 : Int) rfl)) (fun _ hx => absurd hx List.not_mem_nil) (fun _ => rfl) (fun Q' Q => x_callV (as := [mI (34 : Int)]) (rest := []) (k' := k_M_addSign) (dA d_M_appendString 42 rfl) o_M_addSign lk_M_425 im_M_addSign se_M_addSign rfl (L36.sh (x := (12, 66)) rfl) (by decide) (Nat.le_of_ble_eq_true rfl) (Nat.le_trans (Nat.le_of_ble_eq_true rfl) hd) (Nat.le_of_ble_eq_true rfl)) (fun x39 h37 e38 p40 => ?_)
      have L41 := L36.ext e38
      refine z_go (fun Q hq => x_iload_n (dA d_M_appendString 43 rfl) rfl rfl (x_istore (dA d_M_appendString 44 rfl) (by decide) rfl hq)) ?_
      refine z_fgt (ls' := [mR 107, mN, mI v2, mI v3, mN, mI v2]) ⟨.inr rfl, .inl rfl, .inr rfl, .inr rfl, .inl rfl, .inr rfl, trivial⟩ ?_
      exact S_M_appendString_81 hd  L41 rv2 rv3 rv2
  · refine z_go (fun Q hq => x_iload (dA d_M_appendString 16 rfl) rfl (x_aload_n (dA d_M_appendString 17 rfl) rfl rfl (x_getR (dA d_M_appendString 18 rfl) f_M_100 (L.sh (x := (12, 66)) rfl) (by decide) (by decide) rfl (L.rf 138 rfl) (x_iload (dA d_M_appendString 19 rfl) rfl hq)))) ?_
    refine z_gd (fun g42 => ?_)
    refine z_go (fun Q hq => x_lald (dA d_M_appendString 20 rfl) (L.sh (x := (103, 800)) rfl) g42.1 g42.2 (by decide) hq) ?_
    refine z_bnd (rest := [mI v4]) (st1 := fun v => mI v :: [mI v4]) (S_M_sizeOf (d := 0) (Nat.le_refl _) L ) (fun _ hx => absurd hx List.not_mem_nil) (fun _ => rfl) (fun Q' Q => x_callS (as := [mL (mGl h 137 v5.toNat)]) (rest := [mI v4]) (k' := k_M_sizeOf) (dA d_M_appendString 21 rfl) o_M_sizeOf lk_M_324 st_M_sizeOf (Nat.le_of_ble_eq_true rfl) (Nat.le_trans (Nat.le_of_ble_eq_true rfl) hd) (Nat.le_of_ble_eq_true rfl)) (fun x45 h43 e44 p46 => ?_)
    have L47 := L.ext e44
    refine z_gd (fun g48 => ?_)
    refine z_go (fun Q hq => x_iadd (dA d_M_appendString 22 rfl) (x_istore (dA d_M_appendString 23 rfl) (by decide) rfl hq)) ?_
    refine z_gd (fun g49 => ?_)
    refine z_go (fun Q hq => x_iinc (dA d_M_appendString 24 rfl) rfl (by decide) rfl (x_goto (dA d_M_appendString 25 rfl) rfl hq)) ?_
    exact hG19 v1 v2 v3 (v4 + x45) (v5 + (1 : Int)) h43 L47 rv1 rv2 rv3 g48 g49
noncomputable def F_M_appendString_19 (v1 : Int) (v2 : Int) (v3 : Int) (v4 : Int) (v5 : Int) (h : MH) : RS Unit := itr (fun self (q : Int × Int × Int × Int × Int × MH) => F_M_appendString_19_b (fun v1 v2 v3 v4 v5 h => self (v1, v2, v3, v4, v5, h)) q.1 q.2.1 q.2.2.1 q.2.2.2.1 q.2.2.2.2.1 q.2.2.2.2.2) FU (v1, v2, v3, v4, v5, h)
theorem S_M_appendString_19 {d : Nat} (hd : 3 ≤ d) {v1 : Int} {v2 : Int} {v3 : Int} {v4 : Int} {v5 : Int} {h : MH} (L : LayC h) (rv1 : inR v1) (rv2 : inR v2) (rv3 : inR v3) (rv4 : inR v4) (rv5 : inR v5) : OK d k_M_appendString 19 [mR 107, mI v1, mI v2, mI v3, mI v4, mI v5] [] h cV pT (F_M_appendString_19  v1 v2 v3 v4 v5 h) := by
  unfold F_M_appendString_19
  refine z_itr (P := fun q : Int × Int × Int × Int × Int × MH => LayC q.2.2.2.2.2 ∧ inR q.1 ∧ inR q.2.1 ∧ inR q.2.2.1 ∧ inR q.2.2.2.1 ∧ inR q.2.2.2.2.1 ∧ True) (ls := fun q : Int × Int × Int × Int × Int × MH => [mR 107, mI q.1, mI q.2.1, mI q.2.2.1, mI q.2.2.2.1, mI q.2.2.2.2.1]) (hp := fun q : Int × Int × Int × Int × Int × MH => q.2.2.2.2.2) (fun self hs q hq => ?_) FU (v1, v2, v3, v4, v5, h) ⟨L, rv1, rv2, rv3, rv4, rv5, trivial⟩
  exact S_M_appendString_19_b hd (fun v1 v2 v3 v4 v5 h L rv1 rv2 rv3 rv4 rv5 => hs (v1, v2, v3, v4, v5, h) ⟨L, rv1, rv2, rv3, rv4, rv5, trivial⟩) hq.1 hq.2.1 hq.2.2.1 hq.2.2.2.1 hq.2.2.2.2.1 hq.2.2.2.2.2.1
noncomputable def F_M_appendString_14 (v1 : Int) (v2 : Int) (v3 : Int) (s0 : Int) (h : MH) : RS Unit := F_M_appendString_19 v1 v2 v3 s0 v2 h
theorem S_M_appendString_14 {d : Nat} (hd : 3 ≤ d) {v1 : Int} {v2 : Int} {v3 : Int} {s0 : Int} {h : MH} (L : LayC h) (rv1 : inR v1) (rv2 : inR v2) (rv3 : inR v3) (rs0 : inR s0) : OK d k_M_appendString 14 [mR 107, mI v1, mI v2, mI v3, mN, mN] [mI s0] h cV pT (F_M_appendString_14  v1 v2 v3 s0 h) := by
  unfold F_M_appendString_14
  refine z_go (fun Q hq => x_istore (dA d_M_appendString 10 rfl) (by decide) rfl (x_iload_n (dA d_M_appendString 11 rfl) rfl rfl (x_istore (dA d_M_appendString 12 rfl) (by decide) rfl hq))) ?_
  exact S_M_appendString_19 hd  L rv1 rv2 rv3 rs0 rv2
noncomputable def F_M_appendString (a1 : Int) (a2 : Int) (a3 : Int) (h : MH) : RS Unit := if a2 = a3 then F_M_appendString_14 a1 a2 a3 (2 : Int) h else gd (inR ((1 : Int) + a3)) (gd (inR (((1 : Int) + a3) - a2)) (F_M_appendString_14 a1 a2 a3 (((1 : Int) + a3) - a2) h))
theorem S_M_appendString {d : Nat} (hd : 3 ≤ d) {a1 : Int} {a2 : Int} {a3 : Int} {h : MH} (L : LayC h) (ra1 : inR a1) (ra2 : inR a2) (ra3 : inR a3) : OK d k_M_appendString 0 [mR 107, mI a1, mI a2, mI a3, mN, mN] [] h cV pT (F_M_appendString  a1 a2 a3 h) := by
  unfold F_M_appendString
  refine z_go (fun Q hq => x_iload_n (dA d_M_appendString 0 rfl) rfl rfl (x_iload_n (dA d_M_appendString 1 rfl) rfl rfl hq)) ?_
  refine z_brn (fun Q => x_icmp_ne (dA d_M_appendString 2 rfl) rfl ra2 ra3) (fun c50 => ?_) (fun c50 => ?_)
  · refine z_go (fun Q hq => x_iconst (dA d_M_appendString 3 rfl) (x_goto (dA d_M_appendString 4 rfl) rfl hq)) ?_
    exact S_M_appendString_14 hd  L ra1 ra2 ra3 (inR_lit (2 : Int) rfl)
  · refine z_go (fun Q hq => x_iconst (dA d_M_appendString 5 rfl) (x_iload_n (dA d_M_appendString 6 rfl) rfl rfl hq)) ?_
    refine z_gd (fun g51 => ?_)
    refine z_go (fun Q hq => x_iadd (dA d_M_appendString 7 rfl) (x_iload_n (dA d_M_appendString 8 rfl) rfl rfl hq)) ?_
    refine z_gd (fun g52 => ?_)
    refine z_go (fun Q hq => x_isub (dA d_M_appendString 9 rfl) hq) ?_
    exact S_M_appendString_14 hd  L ra1 ra2 ra3 g52
/-! TwoMillsModel.isBodyJoin(II)Z -/
noncomputable def F_M_isBodyJoin_36 (h : MH) : RS Int := some (.inl (0 : Int), h)
theorem S_M_isBodyJoin_36 {d : Nat} (hd : 2 ≤ d) {h : MH} (L : LayC h) : OK d k_M_isBodyJoin 36 [mN, mN, mN] [] h cI p01 (F_M_isBodyJoin_36   h) := by
  unfold F_M_isBodyJoin_36
  refine z_go (fun Q hq => x_iconst (dA d_M_isBodyJoin 21 rfl) hq) ?_
  exact z_retz (dA d_M_isBodyJoin 22 rfl) rfl (.inl rfl)
noncomputable def F_M_isBodyJoin (a1 : Int) (a2 : Int) (h : MH) : RS Int := if a2 < 0 then F_M_isBodyJoin_36  h else gd (0 ≤ a1 ∧ a1 < 8) (if (mGi h 128 a1.toNat) ≤ a2 then F_M_isBodyJoin_36  h else gd (inR ((12 : Int) * a1)) (gd (inR (((12 : Int) * a1) + a2)) (gd (0 ≤ (((12 : Int) * a1) + a2) ∧ (((12 : Int) * a1) + a2) < 96) (bnd (F_M_isJoin (mGl h 125 (((12 : Int) * a1) + a2).toNat) h) fun x9 h7 => if x9 = 0 then F_M_isBodyJoin_36  h7 else some (.inl (1 : Int), h7)))))
theorem S_M_isBodyJoin {d : Nat} (hd : 2 ≤ d) {a1 : Int} {a2 : Int} {h : MH} (L : LayC h) (ra1 : inR a1) (ra2 : inR a2) : OK d k_M_isBodyJoin 0 [mR 107, mI a1, mI a2] [] h cI p01 (F_M_isBodyJoin  a1 a2 h) := by
  unfold F_M_isBodyJoin
  refine z_go (fun Q hq => x_iload_n (dA d_M_isBodyJoin 0 rfl) rfl rfl hq) ?_
  refine z_br (fun Q => x_if_lt (dA d_M_isBodyJoin 1 rfl) rfl ra2) (fun c1 => ?_) (fun c1 => ?_)
  · refine z_fgt (ls' := [mN, mN, mN]) ⟨.inl rfl, .inl rfl, .inl rfl, trivial⟩ ?_
    exact S_M_isBodyJoin_36 hd  L 
  · refine z_go (fun Q hq => x_iload_n (dA d_M_isBodyJoin 2 rfl) rfl rfl (x_aload_n (dA d_M_isBodyJoin 3 rfl) rfl rfl (x_getR (dA d_M_isBodyJoin 4 rfl) f_M_72 (L.sh (x := (12, 66)) rfl) (by decide) (by decide) rfl (L.rf 129 rfl) (x_iload_n (dA d_M_isBodyJoin 5 rfl) rfl rfl hq)))) ?_
    refine z_gd (fun g2 => ?_)
    refine z_go (fun Q hq => x_iald (dA d_M_isBodyJoin 6 rfl) (L.sh (x := (100, 8)) rfl) g2.1 g2.2 (by decide) hq) ?_
    refine z_br (fun Q => x_icmp_ge (dA d_M_isBodyJoin 7 rfl) rfl ra2 (L.rg _ _)) (fun c3 => ?_) (fun c3 => ?_)
    · refine z_fgt (ls' := [mN, mN, mN]) ⟨.inl rfl, .inl rfl, .inl rfl, trivial⟩ ?_
      exact S_M_isBodyJoin_36 hd  L 
    · refine z_go (fun Q hq => x_aload_n (dA d_M_isBodyJoin 8 rfl) rfl rfl (x_aload_n (dA d_M_isBodyJoin 9 rfl) rfl rfl (x_getR (dA d_M_isBodyJoin 10 rfl) f_M_63 (L.sh (x := (12, 66)) rfl) (by decide) (by decide) rfl (L.rf 126 rfl) (x_bipush (dA d_M_isBodyJoin 11 rfl) (by decide) (x_iload_n (dA d_M_isBodyJoin 12 rfl) rfl rfl hq))))) ?_
      refine z_gd (fun g4 => ?_)
      refine z_go (fun Q hq => x_imul (dA d_M_isBodyJoin 13 rfl) (x_iload_n (dA d_M_isBodyJoin 14 rfl) rfl rfl hq)) ?_
      refine z_gd (fun g5 => ?_)
      refine z_go (fun Q hq => x_iadd (dA d_M_isBodyJoin 15 rfl) hq) ?_
      refine z_gd (fun g6 => ?_)
      refine z_go (fun Q hq => x_lald (dA d_M_isBodyJoin 16 rfl) (L.sh (x := (103, 96)) rfl) g6.1 g6.2 (by decide) hq) ?_
      refine z_bnd (rest := []) (st1 := fun v => mI v :: []) (S_M_isJoin (d := 1) (Nat.le_refl _) L ) (fun _ hx => absurd hx List.not_mem_nil) (fun _ => rfl) (fun Q' Q => x_callV (as := [mL (mGl h 125 (((12 : Int) * a1) + a2).toNat)]) (rest := []) (k' := k_M_isJoin) (dA d_M_isBodyJoin 17 rfl) o_M_isJoin lk_M_411 im_M_isJoin se_M_isJoin rfl (L.sh (x := (12, 66)) rfl) (by decide) (Nat.le_of_ble_eq_true rfl) (Nat.le_trans (Nat.le_of_ble_eq_true rfl) hd) (Nat.le_of_ble_eq_true rfl)) (fun x9 h7 e8 p10 => ?_)
      have L11 := L.ext e8
      refine z_br (fun Q => x_if_eq (dA d_M_isBodyJoin 18 rfl) rfl p10.inR) (fun c12 => ?_) (fun c12 => ?_)
      · refine z_fgt (ls' := [mN, mN, mN]) ⟨.inl rfl, .inl rfl, .inl rfl, trivial⟩ ?_
        exact S_M_isBodyJoin_36 hd  L11 
      · refine z_go (fun Q hq => x_iconst (dA d_M_isBodyJoin 19 rfl) (x_goto (dA d_M_isBodyJoin 20 rfl) rfl hq)) ?_
        exact z_retz (dA d_M_isBodyJoin 22 rfl) rfl (.inr rfl)
/-! TwoMillsModel.substituteNext()V -/
noncomputable def F_M_substituteNext_290_b (G290 : Int → Int → Int → Int → Int → MH → RS Unit) (v1 : Int) (v6 : Int) (v9 : Int) (v10 : Int) (v11 : Int) (h : MH) : RS Unit := if v9 ≤ v11 then some (.inl (), h) else if v10 = 0 then some (.inl (), h) else if v6 = 0 then gd (0 ≤ v11 ∧ v11 < 800) (bnd (F_M_append v1 (mGl h 137 v11.toNat) h) fun x7 h5 => gd (inR (v11 + (1 : Int))) (G290 v1 v6 v9 v10 (v11 + (1 : Int)) h5)) else some (.inl (), h)
theorem S_M_substituteNext_290_b {d : Nat} (hd : 4 ≤ d) {G290 : Int → Int → Int → Int → Int → MH → RS Unit} (hG290 : ∀ (v1 : Int) (v6 : Int) (v9 : Int) (v10 : Int) (v11 : Int) (h : MH), LayC h → inR v1 → inR v6 → inR v9 → inR v10 → inR v11 → OK d k_M_substituteNext 290 [mR 107, mI v1, mN, mN, mN, mN, mI v6, mN, mN, mI v9, mI v10, mI v11] [] h cV pT (G290 v1 v6 v9 v10 v11 h)) {v1 : Int} {v6 : Int} {v9 : Int} {v10 : Int} {v11 : Int} {h : MH} (L : LayC h) (rv1 : inR v1) (rv6 : inR v6) (rv9 : inR v9) (rv10 : inR v10) (rv11 : inR v11) : OK d k_M_substituteNext 290 [mR 107, mI v1, mN, mN, mN, mN, mI v6, mN, mN, mI v9, mI v10, mI v11] [] h cV pT (F_M_substituteNext_290_b G290 v1 v6 v9 v10 v11 h) := by
  unfold F_M_substituteNext_290_b
  refine z_go (fun Q hq => x_iload (dA d_M_substituteNext 176 rfl) rfl (x_iload (dA d_M_substituteNext 177 rfl) rfl hq)) ?_
  refine z_br (fun Q => x_icmp_ge (dA d_M_substituteNext 178 rfl) rfl rv11 rv9) (fun c1 => ?_) (fun c1 => ?_)
  · exact z_retv (dA d_M_substituteNext 192 rfl) rfl
  · refine z_go (fun Q hq => x_iload (dA d_M_substituteNext 179 rfl) rfl hq) ?_
    refine z_br (fun Q => x_if_eq (dA d_M_substituteNext 180 rfl) rfl rv10) (fun c2 => ?_) (fun c2 => ?_)
    · exact z_retv (dA d_M_substituteNext 192 rfl) rfl
    · refine z_go (fun Q hq => x_iload (dA d_M_substituteNext 181 rfl) rfl hq) ?_
      refine z_brn (fun Q => x_if_ne (dA d_M_substituteNext 182 rfl) rfl rv6) (fun c3 => ?_) (fun c3 => ?_)
      · refine z_go (fun Q hq => x_aload_n (dA d_M_substituteNext 183 rfl) rfl rfl (x_iload_n (dA d_M_substituteNext 184 rfl) rfl rfl (x_aload_n (dA d_M_substituteNext 185 rfl) rfl rfl (x_getR (dA d_M_substituteNext 186 rfl) f_M_100 (L.sh (x := (12, 66)) rfl) (by decide) (by decide) rfl (L.rf 138 rfl) (x_iload (dA d_M_substituteNext 187 rfl) rfl hq))))) ?_
        refine z_gd (fun g4 => ?_)
        refine z_go (fun Q hq => x_lald (dA d_M_substituteNext 188 rfl) (L.sh (x := (103, 800)) rfl) g4.1 g4.2 (by decide) hq) ?_
        refine z_bnd (rest := []) (st1 := fun _ => []) (S_M_append (d := 0) (Nat.le_refl _) L rv1) (fun _ hx => absurd hx List.not_mem_nil) (fun _ => rfl) (fun Q' Q => x_callV (as := [mI v1, mL (mGl h 137 v11.toNat)]) (rest := []) (k' := k_M_append) (dA d_M_substituteNext 189 rfl) o_M_append lk_M_394 im_M_append se_M_append rfl (L.sh (x := (12, 66)) rfl) (by decide) (Nat.le_of_ble_eq_true rfl) (Nat.le_trans (Nat.le_of_ble_eq_true rfl) hd) (Nat.le_of_ble_eq_true rfl)) (fun x7 h5 e6 p8 => ?_)
        have L9 := L.ext e6
        refine z_gd (fun g10 => ?_)
        refine z_go (fun Q hq => x_iinc (dA d_M_substituteNext 190 rfl) rfl (by decide) rfl (x_goto (dA d_M_substituteNext 191 rfl) rfl hq)) ?_
        exact hG290 v1 v6 v9 v10 (v11 + (1 : Int)) h5 L9 rv1 rv6 rv9 rv10 g10
      · exact z_retv (dA d_M_substituteNext 192 rfl) rfl
noncomputable def F_M_substituteNext_290 (v1 : Int) (v6 : Int) (v9 : Int) (v10 : Int) (v11 : Int) (h : MH) : RS Unit := itr (fun self (q : Int × Int × Int × Int × Int × MH) => F_M_substituteNext_290_b (fun v1 v6 v9 v10 v11 h => self (v1, v6, v9, v10, v11, h)) q.1 q.2.1 q.2.2.1 q.2.2.2.1 q.2.2.2.2.1 q.2.2.2.2.2) FU (v1, v6, v9, v10, v11, h)
theorem S_M_substituteNext_290 {d : Nat} (hd : 4 ≤ d) {v1 : Int} {v6 : Int} {v9 : Int} {v10 : Int} {v11 : Int} {h : MH} (L : LayC h) (rv1 : inR v1) (rv6 : inR v6) (rv9 : inR v9) (rv10 : inR v10) (rv11 : inR v11) : OK d k_M_substituteNext 290 [mR 107, mI v1, mN, mN, mN, mN, mI v6, mN, mN, mI v9, mI v10, mI v11] [] h cV pT (F_M_substituteNext_290  v1 v6 v9 v10 v11 h) := by
  unfold F_M_substituteNext_290
  refine z_itr (P := fun q : Int × Int × Int × Int × Int × MH => LayC q.2.2.2.2.2 ∧ inR q.1 ∧ inR q.2.1 ∧ inR q.2.2.1 ∧ inR q.2.2.2.1 ∧ inR q.2.2.2.2.1 ∧ True) (ls := fun q : Int × Int × Int × Int × Int × MH => [mR 107, mI q.1, mN, mN, mN, mN, mI q.2.1, mN, mN, mI q.2.2.1, mI q.2.2.2.1, mI q.2.2.2.2.1]) (hp := fun q : Int × Int × Int × Int × Int × MH => q.2.2.2.2.2) (fun self hs q hq => ?_) FU (v1, v6, v9, v10, v11, h) ⟨L, rv1, rv6, rv9, rv10, rv11, trivial⟩
  exact S_M_substituteNext_290_b hd (fun v1 v6 v9 v10 v11 h L rv1 rv6 rv9 rv10 rv11 => hs (v1, v6, v9, v10, v11, h) ⟨L, rv1, rv6, rv9, rv10, rv11, trivial⟩) hq.1 hq.2.1 hq.2.2.1 hq.2.2.2.1 hq.2.2.2.2.1 hq.2.2.2.2.2.1
noncomputable def F_M_substituteNext_286 (v1 : Int) (v6 : Int) (v8 : Int) (v9 : Int) (v10 : Int) (h : MH) : RS Unit := F_M_substituteNext_290 v1 v6 v9 v10 v8 h
theorem S_M_substituteNext_286 {d : Nat} (hd : 4 ≤ d) {v1 : Int} {v6 : Int} {v8 : Int} {v9 : Int} {v10 : Int} {h : MH} (L : LayC h) (rv1 : inR v1) (rv6 : inR v6) (rv8 : inR v8) (rv9 : inR v9) (rv10 : inR v10) : OK d k_M_substituteNext 286 [mR 107, mI v1, mN, mN, mN, mN, mI v6, mN, mI v8, mI v9, mI v10, mN] [] h cV pT (F_M_substituteNext_286  v1 v6 v8 v9 v10 h) := by
  unfold F_M_substituteNext_286
  refine z_go (fun Q hq => x_iload (dA d_M_substituteNext 174 rfl) rfl (x_istore (dA d_M_substituteNext 175 rfl) (by decide) rfl hq)) ?_
  refine z_fgt (ls' := [mR 107, mI v1, mN, mN, mN, mN, mI v6, mN, mN, mI v9, mI v10, mI v8]) ⟨.inr rfl, .inr rfl, .inl rfl, .inl rfl, .inl rfl, .inl rfl, .inr rfl, .inl rfl, .inl rfl, .inr rfl, .inr rfl, .inr rfl, trivial⟩ ?_
  exact S_M_substituteNext_290 hd  L rv1 rv6 rv9 rv10 rv8
noncomputable def F_M_substituteNext_226 (v1 : Int) (v6 : Int) (v8 : Int) (v9 : Int) (s0 : Int) (h : MH) : RS Unit := if v6 = 0 then if s0 = 0 then gd (inR (v1 + (1 : Int))) (gd (inR (v9 - v8)) (bnd (F_M_beginRow (v1 + (1 : Int)) v8 (v9 - v8) h) fun x17 h15 => F_M_substituteNext_286 v1 v6 v8 v9 s0 h15)) else if v8 = v9 then bnd (F_M_token (0 : Int) (0 : Int) (5 : Int) (0 : Int) h) fun x23 h21 => bnd (F_M_append v1 x23 h21) fun x28 h26 => F_M_substituteNext_286 v1 v6 v8 v9 s0 h26 else F_M_substituteNext_286 v1 v6 v8 v9 s0 h else bnd (F_M_appendString v1 v8 v9 h) fun x33 h31 => F_M_substituteNext_286 v1 v6 v8 v9 s0 h31
theorem S_M_substituteNext_226 {d : Nat} (hd : 4 ≤ d) {v1 : Int} {v6 : Int} {v8 : Int} {v9 : Int} {s0 : Int} {h : MH} (L : LayC h) (rv1 : inR v1) (rv6 : inR v6) (rv8 : inR v8) (rv9 : inR v9) (rs0 : inR s0) : OK d k_M_substituteNext 226 [mR 107, mI v1, mN, mN, mN, mN, mI v6, mN, mI v8, mI v9, mN, mN] [mI s0] h cV pT (F_M_substituteNext_226  v1 v6 v8 v9 s0 h) := by
  unfold F_M_substituteNext_226
  refine z_go (fun Q hq => x_istore (dA d_M_substituteNext 142 rfl) (by decide) rfl (x_iload (dA d_M_substituteNext 143 rfl) rfl hq)) ?_
  refine z_br (fun Q => x_if_eq (dA d_M_substituteNext 144 rfl) rfl rv6) (fun c11 => ?_) (fun c11 => ?_)
  · refine z_go (fun Q hq => x_iload (dA d_M_substituteNext 151 rfl) rfl hq) ?_
    refine z_brn (fun Q => x_if_ne (dA d_M_substituteNext 152 rfl) rfl rs0) (fun c12 => ?_) (fun c12 => ?_)
    · refine z_go (fun Q hq => x_aload_n (dA d_M_substituteNext 153 rfl) rfl rfl (x_iload_n (dA d_M_substituteNext 154 rfl) rfl rfl (x_iconst (dA d_M_substituteNext 155 rfl) hq))) ?_
      refine z_gd (fun g13 => ?_)
      refine z_go (fun Q hq => x_iadd (dA d_M_substituteNext 156 rfl) (x_iload (dA d_M_substituteNext 157 rfl) rfl (x_iload (dA d_M_substituteNext 158 rfl) rfl (x_iload (dA d_M_substituteNext 159 rfl) rfl hq)))) ?_
      refine z_gd (fun g14 => ?_)
      refine z_go (fun Q hq => x_isub (dA d_M_substituteNext 160 rfl) hq) ?_
      refine z_bnd (rest := []) (st1 := fun _ => []) (S_M_beginRow (d := 2) (Nat.le_refl _) L g13 rv8 g14) (fun _ hx => absurd hx List.not_mem_nil) (fun _ => rfl) (fun Q' Q => x_callV (as := [mI (v1 + (1 : Int)), mI v8, mI (v9 - v8)]) (rest := []) (k' := k_M_beginRow) (dA d_M_substituteNext 161 rfl) o_M_beginRow lk_M_381 im_M_beginRow se_M_beginRow rfl (L.sh (x := (12, 66)) rfl) (by decide) (Nat.le_of_ble_eq_true rfl) (Nat.le_trans (Nat.le_of_ble_eq_true rfl) hd) (Nat.le_of_ble_eq_true rfl)) (fun x17 h15 e16 p18 => ?_)
      have L19 := L.ext e16
      refine z_go (fun Q hq => x_goto (dA d_M_substituteNext 162 rfl) rfl hq) ?_
      exact S_M_substituteNext_286 hd  L19 rv1 rv6 rv8 rv9 rs0
    · refine z_go (fun Q hq => x_iload (dA d_M_substituteNext 163 rfl) rfl (x_iload (dA d_M_substituteNext 164 rfl) rfl hq)) ?_
      refine z_brn (fun Q => x_icmp_ne (dA d_M_substituteNext 165 rfl) rfl rv8 rv9) (fun c20 => ?_) (fun c20 => ?_)
      · refine z_go (fun Q hq => x_aload_n (dA d_M_substituteNext 166 rfl) rfl rfl (x_iload_n (dA d_M_substituteNext 167 rfl) rfl rfl (x_iconst (dA d_M_substituteNext 168 rfl) (x_iconst (dA d_M_substituteNext 169 rfl) (x_iconst (dA d_M_substituteNext 170 rfl) (x_iconst (dA d_M_substituteNext 171 rfl) hq)))))) ?_
        refine z_bnd (rest := [mI v1, mR 107]) (st1 := fun v => mL v :: [mI v1, mR 107]) (S_M_token (d := 0) (Nat.le_refl _) L (inR_lit (0 : Int) rfl) (inR_lit (0 : Int) rfl) (inR_lit (5 : Int) rfl) (inR_lit (0 : Int) rfl)) (fun _ hx => absurd hx List.not_mem_nil) (fun _ => rfl) (fun Q' Q => x_callS (as := [mI (0 : Int), mI (0 : Int), mI (5 : Int), mI (0 : Int)]) (rest := [mI v1, mR 107]) (k' := k_M_token) (dA d_M_substituteNext 172 rfl) o_M_token lk_M_346 st_M_token (Nat.le_of_ble_eq_true rfl) (Nat.le_trans (Nat.le_of_ble_eq_true rfl) hd) (Nat.le_of_ble_eq_true rfl)) (fun x23 h21 e22 p24 => ?_)
        have L25 := L.ext e22
        refine z_bnd (rest := []) (st1 := fun _ => []) (S_M_append (d := 0) (Nat.le_refl _) L25 rv1) (fun _ hx => absurd hx List.not_mem_nil) (fun _ => rfl) (fun Q' Q => x_callV (as := [mI v1, mL x23]) (rest := []) (k' := k_M_append) (dA d_M_substituteNext 173 rfl) o_M_append lk_M_394 im_M_append se_M_append rfl (L25.sh (x := (12, 66)) rfl) (by decide) (Nat.le_of_ble_eq_true rfl) (Nat.le_trans (Nat.le_of_ble_eq_true rfl) hd) (Nat.le_of_ble_eq_true rfl)) (fun x28 h26 e27 p29 => ?_)
        have L30 := L25.ext e27
        exact S_M_substituteNext_286 hd  L30 rv1 rv6 rv8 rv9 rs0
      · exact S_M_substituteNext_286 hd  L rv1 rv6 rv8 rv9 rs0
  · refine z_go (fun Q hq => x_aload_n (dA d_M_substituteNext 145 rfl) rfl rfl (x_iload_n (dA d_M_substituteNext 146 rfl) rfl rfl (x_iload (dA d_M_substituteNext 147 rfl) rfl (x_iload (dA d_M_substituteNext 148 rfl) rfl hq)))) ?_
    refine z_bnd (rest := []) (st1 := fun _ => []) (S_M_appendString (d := 3) (Nat.le_refl _) L rv1 rv8 rv9) (fun _ hx => absurd hx List.not_mem_nil) (fun _ => rfl) (fun Q' Q => x_callV (as := [mI v1, mI v8, mI v9]) (rest := []) (k' := k_M_appendString) (dA d_M_substituteNext 149 rfl) o_M_appendString lk_M_419 im_M_appendString se_M_appendString rfl (L.sh (x := (12, 66)) rfl) (by decide) (Nat.le_of_ble_eq_true rfl) (Nat.le_trans (Nat.le_of_ble_eq_true rfl) hd) (Nat.le_of_ble_eq_true rfl)) (fun x33 h31 e32 p34 => ?_)
    have L35 := L.ext e32
    refine z_go (fun Q hq => x_goto (dA d_M_substituteNext 150 rfl) rfl hq) ?_
    exact S_M_substituteNext_286 hd  L35 rv1 rv6 rv8 rv9 rs0
noncomputable def F_M_substituteNext_221 (v1 : Int) (v6 : Int) (v8 : Int) (v9 : Int) (h : MH) : RS Unit := F_M_substituteNext_226 v1 v6 v8 v9 (1 : Int) h
theorem S_M_substituteNext_221 {d : Nat} (hd : 4 ≤ d) {v1 : Int} {v6 : Int} {v8 : Int} {v9 : Int} {h : MH} (L : LayC h) (rv1 : inR v1) (rv6 : inR v6) (rv8 : inR v8) (rv9 : inR v9) : OK d k_M_substituteNext 221 [mR 107, mI v1, mN, mN, mN, mN, mI v6, mN, mI v8, mI v9, mN, mN] [] h cV pT (F_M_substituteNext_221  v1 v6 v8 v9 h) := by
  unfold F_M_substituteNext_221
  refine z_go (fun Q hq => x_iconst (dA d_M_substituteNext 139 rfl) (x_goto (dA d_M_substituteNext 140 rfl) rfl hq)) ?_
  exact S_M_substituteNext_226 hd  L rv1 rv6 rv8 rv9 (inR_lit (1 : Int) rfl)
noncomputable def F_M_substituteNext_157 (s1 : Int) (s2 : Int64) (h : MH) : RS Unit := bnd (F_M_append s1 s2 h) fun x38 h36 => some (.inl (), h36)
theorem S_M_substituteNext_157 {d : Nat} (hd : 4 ≤ d) {s1 : Int} {s2 : Int64} {h : MH} (L : LayC h) (rs1 : inR s1) : OK d k_M_substituteNext 157 [mN, mN, mN, mN, mN, mN, mN, mN, mN, mN, mN, mN] [mL s2, mI s1, mR 107] h cV pT (F_M_substituteNext_157  s1 s2 h) := by
  unfold F_M_substituteNext_157
  refine z_bnd (rest := []) (st1 := fun _ => []) (S_M_append (d := 0) (Nat.le_refl _) L rs1) (fun _ hx => absurd hx List.not_mem_nil) (fun _ => rfl) (fun Q' Q => x_callV (as := [mI s1, mL s2]) (rest := []) (k' := k_M_append) (dA d_M_substituteNext 95 rfl) o_M_append lk_M_394 im_M_append se_M_append rfl (L.sh (x := (12, 66)) rfl) (by decide) (Nat.le_of_ble_eq_true rfl) (Nat.le_trans (Nat.le_of_ble_eq_true rfl) hd) (Nat.le_of_ble_eq_true rfl)) (fun x38 h36 e37 p39 => ?_)
  have L40 := L.ext e37
  exact z_retv (dA d_M_substituteNext 96 rfl) rfl
noncomputable def F_M_substituteNext_128 (v1 : Int) (v2 : Int) (v3 : Int) (v4 : Int64) (v6 : Int) (v7 : Int) (s1 : Int) (s2 : Int) (s3 : Int) (h : MH) : RS Unit := gd (inR (s2 + s3)) (gd (0 ≤ s1 ∧ s1 < 8) (sto (mPi h 145 s1.toNat (s2 + s3)) fun h43 => if 0 ≤ v7 then gd (inR ((100 : Int) * v1)) (gd (inR ((4 : Int) * v1)) (gd (inR (((4 : Int) * v1) + v7)) (gd (0 ≤ (((4 : Int) * v1) + v7) ∧ (((4 : Int) * v1) + v7) < 32) (gd (inR (((100 : Int) * v1) + (mGi h43 142 (((4 : Int) * v1) + v7).toNat))) (gd (inR ((((4 : Int) * v1) + v7) + (1 : Int))) (gd (0 ≤ ((((4 : Int) * v1) + v7) + (1 : Int)) ∧ ((((4 : Int) * v1) + v7) + (1 : Int)) < 32) (gd (inR (((100 : Int) * v1) + (mGi h43 142 ((((4 : Int) * v1) + v7) + (1 : Int)).toNat))) (gd (inR (v3 - (1 : Int))) (bnd (F_M_isBodyJoin v2 (v3 - (1 : Int)) h43) fun x58 h56 => if x58 = 0 then gd (inR (v3 + (1 : Int))) (bnd (F_M_isBodyJoin v2 (v3 + (1 : Int)) h56) fun x65 h63 => if x65 = 0 then F_M_substituteNext_226 v1 v6 (((100 : Int) * v1) + (mGi h43 142 (((4 : Int) * v1) + v7).toNat)) (((100 : Int) * v1) + (mGi h43 142 ((((4 : Int) * v1) + v7) + (1 : Int)).toNat)) (0 : Int) h63 else F_M_substituteNext_221 v1 v6 (((100 : Int) * v1) + (mGi h43 142 (((4 : Int) * v1) + v7).toNat)) (((100 : Int) * v1) + (mGi h43 142 ((((4 : Int) * v1) + v7) + (1 : Int)).toNat)) h63) else F_M_substituteNext_221 v1 v6 (((100 : Int) * v1) + (mGi h43 142 (((4 : Int) * v1) + v7).toNat)) (((100 : Int) * v1) + (mGi h43 142 ((((4 : Int) * v1) + v7) + (1 : Int)).toNat)) h56))))))))) else bnd (F_M_isJoin v4 h43) fun x71 h69 => if x71 = 0 then F_M_substituteNext_157 v1 v4 h69 else F_M_substituteNext_157 v1 (v4 ||| (68719476736 : Int64)) h69))
theorem S_M_substituteNext_128 {d : Nat} (hd : 4 ≤ d) {v1 : Int} {v2 : Int} {v3 : Int} {v4 : Int64} {v6 : Int} {v7 : Int} {s1 : Int} {s2 : Int} {s3 : Int} {h : MH} (L : LayC h) (rv1 : inR v1) (rv2 : inR v2) (rv3 : inR v3) (rv6 : inR v6) (rv7 : inR v7) (rs1 : inR s1) (rs2 : inR s2) (rs3 : inR s3) : OK d k_M_substituteNext 128 [mR 107, mI v1, mI v2, mI v3, mL v4, mN, mI v6, mI v7, mN, mN, mN, mN] [mI s3, mI s2, mI s1, mR 145] h cV pT (F_M_substituteNext_128  v1 v2 v3 v4 v6 v7 s1 s2 s3 h) := by
  unfold F_M_substituteNext_128
  refine z_gd (fun g41 => ?_)
  refine z_go (fun Q hq => x_iadd (dA d_M_substituteNext 80 rfl) hq) ?_
  refine z_gd (fun g42 => ?_)
  refine z_sto (Ext.pi (L.sh (x := (100, 8)) rfl) (by decide) g41) (fun Q hq => x_iast (dA d_M_substituteNext 81 rfl) (L.sh (x := (100, 8)) rfl) g42.1 g42.2 (by decide) hq) (fun h43 e44 => ?_)
  have L45 := L.ext e44
  refine z_go (fun Q hq => x_iload (dA d_M_substituteNext 82 rfl) rfl hq) ?_
  refine z_br (fun Q => x_if_ge (dA d_M_substituteNext 83 rfl) rfl rv7) (fun c46 => ?_) (fun c46 => ?_)
  · refine z_go (fun Q hq => x_bipush (dA d_M_substituteNext 97 rfl) (by decide) (x_iload_n (dA d_M_substituteNext 98 rfl) rfl rfl hq)) ?_
    refine z_gd (fun g47 => ?_)
    refine z_go (fun Q hq => x_imul (dA d_M_substituteNext 99 rfl) (x_aload_n (dA d_M_substituteNext 100 rfl) rfl rfl (x_getR (dA d_M_substituteNext 101 rfl) f_M_115 (L45.sh (x := (12, 66)) rfl) (by decide) (by decide) rfl (L45.rf 143 rfl) (x_iconst (dA d_M_substituteNext 102 rfl) (x_iload_n (dA d_M_substituteNext 103 rfl) rfl rfl hq))))) ?_
    refine z_gd (fun g48 => ?_)
    refine z_go (fun Q hq => x_imul (dA d_M_substituteNext 104 rfl) (x_iload (dA d_M_substituteNext 105 rfl) rfl hq)) ?_
    refine z_gd (fun g49 => ?_)
    refine z_go (fun Q hq => x_iadd (dA d_M_substituteNext 106 rfl) hq) ?_
    refine z_gd (fun g50 => ?_)
    refine z_go (fun Q hq => x_iald (dA d_M_substituteNext 107 rfl) (L45.sh (x := (100, 32)) rfl) g50.1 g50.2 (by decide) hq) ?_
    refine z_gd (fun g51 => ?_)
    refine z_go (fun Q hq => x_iadd (dA d_M_substituteNext 108 rfl) (x_istore (dA d_M_substituteNext 109 rfl) (by decide) rfl (x_bipush (dA d_M_substituteNext 110 rfl) (by decide) (x_iload_n (dA d_M_substituteNext 111 rfl) rfl rfl (x_imul (dA d_M_substituteNext 112 rfl) (x_aload_n (dA d_M_substituteNext 113 rfl) rfl rfl (x_getR (dA d_M_substituteNext 114 rfl) f_M_115 (L45.sh (x := (12, 66)) rfl) (by decide) (by decide) rfl (L45.rf 143 rfl) (x_iconst (dA d_M_substituteNext 115 rfl) (x_iload_n (dA d_M_substituteNext 116 rfl) rfl rfl (x_imul (dA d_M_substituteNext 117 rfl) (x_iload (dA d_M_substituteNext 118 rfl) rfl (x_iadd (dA d_M_substituteNext 119 rfl) (x_iconst (dA d_M_substituteNext 120 rfl) hq))))))))))))) ?_
    refine z_gd (fun g52 => ?_)
    refine z_go (fun Q hq => x_iadd (dA d_M_substituteNext 121 rfl) hq) ?_
    refine z_gd (fun g53 => ?_)
    refine z_go (fun Q hq => x_iald (dA d_M_substituteNext 122 rfl) (L45.sh (x := (100, 32)) rfl) g53.1 g53.2 (by decide) hq) ?_
    refine z_gd (fun g54 => ?_)
    refine z_go (fun Q hq => x_iadd (dA d_M_substituteNext 123 rfl) (x_istore (dA d_M_substituteNext 124 rfl) (by decide) rfl (x_aload_n (dA d_M_substituteNext 125 rfl) rfl rfl (x_iload_n (dA d_M_substituteNext 126 rfl) rfl rfl (x_iload_n (dA d_M_substituteNext 127 rfl) rfl rfl (x_iconst (dA d_M_substituteNext 128 rfl) hq)))))) ?_
    refine z_gd (fun g55 => ?_)
    refine z_go (fun Q hq => x_isub (dA d_M_substituteNext 129 rfl) hq) ?_
    refine z_bnd (rest := []) (st1 := fun v => mI v :: []) (S_M_isBodyJoin (d := 2) (Nat.le_refl _) L45 rv2 g55) (fun _ hx => absurd hx List.not_mem_nil) (fun _ => rfl) (fun Q' Q => x_callV (as := [mI v2, mI (v3 - (1 : Int))]) (rest := []) (k' := k_M_isBodyJoin) (dA d_M_substituteNext 130 rfl) o_M_isBodyJoin lk_M_416 im_M_isBodyJoin se_M_isBodyJoin rfl (L45.sh (x := (12, 66)) rfl) (by decide) (Nat.le_of_ble_eq_true rfl) (Nat.le_trans (Nat.le_of_ble_eq_true rfl) hd) (Nat.le_of_ble_eq_true rfl)) (fun x58 h56 e57 p59 => ?_)
    have L60 := L45.ext e57
    refine z_brn (fun Q => x_if_ne (dA d_M_substituteNext 131 rfl) rfl p59.inR) (fun c61 => ?_) (fun c61 => ?_)
    · refine z_go (fun Q hq => x_aload_n (dA d_M_substituteNext 132 rfl) rfl rfl (x_iload_n (dA d_M_substituteNext 133 rfl) rfl rfl (x_iload_n (dA d_M_substituteNext 134 rfl) rfl rfl (x_iconst (dA d_M_substituteNext 135 rfl) hq)))) ?_
      refine z_gd (fun g62 => ?_)
      refine z_go (fun Q hq => x_iadd (dA d_M_substituteNext 136 rfl) hq) ?_
      refine z_bnd (rest := []) (st1 := fun v => mI v :: []) (S_M_isBodyJoin (d := 2) (Nat.le_refl _) L60 rv2 g62) (fun _ hx => absurd hx List.not_mem_nil) (fun _ => rfl) (fun Q' Q => x_callV (as := [mI v2, mI (v3 + (1 : Int))]) (rest := []) (k' := k_M_isBodyJoin) (dA d_M_substituteNext 137 rfl) o_M_isBodyJoin lk_M_416 im_M_isBodyJoin se_M_isBodyJoin rfl (L60.sh (x := (12, 66)) rfl) (by decide) (Nat.le_of_ble_eq_true rfl) (Nat.le_trans (Nat.le_of_ble_eq_true rfl) hd) (Nat.le_of_ble_eq_true rfl)) (fun x65 h63 e64 p66 => ?_)
      have L67 := L60.ext e64
      refine z_br (fun Q => x_if_eq (dA d_M_substituteNext 138 rfl) rfl p66.inR) (fun c68 => ?_) (fun c68 => ?_)
      · refine z_go (fun Q hq => x_iconst (dA d_M_substituteNext 141 rfl) hq) ?_
        refine z_fgt (ls' := [mR 107, mI v1, mN, mN, mN, mN, mI v6, mN, mI (((100 : Int) * v1) + (mGi h43 142 (((4 : Int) * v1) + v7).toNat)), mI (((100 : Int) * v1) + (mGi h43 142 ((((4 : Int) * v1) + v7) + (1 : Int)).toNat)), mN, mN]) ⟨.inr rfl, .inr rfl, .inl rfl, .inl rfl, .inl rfl, .inl rfl, .inr rfl, .inl rfl, .inr rfl, .inr rfl, .inl rfl, .inl rfl, trivial⟩ ?_
        exact S_M_substituteNext_226 hd  L67 rv1 rv6 g51 g54 (inR_lit (0 : Int) rfl)
      · refine z_fgt (ls' := [mR 107, mI v1, mN, mN, mN, mN, mI v6, mN, mI (((100 : Int) * v1) + (mGi h43 142 (((4 : Int) * v1) + v7).toNat)), mI (((100 : Int) * v1) + (mGi h43 142 ((((4 : Int) * v1) + v7) + (1 : Int)).toNat)), mN, mN]) ⟨.inr rfl, .inr rfl, .inl rfl, .inl rfl, .inl rfl, .inl rfl, .inr rfl, .inl rfl, .inr rfl, .inr rfl, .inl rfl, .inl rfl, trivial⟩ ?_
        exact S_M_substituteNext_221 hd  L67 rv1 rv6 g51 g54
    · refine z_fgt (ls' := [mR 107, mI v1, mN, mN, mN, mN, mI v6, mN, mI (((100 : Int) * v1) + (mGi h43 142 (((4 : Int) * v1) + v7).toNat)), mI (((100 : Int) * v1) + (mGi h43 142 ((((4 : Int) * v1) + v7) + (1 : Int)).toNat)), mN, mN]) ⟨.inr rfl, .inr rfl, .inl rfl, .inl rfl, .inl rfl, .inl rfl, .inr rfl, .inl rfl, .inr rfl, .inr rfl, .inl rfl, .inl rfl, trivial⟩ ?_
      exact S_M_substituteNext_221 hd  L60 rv1 rv6 g51 g54
  · refine z_go (fun Q hq => x_aload_n (dA d_M_substituteNext 84 rfl) rfl rfl (x_iload_n (dA d_M_substituteNext 85 rfl) rfl rfl (x_aload_n (dA d_M_substituteNext 86 rfl) rfl rfl (x_lload (dA d_M_substituteNext 87 rfl) rfl hq)))) ?_
    refine z_bnd (rest := [mI v1, mR 107]) (st1 := fun v => mI v :: [mI v1, mR 107]) (S_M_isJoin (d := 1) (Nat.le_refl _) L45 ) (fun _ hx => absurd hx List.not_mem_nil) (fun _ => rfl) (fun Q' Q => x_callV (as := [mL v4]) (rest := [mI v1, mR 107]) (k' := k_M_isJoin) (dA d_M_substituteNext 88 rfl) o_M_isJoin lk_M_411 im_M_isJoin se_M_isJoin rfl (L45.sh (x := (12, 66)) rfl) (by decide) (Nat.le_of_ble_eq_true rfl) (Nat.le_trans (Nat.le_of_ble_eq_true rfl) hd) (Nat.le_of_ble_eq_true rfl)) (fun x71 h69 e70 p72 => ?_)
    have L73 := L45.ext e70
    refine z_br (fun Q => x_if_eq (dA d_M_substituteNext 89 rfl) rfl p72.inR) (fun c74 => ?_) (fun c74 => ?_)
    · refine z_go (fun Q hq => x_lload (dA d_M_substituteNext 94 rfl) rfl hq) ?_
      refine z_fgt (ls' := [mN, mN, mN, mN, mN, mN, mN, mN, mN, mN, mN, mN]) ⟨.inl rfl, .inl rfl, .inl rfl, .inl rfl, .inl rfl, .inl rfl, .inl rfl, .inl rfl, .inl rfl, .inl rfl, .inl rfl, .inl rfl, trivial⟩ ?_
      exact S_M_substituteNext_157 hd  L73 rv1
    · refine z_go (fun Q hq => x_lload (dA d_M_substituteNext 90 rfl) rfl (x_ldc2 (dA d_M_substituteNext 91 rfl) kl_M_414 (x_lor (dA d_M_substituteNext 92 rfl) (x_goto (dA d_M_substituteNext 93 rfl) rfl hq)))) ?_
      refine z_fgt (ls' := [mN, mN, mN, mN, mN, mN, mN, mN, mN, mN, mN, mN]) ⟨.inl rfl, .inl rfl, .inl rfl, .inl rfl, .inl rfl, .inl rfl, .inl rfl, .inl rfl, .inl rfl, .inl rfl, .inl rfl, .inl rfl, trivial⟩ ?_
      exact S_M_substituteNext_157 hd  L73 rv1
noncomputable def F_M_substituteNext_107 (v1 : Int) (v2 : Int) (v3 : Int) (v4 : Int64) (v6 : Int) (s1 : Int) (s2 : Int) (h : MH) : RS Unit := gd (inR (s1 + s2)) (gd (0 ≤ (s1 + s2) ∧ (s1 + s2) < 96) (gd (0 ≤ v1 ∧ v1 < 8) (if v6 = 0 then F_M_substituteNext_128 v1 v2 v3 v4 v6 (mGi h 129 (s1 + s2).toNat) v1 (mGi h 145 v1.toNat) (1 : Int) h else F_M_substituteNext_128 v1 v2 v3 v4 v6 (mGi h 129 (s1 + s2).toNat) v1 (mGi h 145 v1.toNat) (2 : Int) h)))
theorem S_M_substituteNext_107 {d : Nat} (hd : 4 ≤ d) {v1 : Int} {v2 : Int} {v3 : Int} {v4 : Int64} {v6 : Int} {s1 : Int} {s2 : Int} {h : MH} (L : LayC h) (rv1 : inR v1) (rv2 : inR v2) (rv3 : inR v3) (rv6 : inR v6) (rs1 : inR s1) (rs2 : inR s2) : OK d k_M_substituteNext 107 [mR 107, mI v1, mI v2, mI v3, mL v4, mN, mI v6, mN, mN, mN, mN, mN] [mI s2, mI s1, mR 129] h cV pT (F_M_substituteNext_107  v1 v2 v3 v4 v6 s1 s2 h) := by
  unfold F_M_substituteNext_107
  refine z_gd (fun g75 => ?_)
  refine z_go (fun Q hq => x_iadd (dA d_M_substituteNext 67 rfl) hq) ?_
  refine z_gd (fun g76 => ?_)
  refine z_go (fun Q hq => x_iald (dA d_M_substituteNext 68 rfl) (L.sh (x := (100, 96)) rfl) g76.1 g76.2 (by decide) (x_istore (dA d_M_substituteNext 69 rfl) (by decide) rfl (x_aload_n (dA d_M_substituteNext 70 rfl) rfl rfl (x_getR (dA d_M_substituteNext 71 rfl) f_M_124 (L.sh (x := (12, 66)) rfl) (by decide) (by decide) rfl (L.rf 146 rfl) (x_iload_n (dA d_M_substituteNext 72 rfl) rfl rfl (x_dup2 (dA d_M_substituteNext 73 rfl) rfl rfl hq)))))) ?_
  refine z_gd (fun g77 => ?_)
  refine z_go (fun Q hq => x_iald (dA d_M_substituteNext 74 rfl) (L.sh (x := (100, 8)) rfl) g77.1 g77.2 (by decide) (x_iload (dA d_M_substituteNext 75 rfl) rfl hq)) ?_
  refine z_br (fun Q => x_if_eq (dA d_M_substituteNext 76 rfl) rfl rv6) (fun c78 => ?_) (fun c78 => ?_)
  · refine z_go (fun Q hq => x_iconst (dA d_M_substituteNext 79 rfl) hq) ?_
    exact S_M_substituteNext_128 hd  L rv1 rv2 rv3 rv6 (L.rg _ _) rv1 (L.rg _ _) (inR_lit (1 : Int) rfl)
  · refine z_go (fun Q hq => x_iconst (dA d_M_substituteNext 77 rfl) (x_goto (dA d_M_substituteNext 78 rfl) rfl hq)) ?_
    exact S_M_substituteNext_128 hd  L rv1 rv2 rv3 rv6 (L.rg _ _) rv1 (L.rg _ _) (inR_lit (2 : Int) rfl)
noncomputable def F_M_substituteNext_85 (v1 : Int) (v2 : Int) (v3 : Int) (v4 : Int64) (s0 : Int) (h : MH) : RS Unit := gd (inR ((12 : Int) * v2)) (if s0 = 0 then F_M_substituteNext_107 v1 v2 v3 v4 s0 ((12 : Int) * v2) v3 h else gd (inR (v3 + (1 : Int))) (F_M_substituteNext_107 v1 v2 v3 v4 s0 ((12 : Int) * v2) (v3 + (1 : Int)) h))
theorem S_M_substituteNext_85 {d : Nat} (hd : 4 ≤ d) {v1 : Int} {v2 : Int} {v3 : Int} {v4 : Int64} {s0 : Int} {h : MH} (L : LayC h) (rv1 : inR v1) (rv2 : inR v2) (rv3 : inR v3) (rs0 : inR s0) : OK d k_M_substituteNext 85 [mR 107, mI v1, mI v2, mI v3, mL v4, mN, mN, mN, mN, mN, mN, mN] [mI s0] h cV pT (F_M_substituteNext_85  v1 v2 v3 v4 s0 h) := by
  unfold F_M_substituteNext_85
  refine z_go (fun Q hq => x_istore (dA d_M_substituteNext 54 rfl) (by decide) rfl (x_aload_n (dA d_M_substituteNext 55 rfl) rfl rfl (x_getR (dA d_M_substituteNext 56 rfl) f_M_75 (L.sh (x := (12, 66)) rfl) (by decide) (by decide) rfl (L.rf 130 rfl) (x_bipush (dA d_M_substituteNext 57 rfl) (by decide) (x_iload_n (dA d_M_substituteNext 58 rfl) rfl rfl hq))))) ?_
  refine z_gd (fun g79 => ?_)
  refine z_go (fun Q hq => x_imul (dA d_M_substituteNext 59 rfl) (x_iload (dA d_M_substituteNext 60 rfl) rfl hq)) ?_
  refine z_br (fun Q => x_if_eq (dA d_M_substituteNext 61 rfl) rfl rs0) (fun c80 => ?_) (fun c80 => ?_)
  · refine z_go (fun Q hq => x_iload_n (dA d_M_substituteNext 66 rfl) rfl rfl hq) ?_
    exact S_M_substituteNext_107 hd  L rv1 rv2 rv3 rs0 g79 rv3
  · refine z_go (fun Q hq => x_iload_n (dA d_M_substituteNext 62 rfl) rfl rfl (x_iconst (dA d_M_substituteNext 63 rfl) hq)) ?_
    refine z_gd (fun g81 => ?_)
    refine z_go (fun Q hq => x_iadd (dA d_M_substituteNext 64 rfl) (x_goto (dA d_M_substituteNext 65 rfl) rfl hq)) ?_
    exact S_M_substituteNext_107 hd  L rv1 rv2 rv3 rs0 g79 g81
noncomputable def F_M_substituteNext_84 (v1 : Int) (v2 : Int) (v3 : Int) (v4 : Int64) (h : MH) : RS Unit := F_M_substituteNext_85 v1 v2 v3 v4 (0 : Int) h
theorem S_M_substituteNext_84 {d : Nat} (hd : 4 ≤ d) {v1 : Int} {v2 : Int} {v3 : Int} {v4 : Int64} {h : MH} (L : LayC h) (rv1 : inR v1) (rv2 : inR v2) (rv3 : inR v3) : OK d k_M_substituteNext 84 [mR 107, mI v1, mI v2, mI v3, mL v4, mN, mN, mN, mN, mN, mN, mN] [] h cV pT (F_M_substituteNext_84  v1 v2 v3 v4 h) := by
  unfold F_M_substituteNext_84
  refine z_go (fun Q hq => x_iconst (dA d_M_substituteNext 53 rfl) hq) ?_
  exact S_M_substituteNext_85 hd  L rv1 rv2 rv3 (inR_lit (0 : Int) rfl)
noncomputable def F_M_substituteNext (h : MH) : RS Unit := gd (0 ≤ (mGi h 107 48) ∧ (mGi h 107 48) < 8) (gd (inR ((12 : Int) * (mGi h 144 (mGi h 107 48).toNat))) (gd (inR (((12 : Int) * (mGi h 144 (mGi h 107 48).toNat)) + (mGi h 145 (mGi h 107 48).toNat))) (gd (0 ≤ (((12 : Int) * (mGi h 144 (mGi h 107 48).toNat)) + (mGi h 145 (mGi h 107 48).toNat)) ∧ (((12 : Int) * (mGi h 144 (mGi h 107 48).toNat)) + (mGi h 145 (mGi h 107 48).toNat)) < 96) (gd (0 ≤ (mGi h 144 (mGi h 107 48).toNat) ∧ (mGi h 144 (mGi h 107 48).toNat) < 8) (if (mGi h 131 (mGi h 144 (mGi h 107 48).toNat).toNat) = 0 then F_M_substituteNext_84 (mGi h 107 48) (mGi h 144 (mGi h 107 48).toNat) (mGi h 145 (mGi h 107 48).toNat) (mGl h 125 (((12 : Int) * (mGi h 144 (mGi h 107 48).toNat)) + (mGi h 145 (mGi h 107 48).toNat)).toNat) h else bnd (F_M_isSign (mGl h 125 (((12 : Int) * (mGi h 144 (mGi h 107 48).toNat)) + (mGi h 145 (mGi h 107 48).toNat)).toNat) (35 : Int) h) fun x90 h88 => if x90 = 0 then F_M_substituteNext_84 (mGi h 107 48) (mGi h 144 (mGi h 107 48).toNat) (mGi h 145 (mGi h 107 48).toNat) (mGl h 125 (((12 : Int) * (mGi h 144 (mGi h 107 48).toNat)) + (mGi h 145 (mGi h 107 48).toNat)).toNat) h88 else gd (inR ((mGi h 145 (mGi h 107 48).toNat) + (1 : Int))) (if (mGi h88 128 (mGi h 144 (mGi h 107 48).toNat).toNat) ≤ ((mGi h 145 (mGi h 107 48).toNat) + (1 : Int)) then F_M_substituteNext_84 (mGi h 107 48) (mGi h 144 (mGi h 107 48).toNat) (mGi h 145 (mGi h 107 48).toNat) (mGl h 125 (((12 : Int) * (mGi h 144 (mGi h 107 48).toNat)) + (mGi h 145 (mGi h 107 48).toNat)).toNat) h88 else gd (inR ((((12 : Int) * (mGi h 144 (mGi h 107 48).toNat)) + (mGi h 145 (mGi h 107 48).toNat)) + (1 : Int))) (gd (0 ≤ ((((12 : Int) * (mGi h 144 (mGi h 107 48).toNat)) + (mGi h 145 (mGi h 107 48).toNat)) + (1 : Int)) ∧ ((((12 : Int) * (mGi h 144 (mGi h 107 48).toNat)) + (mGi h 145 (mGi h 107 48).toNat)) + (1 : Int)) < 96) (if (mGi h88 129 ((((12 : Int) * (mGi h 144 (mGi h 107 48).toNat)) + (mGi h 145 (mGi h 107 48).toNat)) + (1 : Int)).toNat) < 0 then F_M_substituteNext_84 (mGi h 107 48) (mGi h 144 (mGi h 107 48).toNat) (mGi h 145 (mGi h 107 48).toNat) (mGl h 125 (((12 : Int) * (mGi h 144 (mGi h 107 48).toNat)) + (mGi h 145 (mGi h 107 48).toNat)).toNat) h88 else F_M_substituteNext_85 (mGi h 107 48) (mGi h 144 (mGi h 107 48).toNat) (mGi h 145 (mGi h 107 48).toNat) (mGl h 125 (((12 : Int) * (mGi h 144 (mGi h 107 48).toNat)) + (mGi h 145 (mGi h 107 48).toNat)).toNat) (1 : Int) h88))))))))
theorem S_M_substituteNext {d : Nat} (hd : 4 ≤ d) {h : MH} (L : LayC h) : OK d k_M_substituteNext 0 [mR 107, mN, mN, mN, mN, mN, mN, mN, mN, mN, mN, mN] [] h cV pT (F_M_substituteNext   h) := by
  unfold F_M_substituteNext
  refine z_go (fun Q hq => x_aload_n (dA d_M_substituteNext 0 rfl) rfl rfl (x_getI (dA d_M_substituteNext 1 rfl) f_M_378 (L.sh (x := (12, 66)) rfl) (by decide) (by decide) rfl (x_istore_n (dA d_M_substituteNext 2 rfl) rfl (by decide) rfl (x_aload_n (dA d_M_substituteNext 3 rfl) rfl rfl (x_getR (dA d_M_substituteNext 4 rfl) f_M_121 (L.sh (x := (12, 66)) rfl) (by decide) (by decide) rfl (L.rf 145 rfl) (x_iload_n (dA d_M_substituteNext 5 rfl) rfl rfl hq)))))) ?_
  refine z_gd (fun g82 => ?_)
  refine z_go (fun Q hq => x_iald (dA d_M_substituteNext 6 rfl) (L.sh (x := (100, 8)) rfl) g82.1 g82.2 (by decide) (x_istore_n (dA d_M_substituteNext 7 rfl) rfl (by decide) rfl (x_aload_n (dA d_M_substituteNext 8 rfl) rfl rfl (x_getR (dA d_M_substituteNext 9 rfl) f_M_124 (L.sh (x := (12, 66)) rfl) (by decide) (by decide) rfl (L.rf 146 rfl) (x_iload_n (dA d_M_substituteNext 10 rfl) rfl rfl (x_iald (dA d_M_substituteNext 11 rfl) (L.sh (x := (100, 8)) rfl) g82.1 g82.2 (by decide) (x_istore_n (dA d_M_substituteNext 12 rfl) rfl (by decide) rfl (x_aload_n (dA d_M_substituteNext 13 rfl) rfl rfl (x_getR (dA d_M_substituteNext 14 rfl) f_M_63 (L.sh (x := (12, 66)) rfl) (by decide) (by decide) rfl (L.rf 126 rfl) (x_bipush (dA d_M_substituteNext 15 rfl) (by decide) (x_iload_n (dA d_M_substituteNext 16 rfl) rfl rfl hq))))))))))) ?_
  refine z_gd (fun g83 => ?_)
  refine z_go (fun Q hq => x_imul (dA d_M_substituteNext 17 rfl) (x_iload_n (dA d_M_substituteNext 18 rfl) rfl rfl hq)) ?_
  refine z_gd (fun g84 => ?_)
  refine z_go (fun Q hq => x_iadd (dA d_M_substituteNext 19 rfl) hq) ?_
  refine z_gd (fun g85 => ?_)
  refine z_go (fun Q hq => x_lald (dA d_M_substituteNext 20 rfl) (L.sh (x := (103, 96)) rfl) g85.1 g85.2 (by decide) (x_lstore (dA d_M_substituteNext 21 rfl) (by decide) rfl (x_aload_n (dA d_M_substituteNext 22 rfl) rfl rfl (x_getR (dA d_M_substituteNext 23 rfl) f_M_82 (L.sh (x := (12, 66)) rfl) (by decide) (by decide) rfl (L.rf 132 rfl) (x_iload_n (dA d_M_substituteNext 24 rfl) rfl rfl hq))))) ?_
  refine z_gd (fun g86 => ?_)
  refine z_go (fun Q hq => x_zald (dA d_M_substituteNext 25 rfl) (L.sh (x := (102, 8)) rfl) g86.1 g86.2 (by decide) hq) ?_
  refine z_br (fun Q => x_if_eq (dA d_M_substituteNext 26 rfl) rfl (L.rg _ _)) (fun c87 => ?_) (fun c87 => ?_)
  · exact S_M_substituteNext_84 hd  L (L.rg _ _) (L.rg _ _) (L.rg _ _)
  · refine z_go (fun Q hq => x_aload_n (dA d_M_substituteNext 27 rfl) rfl rfl (x_lload (dA d_M_substituteNext 28 rfl) rfl (x_bipush (dA d_M_substituteNext 29 rfl) (by decide) hq))) ?_
    refine z_bnd (rest := []) (st1 := fun v => mI v :: []) (S_M_isSign (d := 1) (Nat.le_refl _) L (inR_lit (35 : Int) rfl)) (fun _ hx => absurd hx List.not_mem_nil) (fun _ => rfl) (fun Q' Q => x_callV (as := [mL (mGl h 125 (((12 : Int) * (mGi h 144 (mGi h 107 48).toNat)) + (mGi h 145 (mGi h 107 48).toNat)).toNat), mI (35 : Int)]) (rest := []) (k' := k_M_isSign) (dA d_M_substituteNext 30 rfl) o_M_isSign lk_M_350 im_M_isSign se_M_isSign rfl (L.sh (x := (12, 66)) rfl) (by decide) (Nat.le_of_ble_eq_true rfl) (Nat.le_trans (Nat.le_of_ble_eq_true rfl) hd) (Nat.le_of_ble_eq_true rfl)) (fun x90 h88 e89 p91 => ?_)
    have L92 := L.ext e89
    refine z_br (fun Q => x_if_eq (dA d_M_substituteNext 31 rfl) rfl p91.inR) (fun c93 => ?_) (fun c93 => ?_)
    · exact S_M_substituteNext_84 hd  L92 (L.rg _ _) (L.rg _ _) (L.rg _ _)
    · refine z_go (fun Q hq => x_iload_n (dA d_M_substituteNext 32 rfl) rfl rfl (x_iconst (dA d_M_substituteNext 33 rfl) hq)) ?_
      refine z_gd (fun g94 => ?_)
      refine z_go (fun Q hq => x_iadd (dA d_M_substituteNext 34 rfl) (x_aload_n (dA d_M_substituteNext 35 rfl) rfl rfl (x_getR (dA d_M_substituteNext 36 rfl) f_M_72 (L92.sh (x := (12, 66)) rfl) (by decide) (by decide) rfl (L92.rf 129 rfl) (x_iload_n (dA d_M_substituteNext 37 rfl) rfl rfl (x_iald (dA d_M_substituteNext 38 rfl) (L92.sh (x := (100, 8)) rfl) g86.1 g86.2 (by decide) hq))))) ?_
      refine z_br (fun Q => x_icmp_ge (dA d_M_substituteNext 39 rfl) rfl g94 (L92.rg _ _)) (fun c95 => ?_) (fun c95 => ?_)
      · exact S_M_substituteNext_84 hd  L92 (L.rg _ _) (L.rg _ _) (L.rg _ _)
      · refine z_go (fun Q hq => x_aload_n (dA d_M_substituteNext 40 rfl) rfl rfl (x_getR (dA d_M_substituteNext 41 rfl) f_M_75 (L92.sh (x := (12, 66)) rfl) (by decide) (by decide) rfl (L92.rf 130 rfl) (x_bipush (dA d_M_substituteNext 42 rfl) (by decide) (x_iload_n (dA d_M_substituteNext 43 rfl) rfl rfl (x_imul (dA d_M_substituteNext 44 rfl) (x_iload_n (dA d_M_substituteNext 45 rfl) rfl rfl (x_iadd (dA d_M_substituteNext 46 rfl) (x_iconst (dA d_M_substituteNext 47 rfl) hq)))))))) ?_
        refine z_gd (fun g96 => ?_)
        refine z_go (fun Q hq => x_iadd (dA d_M_substituteNext 48 rfl) hq) ?_
        refine z_gd (fun g97 => ?_)
        refine z_go (fun Q hq => x_iald (dA d_M_substituteNext 49 rfl) (L92.sh (x := (100, 96)) rfl) g97.1 g97.2 (by decide) hq) ?_
        refine z_br (fun Q => x_if_lt (dA d_M_substituteNext 50 rfl) rfl (L92.rg _ _)) (fun c98 => ?_) (fun c98 => ?_)
        · exact S_M_substituteNext_84 hd  L92 (L.rg _ _) (L.rg _ _) (L.rg _ _)
        · refine z_go (fun Q hq => x_iconst (dA d_M_substituteNext 51 rfl) (x_goto (dA d_M_substituteNext 52 rfl) rfl hq)) ?_
          exact S_M_substituteNext_85 hd  L92 (L.rg _ _) (L.rg _ _) (L.rg _ _) (inR_lit (1 : Int) rfl)
/-! TwoMillsModel.expand(II)V -/
noncomputable def F_M_expand_100 (G22 : Int → MH → RS Unit) (s0 : Int) (h : MH) : RS Unit := G22 s0 h
theorem S_M_expand_100 {d : Nat} (hd : 5 ≤ d) {G22 : Int → MH → RS Unit} (hG22 : ∀ (v3 : Int) (h : MH), LayC h → inR v3 → OK d k_M_expand 22 [mR 107, mN, mN, mI v3, mN] [] h cV pT (G22 v3 h)) {s0 : Int} {h : MH} (L : LayC h) (rs0 : inR s0) : OK d k_M_expand 100 [mR 107, mN, mN, mN, mN] [mI s0] h cV pT (F_M_expand_100 G22 s0 h) := by
  unfold F_M_expand_100
  refine z_go (fun Q hq => x_istore_n (dA d_M_expand 53 rfl) rfl (by decide) rfl (x_goto (dA d_M_expand 54 rfl) rfl hq)) ?_
  exact hG22 s0 h L rs0
noncomputable def F_M_expand_99 (G22 : Int → MH → RS Unit) (h : MH) : RS Unit := F_M_expand_100 G22 (0 : Int) h
theorem S_M_expand_99 {d : Nat} (hd : 5 ≤ d) {G22 : Int → MH → RS Unit} (hG22 : ∀ (v3 : Int) (h : MH), LayC h → inR v3 → OK d k_M_expand 22 [mR 107, mN, mN, mI v3, mN] [] h cV pT (G22 v3 h)) {h : MH} (L : LayC h) : OK d k_M_expand 99 [mR 107, mN, mN, mN, mN] [] h cV pT (F_M_expand_99 G22  h) := by
  unfold F_M_expand_99
  refine z_go (fun Q hq => x_iconst (dA d_M_expand 52 rfl) hq) ?_
  exact S_M_expand_100 hd hG22 L (inR_lit (0 : Int) rfl)
noncomputable def F_M_expand_84 (G22 : Int → MH → RS Unit) (v3 : Int) (h : MH) : RS Unit := if v3 = 0 then F_M_expand_99 G22 h else if (mGi h 107 1) = 0 then F_M_expand_100 G22 (1 : Int) h else F_M_expand_99 G22 h
theorem S_M_expand_84 {d : Nat} (hd : 5 ≤ d) {G22 : Int → MH → RS Unit} (hG22 : ∀ (v3 : Int) (h : MH), LayC h → inR v3 → OK d k_M_expand 22 [mR 107, mN, mN, mI v3, mN] [] h cV pT (G22 v3 h)) {v3 : Int} {h : MH} (L : LayC h) (rv3 : inR v3) : OK d k_M_expand 84 [mR 107, mN, mN, mI v3, mN] [] h cV pT (F_M_expand_84 G22 v3 h) := by
  unfold F_M_expand_84
  refine z_go (fun Q hq => x_iload_n (dA d_M_expand 45 rfl) rfl rfl hq) ?_
  refine z_br (fun Q => x_if_eq (dA d_M_expand 46 rfl) rfl rv3) (fun c1 => ?_) (fun c1 => ?_)
  · refine z_fgt (ls' := [mR 107, mN, mN, mN, mN]) ⟨.inr rfl, .inl rfl, .inl rfl, .inl rfl, .inl rfl, trivial⟩ ?_
    exact S_M_expand_99 hd hG22 L 
  · refine z_go (fun Q hq => x_aload_n (dA d_M_expand 47 rfl) rfl rfl (x_getI (dA d_M_expand 48 rfl) f_M_140 (L.sh (x := (12, 66)) rfl) (by decide) (by decide) rfl hq)) ?_
    refine z_brn (fun Q => x_if_ne (dA d_M_expand 49 rfl) rfl (L.rg _ _)) (fun c2 => ?_) (fun c2 => ?_)
    · refine z_go (fun Q hq => x_iconst (dA d_M_expand 50 rfl) (x_goto (dA d_M_expand 51 rfl) rfl hq)) ?_
      refine z_fgt (ls' := [mR 107, mN, mN, mN, mN]) ⟨.inr rfl, .inl rfl, .inl rfl, .inl rfl, .inl rfl, trivial⟩ ?_
      exact S_M_expand_100 hd hG22 L (inR_lit (1 : Int) rfl)
    · refine z_fgt (ls' := [mR 107, mN, mN, mN, mN]) ⟨.inr rfl, .inl rfl, .inl rfl, .inl rfl, .inl rfl, trivial⟩ ?_
      exact S_M_expand_99 hd hG22 L 
noncomputable def F_M_expand_22_b (G22 : Int → MH → RS Unit) (v3 : Int) (h : MH) : RS Unit := if v3 = 0 then some (.inl (), h) else gd (0 ≤ (mGi h 107 48) ∧ (mGi h 107 48) < 8) (if 0 ≤ (mGi h 144 (mGi h 107 48).toNat) then gd (0 ≤ (mGi h 144 (mGi h 107 48).toNat) ∧ (mGi h 144 (mGi h 107 48).toNat) < 8) (if (mGi h 128 (mGi h 144 (mGi h 107 48).toNat).toNat) ≤ (mGi h 145 (mGi h 107 48).toNat) then bnd (F_M_comeIn (mGi h 107 48) h) fun x10 h8 => F_M_expand_84 G22 v3 h8 else bnd (F_M_substituteNext h) fun x15 h13 => F_M_expand_84 G22 v3 h13) else bnd (F_M_scanNext h) fun x20 h18 => F_M_expand_84 G22 x20 h18)
theorem S_M_expand_22_b {d : Nat} (hd : 5 ≤ d) {G22 : Int → MH → RS Unit} (hG22 : ∀ (v3 : Int) (h : MH), LayC h → inR v3 → OK d k_M_expand 22 [mR 107, mN, mN, mI v3, mN] [] h cV pT (G22 v3 h)) {v3 : Int} {h : MH} (L : LayC h) (rv3 : inR v3) : OK d k_M_expand 22 [mR 107, mN, mN, mI v3, mN] [] h cV pT (F_M_expand_22_b G22 v3 h) := by
  unfold F_M_expand_22_b
  refine z_go (fun Q hq => x_iload_n (dA d_M_expand 14 rfl) rfl rfl hq) ?_
  refine z_br (fun Q => x_if_eq (dA d_M_expand 15 rfl) rfl rv3) (fun c3 => ?_) (fun c3 => ?_)
  · exact z_retv (dA d_M_expand 55 rfl) rfl
  · refine z_go (fun Q hq => x_aload_n (dA d_M_expand 16 rfl) rfl rfl (x_getR (dA d_M_expand 17 rfl) f_M_121 (L.sh (x := (12, 66)) rfl) (by decide) (by decide) rfl (L.rf 145 rfl) (x_aload_n (dA d_M_expand 18 rfl) rfl rfl (x_getI (dA d_M_expand 19 rfl) f_M_378 (L.sh (x := (12, 66)) rfl) (by decide) (by decide) rfl hq)))) ?_
    refine z_gd (fun g4 => ?_)
    refine z_go (fun Q hq => x_iald (dA d_M_expand 20 rfl) (L.sh (x := (100, 8)) rfl) g4.1 g4.2 (by decide) (x_istore (dA d_M_expand 21 rfl) (by decide) rfl (x_iload (dA d_M_expand 22 rfl) rfl hq))) ?_
    refine z_br (fun Q => x_if_ge (dA d_M_expand 23 rfl) rfl (L.rg _ _)) (fun c5 => ?_) (fun c5 => ?_)
    · refine z_go (fun Q hq => x_aload_n (dA d_M_expand 28 rfl) rfl rfl (x_getR (dA d_M_expand 29 rfl) f_M_124 (L.sh (x := (12, 66)) rfl) (by decide) (by decide) rfl (L.rf 146 rfl) (x_aload_n (dA d_M_expand 30 rfl) rfl rfl (x_getI (dA d_M_expand 31 rfl) f_M_378 (L.sh (x := (12, 66)) rfl) (by decide) (by decide) rfl (x_iald (dA d_M_expand 32 rfl) (L.sh (x := (100, 8)) rfl) g4.1 g4.2 (by decide) (x_aload_n (dA d_M_expand 33 rfl) rfl rfl (x_getR (dA d_M_expand 34 rfl) f_M_72 (L.sh (x := (12, 66)) rfl) (by decide) (by decide) rfl (L.rf 129 rfl) (x_iload (dA d_M_expand 35 rfl) rfl hq)))))))) ?_
      refine z_gd (fun g6 => ?_)
      refine z_go (fun Q hq => x_iald (dA d_M_expand 36 rfl) (L.sh (x := (100, 8)) rfl) g6.1 g6.2 (by decide) hq) ?_
      refine z_br (fun Q => x_icmp_ge (dA d_M_expand 37 rfl) rfl (L.rg _ _) (L.rg _ _)) (fun c7 => ?_) (fun c7 => ?_)
      · refine z_go (fun Q hq => x_aload_n (dA d_M_expand 41 rfl) rfl rfl (x_aload_n (dA d_M_expand 42 rfl) rfl rfl (x_getI (dA d_M_expand 43 rfl) f_M_378 (L.sh (x := (12, 66)) rfl) (by decide) (by decide) rfl hq))) ?_
        refine z_bnd (rest := []) (st1 := fun _ => []) (S_M_comeIn (d := 4) (Nat.le_refl _) L (L.rg _ _)) (fun _ hx => absurd hx List.not_mem_nil) (fun _ => rfl) (fun Q' Q => x_callV (as := [mI (mGi h 107 48)]) (rest := []) (k' := k_M_comeIn) (dA d_M_expand 44 rfl) o_M_comeIn lk_M_391 im_M_comeIn se_M_comeIn rfl (L.sh (x := (12, 66)) rfl) (by decide) (Nat.le_of_ble_eq_true rfl) (Nat.le_trans (Nat.le_of_ble_eq_true rfl) hd) (Nat.le_of_ble_eq_true rfl)) (fun x10 h8 e9 p11 => ?_)
        have L12 := L.ext e9
        refine z_fgt (ls' := [mR 107, mN, mN, mI v3, mN]) ⟨.inr rfl, .inl rfl, .inl rfl, .inr rfl, .inl rfl, trivial⟩ ?_
        exact S_M_expand_84 hd hG22 L12 rv3
      · refine z_go (fun Q hq => x_aload_n (dA d_M_expand 38 rfl) rfl rfl hq) ?_
        refine z_bnd (rest := []) (st1 := fun _ => []) (S_M_substituteNext (d := 4) (Nat.le_refl _) L ) (fun _ hx => absurd hx List.not_mem_nil) (fun _ => rfl) (fun Q' Q => x_callV (as := []) (rest := []) (k' := k_M_substituteNext) (dA d_M_expand 39 rfl) o_M_substituteNext lk_M_388 im_M_substituteNext se_M_substituteNext rfl (L.sh (x := (12, 66)) rfl) (by decide) (Nat.le_of_ble_eq_true rfl) (Nat.le_trans (Nat.le_of_ble_eq_true rfl) hd) (Nat.le_of_ble_eq_true rfl)) (fun x15 h13 e14 p16 => ?_)
        have L17 := L.ext e14
        refine z_go (fun Q hq => x_goto (dA d_M_expand 40 rfl) rfl hq) ?_
        refine z_fgt (ls' := [mR 107, mN, mN, mI v3, mN]) ⟨.inr rfl, .inl rfl, .inl rfl, .inr rfl, .inl rfl, trivial⟩ ?_
        exact S_M_expand_84 hd hG22 L17 rv3
    · refine z_go (fun Q hq => x_aload_n (dA d_M_expand 24 rfl) rfl rfl hq) ?_
      refine z_bnd (rest := []) (st1 := fun v => mI v :: []) (S_M_scanNext (d := 3) (Nat.le_refl _) L ) (fun _ hx => absurd hx List.not_mem_nil) (fun _ => rfl) (fun Q' Q => x_callV (as := []) (rest := []) (k' := k_M_scanNext) (dA d_M_expand 25 rfl) o_M_scanNext lk_M_384 im_M_scanNext se_M_scanNext rfl (L.sh (x := (12, 66)) rfl) (by decide) (Nat.le_of_ble_eq_true rfl) (Nat.le_trans (Nat.le_of_ble_eq_true rfl) hd) (Nat.le_of_ble_eq_true rfl)) (fun x20 h18 e19 p21 => ?_)
      have L22 := L.ext e19
      refine z_go (fun Q hq => x_istore_n (dA d_M_expand 26 rfl) rfl (by decide) rfl (x_goto (dA d_M_expand 27 rfl) rfl hq)) ?_
      refine z_fgt (ls' := [mR 107, mN, mN, mI x20, mN]) ⟨.inr rfl, .inl rfl, .inl rfl, .inr rfl, .inl rfl, trivial⟩ ?_
      exact S_M_expand_84 hd hG22 L22 p21.inR
noncomputable def F_M_expand_22 (v3 : Int) (h : MH) : RS Unit := itr (fun self (q : Int × MH) => F_M_expand_22_b (fun v3 h => self (v3, h)) q.1 q.2) FU (v3, h)
theorem S_M_expand_22 {d : Nat} (hd : 5 ≤ d) {v3 : Int} {h : MH} (L : LayC h) (rv3 : inR v3) : OK d k_M_expand 22 [mR 107, mN, mN, mI v3, mN] [] h cV pT (F_M_expand_22  v3 h) := by
  unfold F_M_expand_22
  refine z_itr (P := fun q : Int × MH => LayC q.2 ∧ inR q.1 ∧ True) (ls := fun q : Int × MH => [mR 107, mN, mN, mI q.1, mN]) (hp := fun q : Int × MH => q.2) (fun self hs q hq => ?_) FU (v3, h) ⟨L, rv3, trivial⟩
  exact S_M_expand_22_b hd (fun v3 h L rv3 => hs (v3, h) ⟨L, rv3, trivial⟩) hq.1 hq.2.1
noncomputable def F_M_expand_21 (s0 : Int) (h : MH) : RS Unit := F_M_expand_22 s0 h
theorem S_M_expand_21 {d : Nat} (hd : 5 ≤ d) {s0 : Int} {h : MH} (L : LayC h) (rs0 : inR s0) : OK d k_M_expand 21 [mR 107, mN, mN, mN, mN] [mI s0] h cV pT (F_M_expand_21  s0 h) := by
  unfold F_M_expand_21
  refine z_go (fun Q hq => x_istore_n (dA d_M_expand 13 rfl) rfl (by decide) rfl hq) ?_
  exact S_M_expand_22 hd  L rs0
noncomputable def F_M_expand (a1 : Int) (a2 : Int) (h : MH) : RS Unit := gd (inR (a2 - a1)) (bnd (F_M_beginRow (0 : Int) a1 (a2 - a1) h) fun x26 h24 => if (mGi h24 107 1) = 0 then F_M_expand_21 (1 : Int) h24 else F_M_expand_21 (0 : Int) h24)
theorem S_M_expand {d : Nat} (hd : 5 ≤ d) {a1 : Int} {a2 : Int} {h : MH} (L : LayC h) (ra1 : inR a1) (ra2 : inR a2) : OK d k_M_expand 0 [mR 107, mI a1, mI a2, mN, mN] [] h cV pT (F_M_expand  a1 a2 h) := by
  unfold F_M_expand
  refine z_go (fun Q hq => x_aload_n (dA d_M_expand 0 rfl) rfl rfl (x_iconst (dA d_M_expand 1 rfl) (x_iload_n (dA d_M_expand 2 rfl) rfl rfl (x_iload_n (dA d_M_expand 3 rfl) rfl rfl (x_iload_n (dA d_M_expand 4 rfl) rfl rfl hq))))) ?_
  refine z_gd (fun g23 => ?_)
  refine z_go (fun Q hq => x_isub (dA d_M_expand 5 rfl) hq) ?_
  refine z_bnd (rest := []) (st1 := fun _ => []) (S_M_beginRow (d := 2) (Nat.le_refl _) L (inR_lit (0 : Int) rfl) ra1 g23) (fun _ hx => absurd hx List.not_mem_nil) (fun _ => rfl) (fun Q' Q => x_callV (as := [mI (0 : Int), mI a1, mI (a2 - a1)]) (rest := []) (k' := k_M_beginRow) (dA d_M_expand 6 rfl) o_M_beginRow lk_M_381 im_M_beginRow se_M_beginRow rfl (L.sh (x := (12, 66)) rfl) (by decide) (Nat.le_of_ble_eq_true rfl) (Nat.le_trans (Nat.le_of_ble_eq_true rfl) hd) (Nat.le_of_ble_eq_true rfl)) (fun x26 h24 e25 p27 => ?_)
  have L28 := L.ext e25
  refine z_go (fun Q hq => x_aload_n (dA d_M_expand 7 rfl) rfl rfl (x_getI (dA d_M_expand 8 rfl) f_M_140 (L28.sh (x := (12, 66)) rfl) (by decide) (by decide) rfl hq)) ?_
  refine z_brn (fun Q => x_if_ne (dA d_M_expand 9 rfl) rfl (L28.rg _ _)) (fun c29 => ?_) (fun c29 => ?_)
  · refine z_go (fun Q hq => x_iconst (dA d_M_expand 10 rfl) (x_goto (dA d_M_expand 11 rfl) rfl hq)) ?_
    refine z_fgt (ls' := [mR 107, mN, mN, mN, mN]) ⟨.inr rfl, .inl rfl, .inl rfl, .inl rfl, .inl rfl, trivial⟩ ?_
    exact S_M_expand_21 hd  L28 (inR_lit (1 : Int) rfl)
  · refine z_go (fun Q hq => x_iconst (dA d_M_expand 12 rfl) hq) ?_
    refine z_fgt (ls' := [mR 107, mN, mN, mN, mN]) ⟨.inr rfl, .inl rfl, .inl rfl, .inl rfl, .inl rfl, trivial⟩ ?_
    exact S_M_expand_21 hd  L28 (inR_lit (0 : Int) rfl)
/-! TwoMillsModel.strength(I)I -/
noncomputable def F_M_strength (a1 : Int) (h : MH) : RS Int := if a1 = (37 : Int) then some (.inl (10 : Int), h) else if a1 = (38 : Int) then some (.inl (5 : Int), h) else if a1 = (42 : Int) then some (.inl (10 : Int), h) else if a1 = (43 : Int) then some (.inl (9 : Int), h) else if a1 = (45 : Int) then some (.inl (9 : Int), h) else if a1 = (47 : Int) then some (.inl (10 : Int), h) else if a1 = (60 : Int) then some (.inl (7 : Int), h) else if a1 = (62 : Int) then some (.inl (7 : Int), h) else if a1 = (94 : Int) then some (.inl (4 : Int), h) else if a1 = (124 : Int) then some (.inl (3 : Int), h) else if a1 = (9766 : Int) then some (.inl (2 : Int), h) else if a1 = (15420 : Int) then some (.inl (8 : Int), h) else if a1 = (15649 : Int) then some (.inl (6 : Int), h) else if a1 = (15676 : Int) then some (.inl (7 : Int), h) else if a1 = (15677 : Int) then some (.inl (6 : Int), h) else if a1 = (15678 : Int) then some (.inl (7 : Int), h) else if a1 = (15934 : Int) then some (.inl (8 : Int), h) else if a1 = (31868 : Int) then some (.inl (1 : Int), h) else some (.inl (0 : Int), h)
theorem S_M_strength {d : Nat} (hd : 0 ≤ d) {a1 : Int} {h : MH} (L : LayC h) (ra1 : inR a1) : OK d k_M_strength 0 [mI a1] [] h cI inR (F_M_strength  a1 h) := by
  unfold F_M_strength
  refine z_go (fun Q hq => x_iload_n (dA d_M_strength 0 rfl) rfl rfl hq) ?_
  refine z_ite (fun c1 => ?_) (fun c1 => ?_)
  · refine z_go (fun Q hq => x_lookup (dA d_M_strength 1 rfl) rfl ra1 (by rw [c1] <;> rfl) rfl hq) ?_
    refine z_go (fun Q hq => x_bipush (dA d_M_strength 2 rfl) (by decide) hq) ?_
    exact z_reti (dA d_M_strength 3 rfl) rfl (inR_lit (10 : Int) rfl)
  refine z_ite (fun c2 => ?_) (fun c2 => ?_)
  · refine z_go (fun Q hq => x_lookup (dA d_M_strength 1 rfl) rfl ra1 (by rw [c2] <;> rfl) rfl hq) ?_
    refine z_go (fun Q hq => x_iconst (dA d_M_strength 12 rfl) hq) ?_
    exact z_reti (dA d_M_strength 13 rfl) rfl (inR_lit (5 : Int) rfl)
  refine z_ite (fun c3 => ?_) (fun c3 => ?_)
  · refine z_go (fun Q hq => x_lookup (dA d_M_strength 1 rfl) rfl ra1 (by rw [c3] <;> rfl) rfl hq) ?_
    refine z_go (fun Q hq => x_bipush (dA d_M_strength 2 rfl) (by decide) hq) ?_
    exact z_reti (dA d_M_strength 3 rfl) rfl (inR_lit (10 : Int) rfl)
  refine z_ite (fun c4 => ?_) (fun c4 => ?_)
  · refine z_go (fun Q hq => x_lookup (dA d_M_strength 1 rfl) rfl ra1 (by rw [c4] <;> rfl) rfl hq) ?_
    refine z_go (fun Q hq => x_bipush (dA d_M_strength 4 rfl) (by decide) hq) ?_
    exact z_reti (dA d_M_strength 5 rfl) rfl (inR_lit (9 : Int) rfl)
  refine z_ite (fun c5 => ?_) (fun c5 => ?_)
  · refine z_go (fun Q hq => x_lookup (dA d_M_strength 1 rfl) rfl ra1 (by rw [c5] <;> rfl) rfl hq) ?_
    refine z_go (fun Q hq => x_bipush (dA d_M_strength 4 rfl) (by decide) hq) ?_
    exact z_reti (dA d_M_strength 5 rfl) rfl (inR_lit (9 : Int) rfl)
  refine z_ite (fun c6 => ?_) (fun c6 => ?_)
  · refine z_go (fun Q hq => x_lookup (dA d_M_strength 1 rfl) rfl ra1 (by rw [c6] <;> rfl) rfl hq) ?_
    refine z_go (fun Q hq => x_bipush (dA d_M_strength 2 rfl) (by decide) hq) ?_
    exact z_reti (dA d_M_strength 3 rfl) rfl (inR_lit (10 : Int) rfl)
  refine z_ite (fun c7 => ?_) (fun c7 => ?_)
  · refine z_go (fun Q hq => x_lookup (dA d_M_strength 1 rfl) rfl ra1 (by rw [c7] <;> rfl) rfl hq) ?_
    refine z_go (fun Q hq => x_bipush (dA d_M_strength 8 rfl) (by decide) hq) ?_
    exact z_reti (dA d_M_strength 9 rfl) rfl (inR_lit (7 : Int) rfl)
  refine z_ite (fun c8 => ?_) (fun c8 => ?_)
  · refine z_go (fun Q hq => x_lookup (dA d_M_strength 1 rfl) rfl ra1 (by rw [c8] <;> rfl) rfl hq) ?_
    refine z_go (fun Q hq => x_bipush (dA d_M_strength 8 rfl) (by decide) hq) ?_
    exact z_reti (dA d_M_strength 9 rfl) rfl (inR_lit (7 : Int) rfl)
  refine z_ite (fun c9 => ?_) (fun c9 => ?_)
  · refine z_go (fun Q hq => x_lookup (dA d_M_strength 1 rfl) rfl ra1 (by rw [c9] <;> rfl) rfl hq) ?_
    refine z_go (fun Q hq => x_iconst (dA d_M_strength 14 rfl) hq) ?_
    exact z_reti (dA d_M_strength 15 rfl) rfl (inR_lit (4 : Int) rfl)
  refine z_ite (fun c10 => ?_) (fun c10 => ?_)
  · refine z_go (fun Q hq => x_lookup (dA d_M_strength 1 rfl) rfl ra1 (by rw [c10] <;> rfl) rfl hq) ?_
    refine z_go (fun Q hq => x_iconst (dA d_M_strength 16 rfl) hq) ?_
    exact z_reti (dA d_M_strength 17 rfl) rfl (inR_lit (3 : Int) rfl)
  refine z_ite (fun c11 => ?_) (fun c11 => ?_)
  · refine z_go (fun Q hq => x_lookup (dA d_M_strength 1 rfl) rfl ra1 (by rw [c11] <;> rfl) rfl hq) ?_
    refine z_go (fun Q hq => x_iconst (dA d_M_strength 18 rfl) hq) ?_
    exact z_reti (dA d_M_strength 19 rfl) rfl (inR_lit (2 : Int) rfl)
  refine z_ite (fun c12 => ?_) (fun c12 => ?_)
  · refine z_go (fun Q hq => x_lookup (dA d_M_strength 1 rfl) rfl ra1 (by rw [c12] <;> rfl) rfl hq) ?_
    refine z_go (fun Q hq => x_bipush (dA d_M_strength 6 rfl) (by decide) hq) ?_
    exact z_reti (dA d_M_strength 7 rfl) rfl (inR_lit (8 : Int) rfl)
  refine z_ite (fun c13 => ?_) (fun c13 => ?_)
  · refine z_go (fun Q hq => x_lookup (dA d_M_strength 1 rfl) rfl ra1 (by rw [c13] <;> rfl) rfl hq) ?_
    refine z_go (fun Q hq => x_bipush (dA d_M_strength 10 rfl) (by decide) hq) ?_
    exact z_reti (dA d_M_strength 11 rfl) rfl (inR_lit (6 : Int) rfl)
  refine z_ite (fun c14 => ?_) (fun c14 => ?_)
  · refine z_go (fun Q hq => x_lookup (dA d_M_strength 1 rfl) rfl ra1 (by rw [c14] <;> rfl) rfl hq) ?_
    refine z_go (fun Q hq => x_bipush (dA d_M_strength 8 rfl) (by decide) hq) ?_
    exact z_reti (dA d_M_strength 9 rfl) rfl (inR_lit (7 : Int) rfl)
  refine z_ite (fun c15 => ?_) (fun c15 => ?_)
  · refine z_go (fun Q hq => x_lookup (dA d_M_strength 1 rfl) rfl ra1 (by rw [c15] <;> rfl) rfl hq) ?_
    refine z_go (fun Q hq => x_bipush (dA d_M_strength 10 rfl) (by decide) hq) ?_
    exact z_reti (dA d_M_strength 11 rfl) rfl (inR_lit (6 : Int) rfl)
  refine z_ite (fun c16 => ?_) (fun c16 => ?_)
  · refine z_go (fun Q hq => x_lookup (dA d_M_strength 1 rfl) rfl ra1 (by rw [c16] <;> rfl) rfl hq) ?_
    refine z_go (fun Q hq => x_bipush (dA d_M_strength 8 rfl) (by decide) hq) ?_
    exact z_reti (dA d_M_strength 9 rfl) rfl (inR_lit (7 : Int) rfl)
  refine z_ite (fun c17 => ?_) (fun c17 => ?_)
  · refine z_go (fun Q hq => x_lookup (dA d_M_strength 1 rfl) rfl ra1 (by rw [c17] <;> rfl) rfl hq) ?_
    refine z_go (fun Q hq => x_bipush (dA d_M_strength 6 rfl) (by decide) hq) ?_
    exact z_reti (dA d_M_strength 7 rfl) rfl (inR_lit (8 : Int) rfl)
  refine z_ite (fun c18 => ?_) (fun c18 => ?_)
  · refine z_go (fun Q hq => x_lookup (dA d_M_strength 1 rfl) rfl ra1 (by rw [c18] <;> rfl) rfl hq) ?_
    refine z_go (fun Q hq => x_iconst (dA d_M_strength 20 rfl) hq) ?_
    exact z_reti (dA d_M_strength 21 rfl) rfl (inR_lit (1 : Int) rfl)
  refine z_go (fun Q hq => x_lookup (off := 180) (dA d_M_strength 1 rfl) rfl ra1 (by simp [Op.lookupswitch.offset, c1, c2, c3, c4, c5, c6, c7, c8, c9, c10, c11, c12, c13, c14, c15, c16, c17, c18, Ne.symm c1, Ne.symm c2, Ne.symm c3, Ne.symm c4, Ne.symm c5, Ne.symm c6, Ne.symm c7, Ne.symm c8, Ne.symm c9, Ne.symm c10, Ne.symm c11, Ne.symm c12, Ne.symm c13, Ne.symm c14, Ne.symm c15, Ne.symm c16, Ne.symm c17, Ne.symm c18]) rfl hq) ?_
  refine z_go (fun Q hq => x_iconst (dA d_M_strength 22 rfl) hq) ?_
  exact z_reti (dA d_M_strength 23 rfl) rfl (inR_lit (0 : Int) rfl)
/-! TwoMillsModel.bit(Z)J -/
noncomputable def F_M_bit (a1 : Int) (h : MH) : RS Int64 := if a1 = 0 then some (.inl (0 : Int64), h) else some (.inl (1 : Int64), h)
theorem S_M_bit {d : Nat} (hd : 0 ≤ d) {a1 : Int} {h : MH} (L : LayC h) (ra1 : p01 a1) : OK d k_M_bit 0 [mI a1] [] h cJ pT (F_M_bit  a1 h) := by
  unfold F_M_bit
  refine z_go (fun Q hq => x_iload_n (dA d_M_bit 0 rfl) rfl rfl hq) ?_
  refine z_br (fun Q => x_if_eq (dA d_M_bit 1 rfl) rfl ra1.inR) (fun c1 => ?_) (fun c1 => ?_)
  · refine z_go (fun Q hq => x_lconst (v := 0) (dA d_M_bit 4 rfl) rfl hq) ?_
    exact z_retj (dA d_M_bit 5 rfl) rfl
  · refine z_go (fun Q hq => x_lconst (v := 1) (dA d_M_bit 2 rfl) rfl (x_goto (dA d_M_bit 3 rfl) rfl hq)) ?_
    exact z_retj (dA d_M_bit 5 rfl) rfl
end Fns
