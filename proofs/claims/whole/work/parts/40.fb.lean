section Fns
/-! TwoMills$FirstMill.increment(II)V -/
noncomputable def F_Fm_increment_134 (s1 : Int) (h : MH) : RS Unit := gd (inR (s1 + (1 : Int))) (bnd (F_Le_addNumber 84 500 (s1 + (1 : Int)) h) fun x4 h2 => some (.inl (), h2))
theorem S_Fm_increment_134 {d : Nat} (hd : 2 ≤ d) {s1 : Int} {h : MH} (L : LayC h) (rs1 : inR s1) : OK d k_Fm_increment 134 [mN, mN, mN, mN, mN, mN, mN, mN] [mI s1, mR 84] h cV pT (F_Fm_increment_134  s1 h) := by
  unfold F_Fm_increment_134
  refine z_go (fun Q hq => x_iconst (dA d_Fm_increment 74 rfl) hq) ?_
  refine z_gd (fun g1 => ?_)
  refine z_go (fun Q hq => x_iadd (dA d_Fm_increment 75 rfl) hq) ?_
  refine z_bnd (rest := []) (st1 := fun _ => []) (S_Le_addNumber (d := 1) (Nat.le_refl _) L (L.le rfl 85 rfl rfl (by decide)) g1) (fun _ hx => absurd hx List.not_mem_nil) (fun _ => rfl) (fun Q' Q => x_callV (as := [mI (s1 + (1 : Int))]) (rest := []) (k' := k_Le_addNumber) (dA d_Fm_increment 76 rfl) o_Le_addNumber lk_Fm_219 im_Le_addNumber se_Le_addNumber rfl (L.sh (x := (1, 3)) rfl) (by decide) (Nat.le_of_ble_eq_true rfl) (Nat.le_trans (Nat.le_of_ble_eq_true rfl) hd) (Nat.le_of_ble_eq_true rfl)) (fun x4 h2 e3 p5 => ?_)
  have L6 := L.ext e3
  exact z_retv (dA d_Fm_increment 77 rfl) rfl
noncomputable def F_Fm_increment_96 (G73 : Int → Int → Int → Int → Int → MH → RS Unit) (v1 : Int) (v2 : Int) (v4 : Int) (v6 : Int) (v7 : Int) (h : MH) : RS Unit := gd (inR (v6 * (10 : Int))) (gd (0 ≤ v7 ∧ v7 < 200) (gd (inR ((v6 * (10 : Int)) + (mGi h 79 v7.toNat))) (gd (inR (((v6 * (10 : Int)) + (mGi h 79 v7.toNat)) - (48 : Int))) (gd (inR (v7 + (1 : Int))) (G73 v1 v2 v4 (((v6 * (10 : Int)) + (mGi h 79 v7.toNat)) - (48 : Int)) (v7 + (1 : Int)) h)))))
theorem S_Fm_increment_96 {d : Nat} (hd : 2 ≤ d) {G73 : Int → Int → Int → Int → Int → MH → RS Unit} (hG73 : ∀ (v1 : Int) (v2 : Int) (v4 : Int) (v6 : Int) (v7 : Int) (h : MH), LayC h → inR v1 → inR v2 → inR v4 → inR v6 → inR v7 → OK d k_Fm_increment 73 [mR 3, mI v1, mI v2, mR 79, mI v4, mN, mI v6, mI v7] [] h cV pT (G73 v1 v2 v4 v6 v7 h)) {v1 : Int} {v2 : Int} {v4 : Int} {v6 : Int} {v7 : Int} {h : MH} (L : LayC h) (rv1 : inR v1) (rv2 : inR v2) (rv4 : inR v4) (rv6 : inR v6) (rv7 : inR v7) : OK d k_Fm_increment 96 [mR 3, mI v1, mI v2, mR 79, mI v4, mN, mI v6, mI v7] [] h cV pT (F_Fm_increment_96 G73 v1 v2 v4 v6 v7 h) := by
  unfold F_Fm_increment_96
  refine z_go (fun Q hq => x_iload (dA d_Fm_increment 54 rfl) rfl (x_bipush (dA d_Fm_increment 55 rfl) (by decide) hq)) ?_
  refine z_gd (fun g7 => ?_)
  refine z_go (fun Q hq => x_imul (dA d_Fm_increment 56 rfl) (x_aload_n (dA d_Fm_increment 57 rfl) rfl rfl (x_iload (dA d_Fm_increment 58 rfl) rfl hq))) ?_
  refine z_gd (fun g8 => ?_)
  refine z_go (fun Q hq => x_cald (dA d_Fm_increment 59 rfl) (L.sh (x := (101, 200)) rfl) g8.1 g8.2 (by decide) hq) ?_
  refine z_gd (fun g9 => ?_)
  refine z_go (fun Q hq => x_iadd (dA d_Fm_increment 60 rfl) (x_bipush (dA d_Fm_increment 61 rfl) (by decide) hq)) ?_
  refine z_gd (fun g10 => ?_)
  refine z_go (fun Q hq => x_isub (dA d_Fm_increment 62 rfl) (x_istore (dA d_Fm_increment 63 rfl) (by decide) rfl hq)) ?_
  refine z_gd (fun g11 => ?_)
  refine z_go (fun Q hq => x_iinc (dA d_Fm_increment 64 rfl) rfl (by decide) rfl (x_goto (dA d_Fm_increment 65 rfl) rfl hq)) ?_
  exact hG73 v1 v2 v4 (((v6 * (10 : Int)) + (mGi h 79 v7.toNat)) - (48 : Int)) (v7 + (1 : Int)) h L rv1 rv2 rv4 g10 g11
noncomputable def F_Fm_increment_73_b (G73 : Int → Int → Int → Int → Int → MH → RS Unit) (v1 : Int) (v2 : Int) (v4 : Int) (v6 : Int) (v7 : Int) (h : MH) : RS Unit := gd (inR (v1 + v2)) (if (v1 + v2) ≤ v7 then if v4 = 0 then F_Fm_increment_134 v6 h else gd (inR (-v6)) (F_Fm_increment_134 (-v6) h) else gd (0 ≤ v7 ∧ v7 < 200) (bnd (F_T_isDigit (mGi h 79 v7.toNat) h) fun x19 h17 => if x19 = 0 then bnd (F_Fm_fail (5 : Int) h17) fun x25 h23 => F_Fm_increment_96 G73 v1 v2 v4 v6 v7 h23 else F_Fm_increment_96 G73 v1 v2 v4 v6 v7 h17))
theorem S_Fm_increment_73_b {d : Nat} (hd : 2 ≤ d) {G73 : Int → Int → Int → Int → Int → MH → RS Unit} (hG73 : ∀ (v1 : Int) (v2 : Int) (v4 : Int) (v6 : Int) (v7 : Int) (h : MH), LayC h → inR v1 → inR v2 → inR v4 → inR v6 → inR v7 → OK d k_Fm_increment 73 [mR 3, mI v1, mI v2, mR 79, mI v4, mN, mI v6, mI v7] [] h cV pT (G73 v1 v2 v4 v6 v7 h)) {v1 : Int} {v2 : Int} {v4 : Int} {v6 : Int} {v7 : Int} {h : MH} (L : LayC h) (rv1 : inR v1) (rv2 : inR v2) (rv4 : inR v4) (rv6 : inR v6) (rv7 : inR v7) : OK d k_Fm_increment 73 [mR 3, mI v1, mI v2, mR 79, mI v4, mN, mI v6, mI v7] [] h cV pT (F_Fm_increment_73_b G73 v1 v2 v4 v6 v7 h) := by
  unfold F_Fm_increment_73_b
  refine z_go (fun Q hq => x_iload (dA d_Fm_increment 41 rfl) rfl (x_iload_n (dA d_Fm_increment 42 rfl) rfl rfl (x_iload_n (dA d_Fm_increment 43 rfl) rfl rfl hq))) ?_
  refine z_gd (fun g12 => ?_)
  refine z_go (fun Q hq => x_iadd (dA d_Fm_increment 44 rfl) hq) ?_
  refine z_br (fun Q => x_icmp_ge (dA d_Fm_increment 45 rfl) rfl rv7 g12) (fun c13 => ?_) (fun c13 => ?_)
  · refine z_go (fun Q hq => x_aload_n (dA d_Fm_increment 66 rfl) rfl rfl (x_getR (dA d_Fm_increment 67 rfl) f_Fm_41 (L.sh (x := (6, 7)) rfl) (by decide) (by decide) rfl (L.rf 8 rfl) (x_iload (dA d_Fm_increment 68 rfl) rfl hq))) ?_
    refine z_br (fun Q => x_if_eq (dA d_Fm_increment 69 rfl) rfl rv4) (fun c14 => ?_) (fun c14 => ?_)
    · refine z_go (fun Q hq => x_iload (dA d_Fm_increment 73 rfl) rfl hq) ?_
      refine z_fgt (ls' := [mN, mN, mN, mN, mN, mN, mN, mN]) ⟨.inl rfl, .inl rfl, .inl rfl, .inl rfl, .inl rfl, .inl rfl, .inl rfl, .inl rfl, trivial⟩ ?_
      exact S_Fm_increment_134 hd  L rv6
    · refine z_go (fun Q hq => x_iload (dA d_Fm_increment 70 rfl) rfl hq) ?_
      refine z_gd (fun g15 => ?_)
      refine z_go (fun Q hq => x_ineg (dA d_Fm_increment 71 rfl) (x_goto (dA d_Fm_increment 72 rfl) rfl hq)) ?_
      refine z_fgt (ls' := [mN, mN, mN, mN, mN, mN, mN, mN]) ⟨.inl rfl, .inl rfl, .inl rfl, .inl rfl, .inl rfl, .inl rfl, .inl rfl, .inl rfl, trivial⟩ ?_
      exact S_Fm_increment_134 hd  L g15
  · refine z_go (fun Q hq => x_aload_n (dA d_Fm_increment 46 rfl) rfl rfl (x_iload (dA d_Fm_increment 47 rfl) rfl hq)) ?_
    refine z_gd (fun g16 => ?_)
    refine z_go (fun Q hq => x_cald (dA d_Fm_increment 48 rfl) (L.sh (x := (101, 200)) rfl) g16.1 g16.2 (by decide) hq) ?_
    refine z_bnd (rest := []) (st1 := fun v => mI v :: []) (S_T_isDigit (d := 0) (Nat.le_refl _) L (L.rg _ _)) (fun _ hx => absurd hx List.not_mem_nil) (fun _ => rfl) (fun Q' Q => x_callSN (as := [mI (mGi h 79 v7.toNat)]) (rest := []) (k' := k_T_isDigit) (dA d_Fm_increment 49 rfl) o_T_isDigit lk_Fm_240 st_T_isDigit (Nat.le_of_ble_eq_true rfl) (Nat.le_trans (Nat.le_of_ble_eq_true rfl) hd) (Nat.le_of_ble_eq_true rfl)) (fun x19 h17 e18 p20 => ?_)
    have L21 := L.ext e18
    refine z_brn (fun Q => x_if_ne (dA d_Fm_increment 50 rfl) rfl p20.inR) (fun c22 => ?_) (fun c22 => ?_)
    · refine z_go (fun Q hq => x_aload_n (dA d_Fm_increment 51 rfl) rfl rfl (x_iconst (dA d_Fm_increment 52 rfl) hq)) ?_
      refine z_bnd (rest := []) (st1 := fun _ => []) (S_Fm_fail (d := 0) (Nat.le_refl _) L21 (inR_lit (5 : Int) rfl)) (fun _ hx => absurd hx List.not_mem_nil) (fun _ => rfl) (fun Q' Q => x_callV (as := [mI (5 : Int)]) (rest := []) (k' := k_Fm_fail) (dA d_Fm_increment 53 rfl) o_Fm_fail lk_Fm_87 im_Fm_fail se_Fm_fail rfl (L21.sh (x := (6, 7)) rfl) (by decide) (Nat.le_of_ble_eq_true rfl) (Nat.le_trans (Nat.le_of_ble_eq_true rfl) hd) (Nat.le_of_ble_eq_true rfl)) (fun x25 h23 e24 p26 => ?_)
      have L27 := L21.ext e24
      exact S_Fm_increment_96 hd hG73 L27 rv1 rv2 rv4 rv6 rv7
    · exact S_Fm_increment_96 hd hG73 L21 rv1 rv2 rv4 rv6 rv7
noncomputable def F_Fm_increment_73 (v1 : Int) (v2 : Int) (v4 : Int) (v6 : Int) (v7 : Int) (h : MH) : RS Unit := itr (fun self (q : Int × Int × Int × Int × Int × MH) => F_Fm_increment_73_b (fun v1 v2 v4 v6 v7 h => self (v1, v2, v4, v6, v7, h)) q.1 q.2.1 q.2.2.1 q.2.2.2.1 q.2.2.2.2.1 q.2.2.2.2.2) FU (v1, v2, v4, v6, v7, h)
theorem S_Fm_increment_73 {d : Nat} (hd : 2 ≤ d) {v1 : Int} {v2 : Int} {v4 : Int} {v6 : Int} {v7 : Int} {h : MH} (L : LayC h) (rv1 : inR v1) (rv2 : inR v2) (rv4 : inR v4) (rv6 : inR v6) (rv7 : inR v7) : OK d k_Fm_increment 73 [mR 3, mI v1, mI v2, mR 79, mI v4, mN, mI v6, mI v7] [] h cV pT (F_Fm_increment_73  v1 v2 v4 v6 v7 h) := by
  unfold F_Fm_increment_73
  refine z_itr (P := fun q : Int × Int × Int × Int × Int × MH => LayC q.2.2.2.2.2 ∧ inR q.1 ∧ inR q.2.1 ∧ inR q.2.2.1 ∧ inR q.2.2.2.1 ∧ inR q.2.2.2.2.1 ∧ True) (ls := fun q : Int × Int × Int × Int × Int × MH => [mR 3, mI q.1, mI q.2.1, mR 79, mI q.2.2.1, mN, mI q.2.2.2.1, mI q.2.2.2.2.1]) (hp := fun q : Int × Int × Int × Int × Int × MH => q.2.2.2.2.2) (fun self hs q hq => ?_) FU (v1, v2, v4, v6, v7, h) ⟨L, rv1, rv2, rv4, rv6, rv7, trivial⟩
  exact S_Fm_increment_73_b hd (fun v1 v2 v4 v6 v7 h L rv1 rv2 rv4 rv6 rv7 => hs (v1, v2, v4, v6, v7, h) ⟨L, rv1, rv2, rv4, rv6, rv7, trivial⟩) hq.1 hq.2.1 hq.2.2.1 hq.2.2.2.1 hq.2.2.2.2.1 hq.2.2.2.2.2.1
noncomputable def F_Fm_increment_62 (v1 : Int) (v2 : Int) (v4 : Int) (v5 : Int) (h : MH) : RS Unit := gd (inR (v1 + v2)) (gd (inR ((v1 + v2) - v5)) (F_Fm_increment_73 v1 v2 v4 (0 : Int) ((v1 + v2) - v5) h))
theorem S_Fm_increment_62 {d : Nat} (hd : 2 ≤ d) {v1 : Int} {v2 : Int} {v4 : Int} {v5 : Int} {h : MH} (L : LayC h) (rv1 : inR v1) (rv2 : inR v2) (rv4 : inR v4) (rv5 : inR v5) : OK d k_Fm_increment 62 [mR 3, mI v1, mI v2, mR 79, mI v4, mI v5, mN, mN] [] h cV pT (F_Fm_increment_62  v1 v2 v4 v5 h) := by
  unfold F_Fm_increment_62
  refine z_go (fun Q hq => x_iconst (dA d_Fm_increment 33 rfl) (x_istore (dA d_Fm_increment 34 rfl) (by decide) rfl (x_iload_n (dA d_Fm_increment 35 rfl) rfl rfl (x_iload_n (dA d_Fm_increment 36 rfl) rfl rfl hq)))) ?_
  refine z_gd (fun g28 => ?_)
  refine z_go (fun Q hq => x_iadd (dA d_Fm_increment 37 rfl) (x_iload (dA d_Fm_increment 38 rfl) rfl hq)) ?_
  refine z_gd (fun g29 => ?_)
  refine z_go (fun Q hq => x_isub (dA d_Fm_increment 39 rfl) (x_istore (dA d_Fm_increment 40 rfl) (by decide) rfl hq)) ?_
  refine z_fgt (ls' := [mR 3, mI v1, mI v2, mR 79, mI v4, mN, mI (0 : Int), mI ((v1 + v2) - v5)]) ⟨.inr rfl, .inr rfl, .inr rfl, .inr rfl, .inr rfl, .inl rfl, .inr rfl, .inr rfl, trivial⟩ ?_
  exact S_Fm_increment_73 hd  L rv1 rv2 rv4 (inR_lit (0 : Int) rfl) g29
noncomputable def F_Fm_increment_57 (v1 : Int) (v2 : Int) (v4 : Int) (v5 : Int) (h : MH) : RS Unit := bnd (F_Fm_fail (5 : Int) h) fun x32 h30 => F_Fm_increment_62 v1 v2 v4 v5 h30
theorem S_Fm_increment_57 {d : Nat} (hd : 2 ≤ d) {v1 : Int} {v2 : Int} {v4 : Int} {v5 : Int} {h : MH} (L : LayC h) (rv1 : inR v1) (rv2 : inR v2) (rv4 : inR v4) (rv5 : inR v5) : OK d k_Fm_increment 57 [mR 3, mI v1, mI v2, mR 79, mI v4, mI v5, mN, mN] [] h cV pT (F_Fm_increment_57  v1 v2 v4 v5 h) := by
  unfold F_Fm_increment_57
  refine z_go (fun Q hq => x_aload_n (dA d_Fm_increment 30 rfl) rfl rfl (x_iconst (dA d_Fm_increment 31 rfl) hq)) ?_
  refine z_bnd (rest := []) (st1 := fun _ => []) (S_Fm_fail (d := 0) (Nat.le_refl _) L (inR_lit (5 : Int) rfl)) (fun _ hx => absurd hx List.not_mem_nil) (fun _ => rfl) (fun Q' Q => x_callV (as := [mI (5 : Int)]) (rest := []) (k' := k_Fm_fail) (dA d_Fm_increment 32 rfl) o_Fm_fail lk_Fm_87 im_Fm_fail se_Fm_fail rfl (L.sh (x := (6, 7)) rfl) (by decide) (Nat.le_of_ble_eq_true rfl) (Nat.le_trans (Nat.le_of_ble_eq_true rfl) hd) (Nat.le_of_ble_eq_true rfl)) (fun x32 h30 e31 p33 => ?_)
  have L34 := L.ext e31
  exact S_Fm_increment_62 hd  L34 rv1 rv2 rv4 rv5
noncomputable def F_Fm_increment_42 (v1 : Int) (v2 : Int) (v4 : Int) (s0 : Int) (h : MH) : RS Unit := if s0 < (1 : Int) then F_Fm_increment_57 v1 v2 v4 s0 h else if s0 ≤ (9 : Int) then F_Fm_increment_62 v1 v2 v4 s0 h else F_Fm_increment_57 v1 v2 v4 s0 h
theorem S_Fm_increment_42 {d : Nat} (hd : 2 ≤ d) {v1 : Int} {v2 : Int} {v4 : Int} {s0 : Int} {h : MH} (L : LayC h) (rv1 : inR v1) (rv2 : inR v2) (rv4 : inR v4) (rs0 : inR s0) : OK d k_Fm_increment 42 [mR 3, mI v1, mI v2, mR 79, mI v4, mN, mN, mN] [mI s0] h cV pT (F_Fm_increment_42  v1 v2 v4 s0 h) := by
  unfold F_Fm_increment_42
  refine z_go (fun Q hq => x_istore (dA d_Fm_increment 23 rfl) (by decide) rfl (x_iload (dA d_Fm_increment 24 rfl) rfl (x_iconst (dA d_Fm_increment 25 rfl) hq))) ?_
  refine z_br (fun Q => x_icmp_lt (dA d_Fm_increment 26 rfl) rfl rs0 (inR_lit (1 : Int) rfl)) (fun c35 => ?_) (fun c35 => ?_)
  · exact S_Fm_increment_57 hd  L rv1 rv2 rv4 rs0
  · refine z_go (fun Q hq => x_iload (dA d_Fm_increment 27 rfl) rfl (x_bipush (dA d_Fm_increment 28 rfl) (by decide) hq)) ?_
    refine z_br (fun Q => x_icmp_le (dA d_Fm_increment 29 rfl) rfl rs0 (inR_lit (9 : Int) rfl)) (fun c36 => ?_) (fun c36 => ?_)
    · exact S_Fm_increment_62 hd  L rv1 rv2 rv4 rs0
    · exact S_Fm_increment_57 hd  L rv1 rv2 rv4 rs0
noncomputable def F_Fm_increment_28 (v1 : Int) (v2 : Int) (s0 : Int) (h : MH) : RS Unit := if s0 = 0 then F_Fm_increment_42 v1 v2 s0 v2 h else gd (inR (v2 - (1 : Int))) (F_Fm_increment_42 v1 v2 s0 (v2 - (1 : Int)) h)
theorem S_Fm_increment_28 {d : Nat} (hd : 2 ≤ d) {v1 : Int} {v2 : Int} {s0 : Int} {h : MH} (L : LayC h) (rv1 : inR v1) (rv2 : inR v2) (rs0 : inR s0) : OK d k_Fm_increment 28 [mR 3, mI v1, mI v2, mR 79, mN, mN, mN, mN] [mI s0] h cV pT (F_Fm_increment_28  v1 v2 s0 h) := by
  unfold F_Fm_increment_28
  refine z_go (fun Q hq => x_istore (dA d_Fm_increment 15 rfl) (by decide) rfl (x_iload (dA d_Fm_increment 16 rfl) rfl hq)) ?_
  refine z_br (fun Q => x_if_eq (dA d_Fm_increment 17 rfl) rfl rs0) (fun c37 => ?_) (fun c37 => ?_)
  · refine z_go (fun Q hq => x_iload_n (dA d_Fm_increment 22 rfl) rfl rfl hq) ?_
    exact S_Fm_increment_42 hd  L rv1 rv2 rs0 rv2
  · refine z_go (fun Q hq => x_iload_n (dA d_Fm_increment 18 rfl) rfl rfl (x_iconst (dA d_Fm_increment 19 rfl) hq)) ?_
    refine z_gd (fun g38 => ?_)
    refine z_go (fun Q hq => x_isub (dA d_Fm_increment 20 rfl) (x_goto (dA d_Fm_increment 21 rfl) rfl hq)) ?_
    exact S_Fm_increment_42 hd  L rv1 rv2 rs0 g38
noncomputable def F_Fm_increment_27 (v1 : Int) (v2 : Int) (h : MH) : RS Unit := F_Fm_increment_28 v1 v2 (0 : Int) h
theorem S_Fm_increment_27 {d : Nat} (hd : 2 ≤ d) {v1 : Int} {v2 : Int} {h : MH} (L : LayC h) (rv1 : inR v1) (rv2 : inR v2) : OK d k_Fm_increment 27 [mR 3, mI v1, mI v2, mR 79, mN, mN, mN, mN] [] h cV pT (F_Fm_increment_27  v1 v2 h) := by
  unfold F_Fm_increment_27
  refine z_go (fun Q hq => x_iconst (dA d_Fm_increment 14 rfl) hq) ?_
  exact S_Fm_increment_28 hd  L rv1 rv2 (inR_lit (0 : Int) rfl)
noncomputable def F_Fm_increment (a1 : Int) (a2 : Int) (h : MH) : RS Unit := if a2 ≤ 0 then F_Fm_increment_27 a1 a2 h else gd (0 ≤ a1 ∧ a1 < 200) (if (mGi h 79 a1.toNat) = (45 : Int) then F_Fm_increment_28 a1 a2 (1 : Int) h else F_Fm_increment_27 a1 a2 h)
theorem S_Fm_increment {d : Nat} (hd : 2 ≤ d) {a1 : Int} {a2 : Int} {h : MH} (L : LayC h) (ra1 : inR a1) (ra2 : inR a2) : OK d k_Fm_increment 0 [mR 3, mI a1, mI a2, mN, mN, mN, mN, mN] [] h cV pT (F_Fm_increment  a1 a2 h) := by
  unfold F_Fm_increment
  refine z_go (fun Q hq => x_aload_n (dA d_Fm_increment 0 rfl) rfl rfl (x_getR (dA d_Fm_increment 1 rfl) f_Fm_37 (L.sh (x := (6, 7)) rfl) (by decide) (by decide) rfl (L.rf 7 rfl) (x_getR (dA d_Fm_increment 2 rfl) f_Fm_184 (L.sh (x := (2, 6)) rfl) (by decide) (by decide) rfl (L.rf 79 rfl) (x_getR (dA d_Fm_increment 3 rfl) f_Fm_198 (L.sh (x := (1, 3)) rfl) (by decide) (by decide) rfl (L.rf 84 rfl) (x_astore_n (dA d_Fm_increment 4 rfl) rfl (by decide) rfl (x_iload_n (dA d_Fm_increment 5 rfl) rfl rfl hq)))))) ?_
  refine z_br (fun Q => x_if_le (dA d_Fm_increment 6 rfl) rfl ra2) (fun c39 => ?_) (fun c39 => ?_)
  · exact S_Fm_increment_27 hd  L ra1 ra2
  · refine z_go (fun Q hq => x_aload_n (dA d_Fm_increment 7 rfl) rfl rfl (x_iload_n (dA d_Fm_increment 8 rfl) rfl rfl hq)) ?_
    refine z_gd (fun g40 => ?_)
    refine z_go (fun Q hq => x_cald (dA d_Fm_increment 9 rfl) (L.sh (x := (101, 200)) rfl) g40.1 g40.2 (by decide) (x_bipush (dA d_Fm_increment 10 rfl) (by decide) hq)) ?_
    refine z_brn (fun Q => x_icmp_ne (dA d_Fm_increment 11 rfl) rfl (L.rg _ _) (inR_lit (45 : Int) rfl)) (fun c41 => ?_) (fun c41 => ?_)
    · refine z_go (fun Q hq => x_iconst (dA d_Fm_increment 12 rfl) (x_goto (dA d_Fm_increment 13 rfl) rfl hq)) ?_
      exact S_Fm_increment_28 hd  L ra1 ra2 (inR_lit (1 : Int) rfl)
    · exact S_Fm_increment_27 hd  L ra1 ra2
/-! TwoMills$FirstMill.shift()V -/
noncomputable def F_Fm_shift_35 (G2 : Int → MH → RS Unit) (v1 : Int) (h : MH) : RS Unit := bnd (F_Le_add 84 500 (96 : Int) h) fun x3 h1 => bnd (F_Fm_bringArgument v1 h1) fun x8 h6 => bnd (F_Le_add 84 500 (39 : Int) h6) fun x13 h11 => gd (inR (v1 + (1 : Int))) (G2 (v1 + (1 : Int)) h11)
theorem S_Fm_shift_35 {d : Nat} (hd : 3 ≤ d) {G2 : Int → MH → RS Unit} (hG2 : ∀ (v1 : Int) (h : MH), LayC h → inR v1 → OK d k_Fm_shift 2 [mR 3, mI v1] [] h cV pT (G2 v1 h)) {v1 : Int} {h : MH} (L : LayC h) (rv1 : inR v1) : OK d k_Fm_shift 35 [mR 3, mI v1] [] h cV pT (F_Fm_shift_35 G2 v1 h) := by
  unfold F_Fm_shift_35
  refine z_go (fun Q hq => x_aload_n (dA d_Fm_shift 18 rfl) rfl rfl (x_getR (dA d_Fm_shift 19 rfl) f_Fm_41 (L.sh (x := (6, 7)) rfl) (by decide) (by decide) rfl (L.rf 8 rfl) (x_bipush (dA d_Fm_shift 20 rfl) (by decide) hq))) ?_
  refine z_bnd (rest := []) (st1 := fun _ => []) (S_Le_add (d := 0) (Nat.le_refl _) L (L.le rfl 85 rfl rfl (by decide)) (ch_lit (96 : Int) rfl)) (fun _ hx => absurd hx List.not_mem_nil) (fun _ => rfl) (fun Q' Q => x_callV (as := [mI (96 : Int)]) (rest := []) (k' := k_Le_add) (dA d_Fm_shift 21 rfl) o_Le_add lk_Fm_243 im_Le_add se_Le_add rfl (L.sh (x := (1, 3)) rfl) (by decide) (Nat.le_of_ble_eq_true rfl) (Nat.le_trans (Nat.le_of_ble_eq_true rfl) hd) (Nat.le_of_ble_eq_true rfl)) (fun x3 h1 e2 p4 => ?_)
  have L5 := L.ext e2
  refine z_go (fun Q hq => x_aload_n (dA d_Fm_shift 22 rfl) rfl rfl (x_iload_n (dA d_Fm_shift 23 rfl) rfl rfl hq)) ?_
  refine z_bnd (rest := []) (st1 := fun _ => []) (S_Fm_bringArgument (d := 2) (Nat.le_refl _) L5 rv1) (fun _ hx => absurd hx List.not_mem_nil) (fun _ => rfl) (fun Q' Q => x_callV (as := [mI v1]) (rest := []) (k' := k_Fm_bringArgument) (dA d_Fm_shift 24 rfl) o_Fm_bringArgument lk_Fm_210 im_Fm_bringArgument se_Fm_bringArgument rfl (L5.sh (x := (6, 7)) rfl) (by decide) (Nat.le_of_ble_eq_true rfl) (Nat.le_trans (Nat.le_of_ble_eq_true rfl) hd) (Nat.le_of_ble_eq_true rfl)) (fun x8 h6 e7 p9 => ?_)
  have L10 := L5.ext e7
  refine z_go (fun Q hq => x_aload_n (dA d_Fm_shift 25 rfl) rfl rfl (x_getR (dA d_Fm_shift 26 rfl) f_Fm_41 (L10.sh (x := (6, 7)) rfl) (by decide) (by decide) rfl (L10.rf 8 rfl) (x_bipush (dA d_Fm_shift 27 rfl) (by decide) hq))) ?_
  refine z_bnd (rest := []) (st1 := fun _ => []) (S_Le_add (d := 0) (Nat.le_refl _) L10 (L10.le rfl 85 rfl rfl (by decide)) (ch_lit (39 : Int) rfl)) (fun _ hx => absurd hx List.not_mem_nil) (fun _ => rfl) (fun Q' Q => x_callV (as := [mI (39 : Int)]) (rest := []) (k' := k_Le_add) (dA d_Fm_shift 28 rfl) o_Le_add lk_Fm_243 im_Le_add se_Le_add rfl (L10.sh (x := (1, 3)) rfl) (by decide) (Nat.le_of_ble_eq_true rfl) (Nat.le_trans (Nat.le_of_ble_eq_true rfl) hd) (Nat.le_of_ble_eq_true rfl)) (fun x13 h11 e12 p14 => ?_)
  have L15 := L10.ext e12
  refine z_gd (fun g16 => ?_)
  refine z_go (fun Q hq => x_iinc (dA d_Fm_shift 29 rfl) rfl (by decide) rfl (x_goto (dA d_Fm_shift 30 rfl) rfl hq)) ?_
  exact hG2 (v1 + (1 : Int)) h11 L15 g16
noncomputable def F_Fm_shift_2_b (G2 : Int → MH → RS Unit) (v1 : Int) (h : MH) : RS Unit := gd (0 ≤ (mGi h 77 5) ∧ (mGi h 77 5) < 6) (if (mGi h 83 (mGi h 77 5).toNat) ≤ v1 then some (.inl (), h) else if v1 ≤ (1 : Int) then F_Fm_shift_35 G2 v1 h else bnd (F_Le_add 84 500 (44 : Int) h) fun x22 h20 => F_Fm_shift_35 G2 v1 h20)
theorem S_Fm_shift_2_b {d : Nat} (hd : 3 ≤ d) {G2 : Int → MH → RS Unit} (hG2 : ∀ (v1 : Int) (h : MH), LayC h → inR v1 → OK d k_Fm_shift 2 [mR 3, mI v1] [] h cV pT (G2 v1 h)) {v1 : Int} {h : MH} (L : LayC h) (rv1 : inR v1) : OK d k_Fm_shift 2 [mR 3, mI v1] [] h cV pT (F_Fm_shift_2_b G2 v1 h) := by
  unfold F_Fm_shift_2_b
  refine z_go (fun Q hq => x_iload_n (dA d_Fm_shift 2 rfl) rfl rfl (x_aload_n (dA d_Fm_shift 3 rfl) rfl rfl (x_getR (dA d_Fm_shift 4 rfl) f_Fm_37 (L.sh (x := (6, 7)) rfl) (by decide) (by decide) rfl (L.rf 7 rfl) (x_getR (dA d_Fm_shift 5 rfl) f_Fm_224 (L.sh (x := (2, 6)) rfl) (by decide) (by decide) rfl (L.rf 83 rfl) (x_aload_n (dA d_Fm_shift 6 rfl) rfl rfl (x_getR (dA d_Fm_shift 7 rfl) f_Fm_37 (L.sh (x := (6, 7)) rfl) (by decide) (by decide) rfl (L.rf 7 rfl) (x_getI (dA d_Fm_shift 8 rfl) f_Fm_84 (L.sh (x := (2, 6)) rfl) (by decide) (by decide) rfl hq))))))) ?_
  refine z_gd (fun g17 => ?_)
  refine z_go (fun Q hq => x_iald (dA d_Fm_shift 9 rfl) (L.sh (x := (100, 6)) rfl) g17.1 g17.2 (by decide) hq) ?_
  refine z_br (fun Q => x_icmp_ge (dA d_Fm_shift 10 rfl) rfl rv1 (L.rg _ _)) (fun c18 => ?_) (fun c18 => ?_)
  · exact z_retv (dA d_Fm_shift 31 rfl) rfl
  · refine z_go (fun Q hq => x_iload_n (dA d_Fm_shift 11 rfl) rfl rfl (x_iconst (dA d_Fm_shift 12 rfl) hq)) ?_
    refine z_br (fun Q => x_icmp_le (dA d_Fm_shift 13 rfl) rfl rv1 (inR_lit (1 : Int) rfl)) (fun c19 => ?_) (fun c19 => ?_)
    · exact S_Fm_shift_35 hd hG2 L rv1
    · refine z_go (fun Q hq => x_aload_n (dA d_Fm_shift 14 rfl) rfl rfl (x_getR (dA d_Fm_shift 15 rfl) f_Fm_41 (L.sh (x := (6, 7)) rfl) (by decide) (by decide) rfl (L.rf 8 rfl) (x_bipush (dA d_Fm_shift 16 rfl) (by decide) hq))) ?_
      refine z_bnd (rest := []) (st1 := fun _ => []) (S_Le_add (d := 0) (Nat.le_refl _) L (L.le rfl 85 rfl rfl (by decide)) (ch_lit (44 : Int) rfl)) (fun _ hx => absurd hx List.not_mem_nil) (fun _ => rfl) (fun Q' Q => x_callV (as := [mI (44 : Int)]) (rest := []) (k' := k_Le_add) (dA d_Fm_shift 17 rfl) o_Le_add lk_Fm_243 im_Le_add se_Le_add rfl (L.sh (x := (1, 3)) rfl) (by decide) (Nat.le_of_ble_eq_true rfl) (Nat.le_trans (Nat.le_of_ble_eq_true rfl) hd) (Nat.le_of_ble_eq_true rfl)) (fun x22 h20 e21 p23 => ?_)
      have L24 := L.ext e21
      exact S_Fm_shift_35 hd hG2 L24 rv1
noncomputable def F_Fm_shift_2 (v1 : Int) (h : MH) : RS Unit := itr (fun self (q : Int × MH) => F_Fm_shift_2_b (fun v1 h => self (v1, h)) q.1 q.2) FU (v1, h)
theorem S_Fm_shift_2 {d : Nat} (hd : 3 ≤ d) {v1 : Int} {h : MH} (L : LayC h) (rv1 : inR v1) : OK d k_Fm_shift 2 [mR 3, mI v1] [] h cV pT (F_Fm_shift_2  v1 h) := by
  unfold F_Fm_shift_2
  refine z_itr (P := fun q : Int × MH => LayC q.2 ∧ inR q.1 ∧ True) (ls := fun q : Int × MH => [mR 3, mI q.1]) (hp := fun q : Int × MH => q.2) (fun self hs q hq => ?_) FU (v1, h) ⟨L, rv1, trivial⟩
  exact S_Fm_shift_2_b hd (fun v1 h L rv1 => hs (v1, h) ⟨L, rv1, trivial⟩) hq.1 hq.2.1
noncomputable def F_Fm_shift (h : MH) : RS Unit := F_Fm_shift_2 (1 : Int) h
theorem S_Fm_shift {d : Nat} (hd : 3 ≤ d) {h : MH} (L : LayC h) : OK d k_Fm_shift 0 [mR 3, mN] [] h cV pT (F_Fm_shift   h) := by
  unfold F_Fm_shift
  refine z_go (fun Q hq => x_iconst (dA d_Fm_shift 0 rfl) (x_istore_n (dA d_Fm_shift 1 rfl) rfl (by decide) rfl hq)) ?_
  exact S_Fm_shift_2 hd  L (inR_lit (1 : Int) rfl)
/-! TwoMills$FirstMill.callCollected()V -/
noncomputable def F_Fm_callCollected_254 (h : MH) : RS Unit := bnd (F_Ar_end h) fun x3 h1 => bnd (F_Fm_comeAhead h1) fun x8 h6 => some (.inl (), h6)
theorem S_Fm_callCollected_254 {d : Nat} (hd : 4 ≤ d) {h : MH} (L : LayC h) : OK d k_Fm_callCollected 254 [mR 3, mN, mN, mN, mN] [] h cV pT (F_Fm_callCollected_254   h) := by
  unfold F_Fm_callCollected_254
  refine z_go (fun Q hq => x_aload_n (dA d_Fm_callCollected 105 rfl) rfl rfl (x_getR (dA d_Fm_callCollected 106 rfl) f_Fm_37 (L.sh (x := (6, 7)) rfl) (by decide) (by decide) rfl (L.rf 7 rfl) hq)) ?_
  refine z_bnd (rest := []) (st1 := fun _ => []) (S_Ar_end (d := 1) (Nat.le_refl _) L ) (fun _ hx => absurd hx List.not_mem_nil) (fun _ => rfl) (fun Q' Q => x_callV (as := []) (rest := []) (k' := k_Ar_end) (dA d_Fm_callCollected 107 rfl) o_Ar_end lk_Fm_227 im_Ar_end se_Ar_end rfl (L.sh (x := (2, 6)) rfl) (by decide) (Nat.le_of_ble_eq_true rfl) (Nat.le_trans (Nat.le_of_ble_eq_true rfl) hd) (Nat.le_of_ble_eq_true rfl)) (fun x3 h1 e2 p4 => ?_)
  have L5 := L.ext e2
  refine z_go (fun Q hq => x_aload_n (dA d_Fm_callCollected 108 rfl) rfl rfl hq) ?_
  refine z_bnd (rest := []) (st1 := fun _ => []) (S_Fm_comeAhead (d := 1) (Nat.le_refl _) L5 ) (fun _ hx => absurd hx List.not_mem_nil) (fun _ => rfl) (fun Q' Q => x_callV (as := []) (rest := []) (k' := k_Fm_comeAhead) (dA d_Fm_callCollected 109 rfl) o_Fm_comeAhead lk_Fm_131 im_Fm_comeAhead se_Fm_comeAhead rfl (L5.sh (x := (6, 7)) rfl) (by decide) (Nat.le_of_ble_eq_true rfl) (Nat.le_trans (Nat.le_of_ble_eq_true rfl) hd) (Nat.le_of_ble_eq_true rfl)) (fun x8 h6 e7 p9 => ?_)
  have L10 := L5.ext e7
  exact z_retv (dA d_Fm_callCollected 110 rfl) rfl
noncomputable def F_Fm_callCollected_186 (s1 : Int) (h : MH) : RS Unit := bnd (F_Fm_bringArgument s1 h) fun x13 h11 => F_Fm_callCollected_254  h11
theorem S_Fm_callCollected_186 {d : Nat} (hd : 4 ≤ d) {s1 : Int} {h : MH} (L : LayC h) (rs1 : inR s1) : OK d k_Fm_callCollected 186 [mR 3, mN, mN, mN, mN] [mI s1, mR 3] h cV pT (F_Fm_callCollected_186  s1 h) := by
  unfold F_Fm_callCollected_186
  refine z_bnd (rest := []) (st1 := fun _ => []) (S_Fm_bringArgument (d := 2) (Nat.le_refl _) L rs1) (fun _ hx => absurd hx List.not_mem_nil) (fun _ => rfl) (fun Q' Q => x_callV (as := [mI s1]) (rest := []) (k' := k_Fm_bringArgument) (dA d_Fm_callCollected 71 rfl) o_Fm_bringArgument lk_Fm_210 im_Fm_bringArgument se_Fm_bringArgument rfl (L.sh (x := (6, 7)) rfl) (by decide) (Nat.le_of_ble_eq_true rfl) (Nat.le_trans (Nat.le_of_ble_eq_true rfl) hd) (Nat.le_of_ble_eq_true rfl)) (fun x13 h11 e12 p14 => ?_)
  have L15 := L.ext e12
  refine z_go (fun Q hq => x_goto (dA d_Fm_callCollected 72 rfl) rfl hq) ?_
  exact S_Fm_callCollected_254 hd  L15 
noncomputable def F_Fm_callCollected_167 (s1 : Int) (h : MH) : RS Unit := bnd (F_Fm_bringArgument s1 h) fun x18 h16 => F_Fm_callCollected_254  h16
theorem S_Fm_callCollected_167 {d : Nat} (hd : 4 ≤ d) {s1 : Int} {h : MH} (L : LayC h) (rs1 : inR s1) : OK d k_Fm_callCollected 167 [mR 3, mN, mN, mN, mN] [mI s1, mR 3] h cV pT (F_Fm_callCollected_167  s1 h) := by
  unfold F_Fm_callCollected_167
  refine z_bnd (rest := []) (st1 := fun _ => []) (S_Fm_bringArgument (d := 2) (Nat.le_refl _) L rs1) (fun _ hx => absurd hx List.not_mem_nil) (fun _ => rfl) (fun Q' Q => x_callV (as := [mI s1]) (rest := []) (k' := k_Fm_bringArgument) (dA d_Fm_callCollected 62 rfl) o_Fm_bringArgument lk_Fm_210 im_Fm_bringArgument se_Fm_bringArgument rfl (L.sh (x := (6, 7)) rfl) (by decide) (Nat.le_of_ble_eq_true rfl) (Nat.le_trans (Nat.le_of_ble_eq_true rfl) hd) (Nat.le_of_ble_eq_true rfl)) (fun x18 h16 e17 p19 => ?_)
  have L20 := L.ext e17
  refine z_go (fun Q hq => x_goto (dA d_Fm_callCollected 63 rfl) rfl hq) ?_
  exact S_Fm_callCollected_254 hd  L20 
noncomputable def F_Fm_callCollected (h : MH) : RS Unit := gd (0 ≤ (mGi h 77 5) ∧ (mGi h 77 5) < 6) (bnd (F_Ar_start (0 : Int) h) fun x24 h22 => bnd (F_Ar_length (0 : Int) h22) fun x29 h27 => bnd (F_Le_empty 84 500 h27) fun x34 h32 => if (mGi h 81 (mGi h 77 5).toNat) = (100 : Int) then bnd (F_De_latest 79 200 x24 x29 h32) fun x40 h38 => bnd (F_Fm_define x40 h38) fun x45 h43 => F_Fm_callCollected_254  h43 else if (mGi h 81 (mGi h 77 5).toNat) = (101 : Int) then bnd (F_Fm_define (-1 : Int) h32) fun x51 h49 => F_Fm_callCollected_254  h49 else if (mGi h 81 (mGi h 77 5).toNat) = (102 : Int) then bnd (F_De_latest 79 200 x24 x29 h32) fun x57 h55 => bnd (F_De_remove x57 h55) fun x62 h60 => F_Fm_callCollected_254  h60 else if (mGi h 81 (mGi h 77 5).toNat) = (103 : Int) then bnd (F_De_latest 79 200 x24 x29 h32) fun x68 h66 => if x68 < 0 then F_Fm_callCollected_167 (2 : Int) h66 else F_Fm_callCollected_167 (1 : Int) h66 else if (mGi h 81 (mGi h 77 5).toNat) = (104 : Int) then bnd (F_Fm_areFirstTwoAlike h32) fun x75 h73 => if x75 = 0 then F_Fm_callCollected_186 (3 : Int) h73 else F_Fm_callCollected_186 (2 : Int) h73 else if (mGi h 81 (mGi h 77 5).toNat) = (105 : Int) then bnd (F_Fm_increment x24 x29 h32) fun x82 h80 => F_Fm_callCollected_254  h80 else if (mGi h 81 (mGi h 77 5).toNat) = (106 : Int) then bnd (F_Le_addNumber 84 500 x29 h32) fun x88 h86 => F_Fm_callCollected_254  h86 else if (mGi h 81 (mGi h 77 5).toNat) = (107 : Int) then bnd (F_Fm_shift h32) fun x94 h92 => F_Fm_callCollected_254  h92 else gd (0 ≤ (mGi h32 77 5) ∧ (mGi h32 77 5) < 6) (bnd (F_Fm_bringText (mGi h 81 (mGi h 77 5).toNat) (mGi h32 83 (mGi h32 77 5).toNat) h32) fun x100 h98 => gd (0 ≤ (mGi h 81 (mGi h 77 5).toNat) ∧ (mGi h 81 (mGi h 77 5).toNat) < 16) (gd (inR ((mGi h98 9 (mGi h 81 (mGi h 77 5).toNat).toNat) - (1 : Int))) (sto (mPi h98 9 (mGi h 81 (mGi h 77 5).toNat).toNat ((mGi h98 9 (mGi h 81 (mGi h 77 5).toNat).toNat) - (1 : Int))) fun h105 => F_Fm_callCollected_254  h105))))
theorem S_Fm_callCollected {d : Nat} (hd : 4 ≤ d) {h : MH} (L : LayC h) : OK d k_Fm_callCollected 0 [mR 3, mN, mN, mN, mN] [] h cV pT (F_Fm_callCollected   h) := by
  unfold F_Fm_callCollected
  refine z_go (fun Q hq => x_aload_n (dA d_Fm_callCollected 0 rfl) rfl rfl (x_getR (dA d_Fm_callCollected 1 rfl) f_Fm_37 (L.sh (x := (6, 7)) rfl) (by decide) (by decide) rfl (L.rf 7 rfl) (x_getR (dA d_Fm_callCollected 2 rfl) f_Fm_195 (L.sh (x := (2, 6)) rfl) (by decide) (by decide) rfl (L.rf 81 rfl) (x_aload_n (dA d_Fm_callCollected 3 rfl) rfl rfl (x_getR (dA d_Fm_callCollected 4 rfl) f_Fm_37 (L.sh (x := (6, 7)) rfl) (by decide) (by decide) rfl (L.rf 7 rfl) (x_getI (dA d_Fm_callCollected 5 rfl) f_Fm_84 (L.sh (x := (2, 6)) rfl) (by decide) (by decide) rfl hq)))))) ?_
  refine z_gd (fun g21 => ?_)
  refine z_go (fun Q hq => x_iald (dA d_Fm_callCollected 6 rfl) (L.sh (x := (100, 6)) rfl) g21.1 g21.2 (by decide) (x_istore_n (dA d_Fm_callCollected 7 rfl) rfl (by decide) rfl (x_aload_n (dA d_Fm_callCollected 8 rfl) rfl rfl (x_getR (dA d_Fm_callCollected 9 rfl) f_Fm_37 (L.sh (x := (6, 7)) rfl) (by decide) (by decide) rfl (L.rf 7 rfl) (x_getR (dA d_Fm_callCollected 10 rfl) f_Fm_184 (L.sh (x := (2, 6)) rfl) (by decide) (by decide) rfl (L.rf 79 rfl) (x_getR (dA d_Fm_callCollected 11 rfl) f_Fm_198 (L.sh (x := (1, 3)) rfl) (by decide) (by decide) rfl (L.rf 84 rfl) (x_astore_n (dA d_Fm_callCollected 12 rfl) rfl (by decide) rfl (x_aload_n (dA d_Fm_callCollected 13 rfl) rfl rfl (x_getR (dA d_Fm_callCollected 14 rfl) f_Fm_37 (L.sh (x := (6, 7)) rfl) (by decide) (by decide) rfl (L.rf 7 rfl) (x_iconst (dA d_Fm_callCollected 15 rfl) hq)))))))))) ?_
  refine z_bnd (rest := []) (st1 := fun v => mI v :: []) (S_Ar_start (d := 0) (Nat.le_refl _) L (inR_lit (0 : Int) rfl)) (fun _ hx => absurd hx List.not_mem_nil) (fun _ => rfl) (fun Q' Q => x_callV (as := [mI (0 : Int)]) (rest := []) (k' := k_Ar_start) (dA d_Fm_callCollected 16 rfl) o_Ar_start lk_Fm_199 im_Ar_start se_Ar_start rfl (L.sh (x := (2, 6)) rfl) (by decide) (Nat.le_of_ble_eq_true rfl) (Nat.le_trans (Nat.le_of_ble_eq_true rfl) hd) (Nat.le_of_ble_eq_true rfl)) (fun x24 h22 e23 p25 => ?_)
  have L26 := L.ext e23
  refine z_go (fun Q hq => x_istore_n (dA d_Fm_callCollected 17 rfl) rfl (by decide) rfl (x_aload_n (dA d_Fm_callCollected 18 rfl) rfl rfl (x_getR (dA d_Fm_callCollected 19 rfl) f_Fm_37 (L26.sh (x := (6, 7)) rfl) (by decide) (by decide) rfl (L26.rf 7 rfl) (x_iconst (dA d_Fm_callCollected 20 rfl) hq)))) ?_
  refine z_bnd (rest := []) (st1 := fun v => mI v :: []) (S_Ar_length (d := 1) (Nat.le_refl _) L26 (inR_lit (0 : Int) rfl)) (fun _ hx => absurd hx List.not_mem_nil) (fun _ => rfl) (fun Q' Q => x_callV (as := [mI (0 : Int)]) (rest := []) (k' := k_Ar_length) (dA d_Fm_callCollected 21 rfl) o_Ar_length lk_Fm_202 im_Ar_length se_Ar_length rfl (L26.sh (x := (2, 6)) rfl) (by decide) (Nat.le_of_ble_eq_true rfl) (Nat.le_trans (Nat.le_of_ble_eq_true rfl) hd) (Nat.le_of_ble_eq_true rfl)) (fun x29 h27 e28 p30 => ?_)
  have L31 := L26.ext e28
  refine z_go (fun Q hq => x_istore (dA d_Fm_callCollected 22 rfl) (by decide) rfl (x_aload_n (dA d_Fm_callCollected 23 rfl) rfl rfl (x_getR (dA d_Fm_callCollected 24 rfl) f_Fm_41 (L31.sh (x := (6, 7)) rfl) (by decide) (by decide) rfl (L31.rf 8 rfl) hq))) ?_
  refine z_bnd (rest := []) (st1 := fun _ => []) (S_Le_empty (d := 0) (Nat.le_refl _) L31 (L31.le rfl 85 rfl rfl (by decide))) (fun _ hx => absurd hx List.not_mem_nil) (fun _ => rfl) (fun Q' Q => x_callV (as := []) (rest := []) (k' := k_Le_empty) (dA d_Fm_callCollected 25 rfl) o_Le_empty lk_Fm_44 im_Le_empty se_Le_empty rfl (L31.sh (x := (1, 3)) rfl) (by decide) (Nat.le_of_ble_eq_true rfl) (Nat.le_trans (Nat.le_of_ble_eq_true rfl) hd) (Nat.le_of_ble_eq_true rfl)) (fun x34 h32 e33 p35 => ?_)
  have L36 := L31.ext e33
  refine z_go (fun Q hq => x_iload_n (dA d_Fm_callCollected 26 rfl) rfl rfl hq) ?_
  refine z_ite (fun c37 => ?_) (fun c37 => ?_)
  · refine z_go (fun Q hq => x_tableIn (dA d_Fm_callCollected 27 rfl) (L.rg _ _) (by rw [c37] <;> decide) (by rw [c37] <;> decide) (by rw [c37] <;> rfl) rfl hq) ?_
    refine z_go (fun Q hq => x_aload_n (dA d_Fm_callCollected 28 rfl) rfl rfl (x_aload_n (dA d_Fm_callCollected 29 rfl) rfl rfl (x_getR (dA d_Fm_callCollected 30 rfl) f_Fm_23 (L36.sh (x := (6, 7)) rfl) (by decide) (by decide) rfl (L36.rf 5 rfl) (x_aload_n (dA d_Fm_callCollected 31 rfl) rfl rfl (x_iload_n (dA d_Fm_callCollected 32 rfl) rfl rfl (x_iload (dA d_Fm_callCollected 33 rfl) rfl hq)))))) ?_
    refine z_bnd (rest := [mR 3]) (st1 := fun v => mI v :: [mR 3]) (S_De_latest (d := 1) (Nat.le_refl _) L36 ⟨L36.sh rfl, by decide⟩ p25 p30) (fun _ hx => absurd hx List.not_mem_nil) (fun _ => rfl) (fun Q' Q => x_callV (as := [mR 79, mI x24, mI x29]) (rest := [mR 3]) (k' := k_De_latest) (dA d_Fm_callCollected 34 rfl) o_De_latest lk_Fm_134 im_De_latest se_De_latest rfl (L36.sh (x := (3, 5)) rfl) (by decide) (Nat.le_of_ble_eq_true rfl) (Nat.le_trans (Nat.le_of_ble_eq_true rfl) hd) (Nat.le_of_ble_eq_true rfl)) (fun x40 h38 e39 p41 => ?_)
    have L42 := L36.ext e39
    refine z_bnd (rest := []) (st1 := fun _ => []) (S_Fm_define (d := 2) (Nat.le_refl _) L42 p41) (fun _ hx => absurd hx List.not_mem_nil) (fun _ => rfl) (fun Q' Q => x_callV (as := [mI x40]) (rest := []) (k' := k_Fm_define) (dA d_Fm_callCollected 35 rfl) o_Fm_define lk_Fm_205 im_Fm_define se_Fm_define rfl (L42.sh (x := (6, 7)) rfl) (by decide) (Nat.le_of_ble_eq_true rfl) (Nat.le_trans (Nat.le_of_ble_eq_true rfl) hd) (Nat.le_of_ble_eq_true rfl)) (fun x45 h43 e44 p46 => ?_)
    have L47 := L42.ext e44
    refine z_go (fun Q hq => x_goto (dA d_Fm_callCollected 36 rfl) rfl hq) ?_
    refine z_fgt (ls' := [mR 3, mN, mN, mN, mN]) ⟨.inr rfl, .inl rfl, .inl rfl, .inl rfl, .inl rfl, trivial⟩ ?_
    exact S_Fm_callCollected_254 hd  L47 
  refine z_ite (fun c48 => ?_) (fun c48 => ?_)
  · refine z_go (fun Q hq => x_tableIn (dA d_Fm_callCollected 27 rfl) (L.rg _ _) (by rw [c48] <;> decide) (by rw [c48] <;> decide) (by rw [c48] <;> rfl) rfl hq) ?_
    refine z_go (fun Q hq => x_aload_n (dA d_Fm_callCollected 37 rfl) rfl rfl (x_iconst (dA d_Fm_callCollected 38 rfl) hq)) ?_
    refine z_bnd (rest := []) (st1 := fun _ => []) (S_Fm_define (d := 2) (Nat.le_refl _) L36 (inR_lit (-1 : Int) rfl)) (fun _ hx => absurd hx List.not_mem_nil) (fun _ => rfl) (fun Q' Q => x_callV (as := [mI (-1 : Int)]) (rest := []) (k' := k_Fm_define) (dA d_Fm_callCollected 39 rfl) o_Fm_define lk_Fm_205 im_Fm_define se_Fm_define rfl (L36.sh (x := (6, 7)) rfl) (by decide) (Nat.le_of_ble_eq_true rfl) (Nat.le_trans (Nat.le_of_ble_eq_true rfl) hd) (Nat.le_of_ble_eq_true rfl)) (fun x51 h49 e50 p52 => ?_)
    have L53 := L36.ext e50
    refine z_go (fun Q hq => x_goto (dA d_Fm_callCollected 40 rfl) rfl hq) ?_
    refine z_fgt (ls' := [mR 3, mN, mN, mN, mN]) ⟨.inr rfl, .inl rfl, .inl rfl, .inl rfl, .inl rfl, trivial⟩ ?_
    exact S_Fm_callCollected_254 hd  L53 
  refine z_ite (fun c54 => ?_) (fun c54 => ?_)
  · refine z_go (fun Q hq => x_tableIn (dA d_Fm_callCollected 27 rfl) (L.rg _ _) (by rw [c54] <;> decide) (by rw [c54] <;> decide) (by rw [c54] <;> rfl) rfl hq) ?_
    refine z_go (fun Q hq => x_aload_n (dA d_Fm_callCollected 41 rfl) rfl rfl (x_getR (dA d_Fm_callCollected 42 rfl) f_Fm_23 (L36.sh (x := (6, 7)) rfl) (by decide) (by decide) rfl (L36.rf 5 rfl) (x_aload_n (dA d_Fm_callCollected 43 rfl) rfl rfl (x_getR (dA d_Fm_callCollected 44 rfl) f_Fm_23 (L36.sh (x := (6, 7)) rfl) (by decide) (by decide) rfl (L36.rf 5 rfl) (x_aload_n (dA d_Fm_callCollected 45 rfl) rfl rfl (x_iload_n (dA d_Fm_callCollected 46 rfl) rfl rfl (x_iload (dA d_Fm_callCollected 47 rfl) rfl hq))))))) ?_
    refine z_bnd (rest := [mR 6]) (st1 := fun v => mI v :: [mR 6]) (S_De_latest (d := 1) (Nat.le_refl _) L36 ⟨L36.sh rfl, by decide⟩ p25 p30) (fun _ hx => absurd hx List.not_mem_nil) (fun _ => rfl) (fun Q' Q => x_callV (as := [mR 79, mI x24, mI x29]) (rest := [mR 6]) (k' := k_De_latest) (dA d_Fm_callCollected 48 rfl) o_De_latest lk_Fm_134 im_De_latest se_De_latest rfl (L36.sh (x := (3, 5)) rfl) (by decide) (Nat.le_of_ble_eq_true rfl) (Nat.le_trans (Nat.le_of_ble_eq_true rfl) hd) (Nat.le_of_ble_eq_true rfl)) (fun x57 h55 e56 p58 => ?_)
    have L59 := L36.ext e56
    refine z_bnd (rest := []) (st1 := fun _ => []) (S_De_remove (d := 0) (Nat.le_refl _) L59 p58) (fun _ hx => absurd hx List.not_mem_nil) (fun _ => rfl) (fun Q' Q => x_callV (as := [mI x57]) (rest := []) (k' := k_De_remove) (dA d_Fm_callCollected 49 rfl) o_De_remove lk_Fm_207 im_De_remove se_De_remove rfl (L59.sh (x := (3, 5)) rfl) (by decide) (Nat.le_of_ble_eq_true rfl) (Nat.le_trans (Nat.le_of_ble_eq_true rfl) hd) (Nat.le_of_ble_eq_true rfl)) (fun x62 h60 e61 p63 => ?_)
    have L64 := L59.ext e61
    refine z_go (fun Q hq => x_goto (dA d_Fm_callCollected 50 rfl) rfl hq) ?_
    refine z_fgt (ls' := [mR 3, mN, mN, mN, mN]) ⟨.inr rfl, .inl rfl, .inl rfl, .inl rfl, .inl rfl, trivial⟩ ?_
    exact S_Fm_callCollected_254 hd  L64 
  refine z_ite (fun c65 => ?_) (fun c65 => ?_)
  · refine z_go (fun Q hq => x_tableIn (dA d_Fm_callCollected 27 rfl) (L.rg _ _) (by rw [c65] <;> decide) (by rw [c65] <;> decide) (by rw [c65] <;> rfl) rfl hq) ?_
    refine z_go (fun Q hq => x_aload_n (dA d_Fm_callCollected 51 rfl) rfl rfl (x_aload_n (dA d_Fm_callCollected 52 rfl) rfl rfl (x_getR (dA d_Fm_callCollected 53 rfl) f_Fm_23 (L36.sh (x := (6, 7)) rfl) (by decide) (by decide) rfl (L36.rf 5 rfl) (x_aload_n (dA d_Fm_callCollected 54 rfl) rfl rfl (x_iload_n (dA d_Fm_callCollected 55 rfl) rfl rfl (x_iload (dA d_Fm_callCollected 56 rfl) rfl hq)))))) ?_
    refine z_bnd (rest := [mR 3]) (st1 := fun v => mI v :: [mR 3]) (S_De_latest (d := 1) (Nat.le_refl _) L36 ⟨L36.sh rfl, by decide⟩ p25 p30) (fun _ hx => absurd hx List.not_mem_nil) (fun _ => rfl) (fun Q' Q => x_callV (as := [mR 79, mI x24, mI x29]) (rest := [mR 3]) (k' := k_De_latest) (dA d_Fm_callCollected 57 rfl) o_De_latest lk_Fm_134 im_De_latest se_De_latest rfl (L36.sh (x := (3, 5)) rfl) (by decide) (Nat.le_of_ble_eq_true rfl) (Nat.le_trans (Nat.le_of_ble_eq_true rfl) hd) (Nat.le_of_ble_eq_true rfl)) (fun x68 h66 e67 p69 => ?_)
    have L70 := L36.ext e67
    refine z_br (fun Q => x_if_lt (dA d_Fm_callCollected 58 rfl) rfl p69) (fun c71 => ?_) (fun c71 => ?_)
    · refine z_go (fun Q hq => x_iconst (dA d_Fm_callCollected 61 rfl) hq) ?_
      refine z_fgt (ls' := [mR 3, mN, mN, mN, mN]) ⟨.inr rfl, .inl rfl, .inl rfl, .inl rfl, .inl rfl, trivial⟩ ?_
      exact S_Fm_callCollected_167 hd  L70 (inR_lit (2 : Int) rfl)
    · refine z_go (fun Q hq => x_iconst (dA d_Fm_callCollected 59 rfl) (x_goto (dA d_Fm_callCollected 60 rfl) rfl hq)) ?_
      refine z_fgt (ls' := [mR 3, mN, mN, mN, mN]) ⟨.inr rfl, .inl rfl, .inl rfl, .inl rfl, .inl rfl, trivial⟩ ?_
      exact S_Fm_callCollected_167 hd  L70 (inR_lit (1 : Int) rfl)
  refine z_ite (fun c72 => ?_) (fun c72 => ?_)
  · refine z_go (fun Q hq => x_tableIn (dA d_Fm_callCollected 27 rfl) (L.rg _ _) (by rw [c72] <;> decide) (by rw [c72] <;> decide) (by rw [c72] <;> rfl) rfl hq) ?_
    refine z_go (fun Q hq => x_aload_n (dA d_Fm_callCollected 64 rfl) rfl rfl (x_aload_n (dA d_Fm_callCollected 65 rfl) rfl rfl hq)) ?_
    refine z_bnd (rest := [mR 3]) (st1 := fun v => mI v :: [mR 3]) (S_Fm_areFirstTwoAlike (d := 2) (Nat.le_refl _) L36 ) (fun _ hx => absurd hx List.not_mem_nil) (fun _ => rfl) (fun Q' Q => x_callV (as := []) (rest := [mR 3]) (k' := k_Fm_areFirstTwoAlike) (dA d_Fm_callCollected 66 rfl) o_Fm_areFirstTwoAlike lk_Fm_213 im_Fm_areFirstTwoAlike se_Fm_areFirstTwoAlike rfl (L36.sh (x := (6, 7)) rfl) (by decide) (Nat.le_of_ble_eq_true rfl) (Nat.le_trans (Nat.le_of_ble_eq_true rfl) hd) (Nat.le_of_ble_eq_true rfl)) (fun x75 h73 e74 p76 => ?_)
    have L77 := L36.ext e74
    refine z_br (fun Q => x_if_eq (dA d_Fm_callCollected 67 rfl) rfl p76.inR) (fun c78 => ?_) (fun c78 => ?_)
    · refine z_go (fun Q hq => x_iconst (dA d_Fm_callCollected 70 rfl) hq) ?_
      refine z_fgt (ls' := [mR 3, mN, mN, mN, mN]) ⟨.inr rfl, .inl rfl, .inl rfl, .inl rfl, .inl rfl, trivial⟩ ?_
      exact S_Fm_callCollected_186 hd  L77 (inR_lit (3 : Int) rfl)
    · refine z_go (fun Q hq => x_iconst (dA d_Fm_callCollected 68 rfl) (x_goto (dA d_Fm_callCollected 69 rfl) rfl hq)) ?_
      refine z_fgt (ls' := [mR 3, mN, mN, mN, mN]) ⟨.inr rfl, .inl rfl, .inl rfl, .inl rfl, .inl rfl, trivial⟩ ?_
      exact S_Fm_callCollected_186 hd  L77 (inR_lit (2 : Int) rfl)
  refine z_ite (fun c79 => ?_) (fun c79 => ?_)
  · refine z_go (fun Q hq => x_tableIn (dA d_Fm_callCollected 27 rfl) (L.rg _ _) (by rw [c79] <;> decide) (by rw [c79] <;> decide) (by rw [c79] <;> rfl) rfl hq) ?_
    refine z_go (fun Q hq => x_aload_n (dA d_Fm_callCollected 73 rfl) rfl rfl (x_iload_n (dA d_Fm_callCollected 74 rfl) rfl rfl (x_iload (dA d_Fm_callCollected 75 rfl) rfl hq))) ?_
    refine z_bnd (rest := []) (st1 := fun _ => []) (S_Fm_increment (d := 2) (Nat.le_refl _) L36 p25 p30) (fun _ hx => absurd hx List.not_mem_nil) (fun _ => rfl) (fun Q' Q => x_callV (as := [mI x24, mI x29]) (rest := []) (k' := k_Fm_increment) (dA d_Fm_callCollected 76 rfl) o_Fm_increment lk_Fm_216 im_Fm_increment se_Fm_increment rfl (L36.sh (x := (6, 7)) rfl) (by decide) (Nat.le_of_ble_eq_true rfl) (Nat.le_trans (Nat.le_of_ble_eq_true rfl) hd) (Nat.le_of_ble_eq_true rfl)) (fun x82 h80 e81 p83 => ?_)
    have L84 := L36.ext e81
    refine z_go (fun Q hq => x_goto (dA d_Fm_callCollected 77 rfl) rfl hq) ?_
    refine z_fgt (ls' := [mR 3, mN, mN, mN, mN]) ⟨.inr rfl, .inl rfl, .inl rfl, .inl rfl, .inl rfl, trivial⟩ ?_
    exact S_Fm_callCollected_254 hd  L84 
  refine z_ite (fun c85 => ?_) (fun c85 => ?_)
  · refine z_go (fun Q hq => x_tableIn (dA d_Fm_callCollected 27 rfl) (L.rg _ _) (by rw [c85] <;> decide) (by rw [c85] <;> decide) (by rw [c85] <;> rfl) rfl hq) ?_
    refine z_go (fun Q hq => x_aload_n (dA d_Fm_callCollected 78 rfl) rfl rfl (x_getR (dA d_Fm_callCollected 79 rfl) f_Fm_41 (L36.sh (x := (6, 7)) rfl) (by decide) (by decide) rfl (L36.rf 8 rfl) (x_iload (dA d_Fm_callCollected 80 rfl) rfl hq))) ?_
    refine z_bnd (rest := []) (st1 := fun _ => []) (S_Le_addNumber (d := 1) (Nat.le_refl _) L36 (L36.le rfl 85 rfl rfl (by decide)) p30) (fun _ hx => absurd hx List.not_mem_nil) (fun _ => rfl) (fun Q' Q => x_callV (as := [mI x29]) (rest := []) (k' := k_Le_addNumber) (dA d_Fm_callCollected 81 rfl) o_Le_addNumber lk_Fm_219 im_Le_addNumber se_Le_addNumber rfl (L36.sh (x := (1, 3)) rfl) (by decide) (Nat.le_of_ble_eq_true rfl) (Nat.le_trans (Nat.le_of_ble_eq_true rfl) hd) (Nat.le_of_ble_eq_true rfl)) (fun x88 h86 e87 p89 => ?_)
    have L90 := L36.ext e87
    refine z_go (fun Q hq => x_goto (dA d_Fm_callCollected 82 rfl) rfl hq) ?_
    refine z_fgt (ls' := [mR 3, mN, mN, mN, mN]) ⟨.inr rfl, .inl rfl, .inl rfl, .inl rfl, .inl rfl, trivial⟩ ?_
    exact S_Fm_callCollected_254 hd  L90 
  refine z_ite (fun c91 => ?_) (fun c91 => ?_)
  · refine z_go (fun Q hq => x_tableIn (dA d_Fm_callCollected 27 rfl) (L.rg _ _) (by rw [c91] <;> decide) (by rw [c91] <;> decide) (by rw [c91] <;> rfl) rfl hq) ?_
    refine z_go (fun Q hq => x_aload_n (dA d_Fm_callCollected 83 rfl) rfl rfl hq) ?_
    refine z_bnd (rest := []) (st1 := fun _ => []) (S_Fm_shift (d := 3) (Nat.le_refl _) L36 ) (fun _ hx => absurd hx List.not_mem_nil) (fun _ => rfl) (fun Q' Q => x_callV (as := []) (rest := []) (k' := k_Fm_shift) (dA d_Fm_callCollected 84 rfl) o_Fm_shift lk_Fm_222 im_Fm_shift se_Fm_shift rfl (L36.sh (x := (6, 7)) rfl) (by decide) (Nat.le_of_ble_eq_true rfl) (Nat.le_trans (Nat.le_of_ble_eq_true rfl) hd) (Nat.le_of_ble_eq_true rfl)) (fun x94 h92 e93 p95 => ?_)
    have L96 := L36.ext e93
    refine z_go (fun Q hq => x_goto (dA d_Fm_callCollected 85 rfl) rfl hq) ?_
    refine z_fgt (ls' := [mR 3, mN, mN, mN, mN]) ⟨.inr rfl, .inl rfl, .inl rfl, .inl rfl, .inl rfl, trivial⟩ ?_
    exact S_Fm_callCollected_254 hd  L96 
  refine z_go (fun Q hq => x_tableOut (dA d_Fm_callCollected 27 rfl) (L.rg _ _) (by omega) rfl hq) ?_
  refine z_go (fun Q hq => x_aload_n (dA d_Fm_callCollected 86 rfl) rfl rfl (x_iload_n (dA d_Fm_callCollected 87 rfl) rfl rfl (x_aload_n (dA d_Fm_callCollected 88 rfl) rfl rfl (x_getR (dA d_Fm_callCollected 89 rfl) f_Fm_37 (L36.sh (x := (6, 7)) rfl) (by decide) (by decide) rfl (L36.rf 7 rfl) (x_getR (dA d_Fm_callCollected 90 rfl) f_Fm_224 (L36.sh (x := (2, 6)) rfl) (by decide) (by decide) rfl (L36.rf 83 rfl) (x_aload_n (dA d_Fm_callCollected 91 rfl) rfl rfl (x_getR (dA d_Fm_callCollected 92 rfl) f_Fm_37 (L36.sh (x := (6, 7)) rfl) (by decide) (by decide) rfl (L36.rf 7 rfl) (x_getI (dA d_Fm_callCollected 93 rfl) f_Fm_84 (L36.sh (x := (2, 6)) rfl) (by decide) (by decide) rfl hq)))))))) ?_
  refine z_gd (fun g97 => ?_)
  refine z_go (fun Q hq => x_iald (dA d_Fm_callCollected 94 rfl) (L36.sh (x := (100, 6)) rfl) g97.1 g97.2 (by decide) hq) ?_
  refine z_bnd (rest := []) (st1 := fun _ => []) (S_Fm_bringText (d := 3) (Nat.le_refl _) L36 (L.rg _ _) (L36.rg _ _)) (fun _ hx => absurd hx List.not_mem_nil) (fun _ => rfl) (fun Q' Q => x_callV (as := [mI (mGi h 81 (mGi h 77 5).toNat), mI (mGi h32 83 (mGi h32 77 5).toNat)]) (rest := []) (k' := k_Fm_bringText) (dA d_Fm_callCollected 95 rfl) o_Fm_bringText lk_Fm_128 im_Fm_bringText se_Fm_bringText rfl (L36.sh (x := (6, 7)) rfl) (by decide) (Nat.le_of_ble_eq_true rfl) (Nat.le_trans (Nat.le_of_ble_eq_true rfl) hd) (Nat.le_of_ble_eq_true rfl)) (fun x100 h98 e99 p101 => ?_)
  have L102 := L36.ext e99
  refine z_go (fun Q hq => x_aload_n (dA d_Fm_callCollected 96 rfl) rfl rfl (x_getR (dA d_Fm_callCollected 97 rfl) f_Fm_23 (L102.sh (x := (6, 7)) rfl) (by decide) (by decide) rfl (L102.rf 5 rfl) (x_getR (dA d_Fm_callCollected 98 rfl) f_Fm_168 (L102.sh (x := (3, 5)) rfl) (by decide) (by decide) rfl (L102.rf 12 rfl) (x_iload_n (dA d_Fm_callCollected 99 rfl) rfl rfl (x_dup2 (dA d_Fm_callCollected 100 rfl) rfl rfl hq))))) ?_
  refine z_gd (fun g103 => ?_)
  refine z_go (fun Q hq => x_iald (dA d_Fm_callCollected 101 rfl) (L102.sh (x := (100, 16)) rfl) g103.1 g103.2 (by decide) (x_iconst (dA d_Fm_callCollected 102 rfl) hq)) ?_
  refine z_gd (fun g104 => ?_)
  refine z_go (fun Q hq => x_isub (dA d_Fm_callCollected 103 rfl) hq) ?_
  refine z_sto (Ext.pi (L102.sh (x := (100, 16)) rfl) (by decide) g104) (fun Q hq => x_iast (dA d_Fm_callCollected 104 rfl) (L102.sh (x := (100, 16)) rfl) g103.1 g103.2 (by decide) hq) (fun h105 e106 => ?_)
  have L107 := L102.ext e106
  refine z_fgt (ls' := [mR 3, mN, mN, mN, mN]) ⟨.inr rfl, .inl rfl, .inl rfl, .inl rfl, .inl rfl, trivial⟩ ?_
  exact S_Fm_callCollected_254 hd  L107 
/-! TwoMills$FirstMill.put(II)V -/
noncomputable def F_Fm_put_24 (v1 : Int) (v2 : Int) (s0 : Nat) (s0n : Nat) (h : MH) : RS Unit := bnd (F_Le_addAll s0 s0n 76 500 v1 v2 h) fun x3 h1 => if (mGi h1 s0 2) = 0 then some (.inl (), h1) else bnd (F_Fm_fail (1 : Int) h1) fun x9 h7 => some (.inl (), h7)
theorem S_Fm_put_24 {d : Nat} (hd : 1 ≤ d) {v1 : Int} {v2 : Int} {s0 : Nat} {s0n : Nat} {h : MH} (L : LayC h) (rv1 : inR v1) (rv2 : inR v2) (os0 : LeO h s0 s0n) : OK d k_Fm_put 24 [mR 3, mI v1, mI v2, mN] [mR s0] h cV pT (F_Fm_put_24  v1 v2 s0 s0n h) := by
  unfold F_Fm_put_24
  refine z_go (fun Q hq => x_astore_n (dA d_Fm_put 10 rfl) rfl (by decide) rfl (x_aload_n (dA d_Fm_put 11 rfl) rfl rfl (x_aload_n (dA d_Fm_put 12 rfl) rfl rfl (x_getR (dA d_Fm_put 13 rfl) f_Fm_30 (L.sh (x := (6, 7)) rfl) (by decide) (by decide) rfl (L.rf 6 rfl) (x_getR (dA d_Fm_put 14 rfl) f_Fm_107 (L.sh (x := (7, 2)) rfl) (by decide) (by decide) rfl (L.rf 78 rfl) (x_iload_n (dA d_Fm_put 15 rfl) rfl rfl (x_iload_n (dA d_Fm_put 16 rfl) rfl rfl hq))))))) ?_
  refine z_bnd (rest := []) (st1 := fun _ => []) (S_Le_addAll (d := 0) (Nat.le_refl _) L os0 ⟨L.sh rfl, by decide⟩ rv1 rv2) (fun _ hx => absurd hx List.not_mem_nil) (fun _ => rfl) (fun Q' Q => x_callV (as := [mR 76, mI v1, mI v2]) (rest := []) (k' := k_Le_addAll) (dA d_Fm_put 17 rfl) o_Le_addAll lk_Fm_187 im_Le_addAll se_Le_addAll rfl os0.1 (by decide) (Nat.le_of_ble_eq_true rfl) (Nat.le_trans (Nat.le_of_ble_eq_true rfl) hd) (Nat.le_of_ble_eq_true rfl)) (fun x3 h1 e2 p4 => ?_)
  have L5 := L.ext e2
  refine z_go (fun Q hq => x_aload_n (dA d_Fm_put 18 rfl) rfl rfl (x_getI (dA d_Fm_put 19 rfl) f_Fm_191 (os0.ext e2).1 (by decide) (by decide) rfl hq)) ?_
  refine z_br (fun Q => x_if_eq (dA d_Fm_put 20 rfl) rfl (L5.rg _ _)) (fun c6 => ?_) (fun c6 => ?_)
  · exact z_retv (dA d_Fm_put 24 rfl) rfl
  · refine z_go (fun Q hq => x_aload_n (dA d_Fm_put 21 rfl) rfl rfl (x_iconst (dA d_Fm_put 22 rfl) hq)) ?_
    refine z_bnd (rest := []) (st1 := fun _ => []) (S_Fm_fail (d := 0) (Nat.le_refl _) L5 (inR_lit (1 : Int) rfl)) (fun _ hx => absurd hx List.not_mem_nil) (fun _ => rfl) (fun Q' Q => x_callV (as := [mI (1 : Int)]) (rest := []) (k' := k_Fm_fail) (dA d_Fm_put 23 rfl) o_Fm_fail lk_Fm_87 im_Fm_fail se_Fm_fail rfl (L5.sh (x := (6, 7)) rfl) (by decide) (Nat.le_of_ble_eq_true rfl) (Nat.le_trans (Nat.le_of_ble_eq_true rfl) hd) (Nat.le_of_ble_eq_true rfl)) (fun x9 h7 e8 p10 => ?_)
    have L11 := L5.ext e8
    exact z_retv (dA d_Fm_put 24 rfl) rfl
noncomputable def F_Fm_put (a1 : Int) (a2 : Int) (h : MH) : RS Unit := if (mGi h 77 5) < 0 then F_Fm_put_24 a1 a2 4 400 h else F_Fm_put_24 a1 a2 78 200 h
theorem S_Fm_put {d : Nat} (hd : 1 ≤ d) {a1 : Int} {a2 : Int} {h : MH} (L : LayC h) (ra1 : inR a1) (ra2 : inR a2) : OK d k_Fm_put 0 [mR 3, mI a1, mI a2, mN] [] h cV pT (F_Fm_put  a1 a2 h) := by
  unfold F_Fm_put
  refine z_go (fun Q hq => x_aload_n (dA d_Fm_put 0 rfl) rfl rfl (x_getR (dA d_Fm_put 1 rfl) f_Fm_37 (L.sh (x := (6, 7)) rfl) (by decide) (by decide) rfl (L.rf 7 rfl) (x_getI (dA d_Fm_put 2 rfl) f_Fm_84 (L.sh (x := (2, 6)) rfl) (by decide) (by decide) rfl hq))) ?_
  refine z_br (fun Q => x_if_lt (dA d_Fm_put 3 rfl) rfl (L.rg _ _)) (fun c12 => ?_) (fun c12 => ?_)
  · refine z_go (fun Q hq => x_aload_n (dA d_Fm_put 8 rfl) rfl rfl (x_getR (dA d_Fm_put 9 rfl) f_Fm_14 (L.sh (x := (6, 7)) rfl) (by decide) (by decide) rfl (L.rf 4 rfl) hq)) ?_
    exact S_Fm_put_24 hd  L ra1 ra2 (L.le rfl 9 rfl rfl (by decide))
  · refine z_go (fun Q hq => x_aload_n (dA d_Fm_put 4 rfl) rfl rfl (x_getR (dA d_Fm_put 5 rfl) f_Fm_37 (L.sh (x := (6, 7)) rfl) (by decide) (by decide) rfl (L.rf 7 rfl) (x_getR (dA d_Fm_put 6 rfl) f_Fm_184 (L.sh (x := (2, 6)) rfl) (by decide) (by decide) rfl (L.rf 79 rfl) (x_goto (dA d_Fm_put 7 rfl) rfl hq)))) ?_
    exact S_Fm_put_24 hd  L ra1 ra2 (L.le rfl 84 rfl rfl (by decide))
/-! TwoMills$Input.drop(I)V -/
noncomputable def F_In_drop (a1 : Int) (h : MH) : RS Unit := gd (inR ((mGi h 75 1) + a1)) (sto (mPi h 75 1 (if (500 : Int) < ((mGi h 75 1) + a1) then (500 : Int) else ((mGi h 75 1) + a1))) fun h2 => some (.inl (), h2))
theorem S_In_drop {d : Nat} (hd : 0 ≤ d) {a1 : Int} {h : MH} (L : LayC h) (ra1 : inR a1) : OK d k_In_drop 0 [mR 75, mI a1] [] h cV pT (F_In_drop  a1 h) := by
  unfold F_In_drop
  refine z_go (fun Q hq => x_aload_n (dA d_In_drop 0 rfl) rfl rfl (x_aload_n (dA d_In_drop 1 rfl) rfl rfl (x_getI (dA d_In_drop 2 rfl) f_In_15 (L.sh (x := (7, 2)) rfl) (by decide) (by decide) rfl (x_iload_n (dA d_In_drop 3 rfl) rfl rfl hq)))) ?_
  refine z_gd (fun g1 => ?_)
  refine z_go (fun Q hq => x_iadd (dA d_In_drop 4 rfl) (x_sipush (dA d_In_drop 5 rfl) (by decide) (x_min (dA d_In_drop 6 rfl) lk_In_31 mm_min_st mm_iz mm_min_co g1 (inR_lit (500 : Int) rfl) (Nat.le_of_ble_eq_true rfl) hq))) ?_
  refine z_sto (Ext.pi (L.sh (x := (7, 2)) rfl) (by decide) (inR_mn g1 (inR_lit (500 : Int) rfl))) (fun Q hq => x_putI (dA d_In_drop 7 rfl) p_In_15 (L.sh (x := (7, 2)) rfl) (by decide) cl_In rfl hq) (fun h2 e3 => ?_)
  have L4 := L.ext e3
  exact z_retv (dA d_In_drop 8 rfl) rfl
/-! TwoMills$FirstMill.putFront(I)V -/
noncomputable def F_Fm_putFront (a1 : Int) (h : MH) : RS Unit := bnd (F_Fm_put (mGi h 75 1) a1 h) fun x3 h1 => bnd (F_In_drop a1 h1) fun x8 h6 => some (.inl (), h6)
theorem S_Fm_putFront {d : Nat} (hd : 2 ≤ d) {a1 : Int} {h : MH} (L : LayC h) (ra1 : inR a1) : OK d k_Fm_putFront 0 [mR 3, mI a1] [] h cV pT (F_Fm_putFront  a1 h) := by
  unfold F_Fm_putFront
  refine z_go (fun Q hq => x_aload_n (dA d_Fm_putFront 0 rfl) rfl rfl (x_aload_n (dA d_Fm_putFront 1 rfl) rfl rfl (x_getR (dA d_Fm_putFront 2 rfl) f_Fm_30 (L.sh (x := (6, 7)) rfl) (by decide) (by decide) rfl (L.rf 6 rfl) (x_getI (dA d_Fm_putFront 3 rfl) f_Fm_97 (L.sh (x := (7, 2)) rfl) (by decide) (by decide) rfl (x_iload_n (dA d_Fm_putFront 4 rfl) rfl rfl hq))))) ?_
  refine z_bnd (rest := []) (st1 := fun _ => []) (S_Fm_put (d := 1) (Nat.le_refl _) L (L.rg _ _) ra1) (fun _ hx => absurd hx List.not_mem_nil) (fun _ => rfl) (fun Q' Q => x_callV (as := [mI (mGi h 75 1), mI a1]) (rest := []) (k' := k_Fm_put) (dA d_Fm_putFront 5 rfl) o_Fm_put lk_Fm_100 im_Fm_put se_Fm_put rfl (L.sh (x := (6, 7)) rfl) (by decide) (Nat.le_of_ble_eq_true rfl) (Nat.le_trans (Nat.le_of_ble_eq_true rfl) hd) (Nat.le_of_ble_eq_true rfl)) (fun x3 h1 e2 p4 => ?_)
  have L5 := L.ext e2
  refine z_go (fun Q hq => x_aload_n (dA d_Fm_putFront 6 rfl) rfl rfl (x_getR (dA d_Fm_putFront 7 rfl) f_Fm_30 (L5.sh (x := (6, 7)) rfl) (by decide) (by decide) rfl (L5.rf 6 rfl) (x_iload_n (dA d_Fm_putFront 8 rfl) rfl rfl hq))) ?_
  refine z_bnd (rest := []) (st1 := fun _ => []) (S_In_drop (d := 0) (Nat.le_refl _) L5 ra1) (fun _ hx => absurd hx List.not_mem_nil) (fun _ => rfl) (fun Q' Q => x_callV (as := [mI a1]) (rest := []) (k' := k_In_drop) (dA d_Fm_putFront 9 rfl) o_In_drop lk_Fm_104 im_In_drop se_In_drop rfl (L5.sh (x := (7, 2)) rfl) (by decide) (Nat.le_of_ble_eq_true rfl) (Nat.le_trans (Nat.le_of_ble_eq_true rfl) hd) (Nat.le_of_ble_eq_true rfl)) (fun x8 h6 e7 p9 => ?_)
  have L10 := L5.ext e7
  exact z_retv (dA d_Fm_putFront 10 rfl) rfl
/-! TwoMills$FirstMill.takeCharacter(I)V -/
noncomputable def F_Fm_takeCharacter_167 (s1 : Int) (s2 : Int) (s3 : Int) (h : MH) : RS Unit := gd (inR (s2 + s3)) (gd (0 ≤ s1 ∧ s1 < 6) (sto (mPi h 82 s1.toNat (s2 + s3)) fun h3 => bnd (F_Fm_putFront (1 : Int) h3) fun x8 h6 => some (.inl (), h6)))
theorem S_Fm_takeCharacter_167 {d : Nat} (hd : 5 ≤ d) {s1 : Int} {s2 : Int} {s3 : Int} {h : MH} (L : LayC h) (rs1 : inR s1) (rs2 : inR s2) (rs3 : inR s3) : OK d k_Fm_takeCharacter 167 [mR 3, mN, mN, mN] [mI s3, mI s2, mI s1, mR 82] h cV pT (F_Fm_takeCharacter_167  s1 s2 s3 h) := by
  unfold F_Fm_takeCharacter_167
  refine z_gd (fun g1 => ?_)
  refine z_go (fun Q hq => x_iadd (dA d_Fm_takeCharacter 83 rfl) hq) ?_
  refine z_gd (fun g2 => ?_)
  refine z_sto (Ext.pi (L.sh (x := (100, 6)) rfl) (by decide) g1) (fun Q hq => x_iast (dA d_Fm_takeCharacter 84 rfl) (L.sh (x := (100, 6)) rfl) g2.1 g2.2 (by decide) hq) (fun h3 e4 => ?_)
  have L5 := L.ext e4
  refine z_go (fun Q hq => x_aload_n (dA d_Fm_takeCharacter 85 rfl) rfl rfl (x_iconst (dA d_Fm_takeCharacter 86 rfl) hq)) ?_
  refine z_bnd (rest := []) (st1 := fun _ => []) (S_Fm_putFront (d := 2) (Nat.le_refl _) L5 (inR_lit (1 : Int) rfl)) (fun _ hx => absurd hx List.not_mem_nil) (fun _ => rfl) (fun Q' Q => x_callV (as := [mI (1 : Int)]) (rest := []) (k' := k_Fm_putFront) (dA d_Fm_takeCharacter 87 rfl) o_Fm_putFront lk_Fm_119 im_Fm_putFront se_Fm_putFront rfl (L5.sh (x := (6, 7)) rfl) (by decide) (Nat.le_of_ble_eq_true rfl) (Nat.le_trans (Nat.le_of_ble_eq_true rfl) hd) (Nat.le_of_ble_eq_true rfl)) (fun x8 h6 e7 p9 => ?_)
  have L10 := L5.ext e7
  exact z_retv (dA d_Fm_takeCharacter 88 rfl) rfl
noncomputable def F_Fm_takeCharacter_136 (v1 : Int) (v2 : Int) (h : MH) : RS Unit := gd (0 ≤ v2 ∧ v2 < 6) (if v1 = (40 : Int) then F_Fm_takeCharacter_167 v2 (mGi h 82 v2.toNat) (1 : Int) h else if v1 = (41 : Int) then F_Fm_takeCharacter_167 v2 (mGi h 82 v2.toNat) (-1 : Int) h else F_Fm_takeCharacter_167 v2 (mGi h 82 v2.toNat) (0 : Int) h)
theorem S_Fm_takeCharacter_136 {d : Nat} (hd : 5 ≤ d) {v1 : Int} {v2 : Int} {h : MH} (L : LayC h) (rv1 : inR v1) (rv2 : inR v2) : OK d k_Fm_takeCharacter 136 [mR 3, mI v1, mI v2, mN] [] h cV pT (F_Fm_takeCharacter_136  v1 v2 h) := by
  unfold F_Fm_takeCharacter_136
  refine z_go (fun Q hq => x_aload_n (dA d_Fm_takeCharacter 66 rfl) rfl rfl (x_getR (dA d_Fm_takeCharacter 67 rfl) f_Fm_37 (L.sh (x := (6, 7)) rfl) (by decide) (by decide) rfl (L.rf 7 rfl) (x_getR (dA d_Fm_takeCharacter 68 rfl) f_Fm_172 (L.sh (x := (2, 6)) rfl) (by decide) (by decide) rfl (L.rf 82 rfl) (x_iload_n (dA d_Fm_takeCharacter 69 rfl) rfl rfl (x_dup2 (dA d_Fm_takeCharacter 70 rfl) rfl rfl hq))))) ?_
  refine z_gd (fun g11 => ?_)
  refine z_go (fun Q hq => x_iald (dA d_Fm_takeCharacter 71 rfl) (L.sh (x := (100, 6)) rfl) g11.1 g11.2 (by decide) (x_iload_n (dA d_Fm_takeCharacter 72 rfl) rfl rfl (x_bipush (dA d_Fm_takeCharacter 73 rfl) (by decide) hq))) ?_
  refine z_brn (fun Q => x_icmp_ne (dA d_Fm_takeCharacter 74 rfl) rfl rv1 (inR_lit (40 : Int) rfl)) (fun c12 => ?_) (fun c12 => ?_)
  · refine z_go (fun Q hq => x_iconst (dA d_Fm_takeCharacter 75 rfl) (x_goto (dA d_Fm_takeCharacter 76 rfl) rfl hq)) ?_
    refine z_fgt (ls' := [mR 3, mN, mN, mN]) ⟨.inr rfl, .inl rfl, .inl rfl, .inl rfl, trivial⟩ ?_
    exact S_Fm_takeCharacter_167 hd  L rv2 (L.rg _ _) (inR_lit (1 : Int) rfl)
  · refine z_go (fun Q hq => x_iload_n (dA d_Fm_takeCharacter 77 rfl) rfl rfl (x_bipush (dA d_Fm_takeCharacter 78 rfl) (by decide) hq)) ?_
    refine z_brn (fun Q => x_icmp_ne (dA d_Fm_takeCharacter 79 rfl) rfl rv1 (inR_lit (41 : Int) rfl)) (fun c13 => ?_) (fun c13 => ?_)
    · refine z_go (fun Q hq => x_iconst (dA d_Fm_takeCharacter 80 rfl) (x_goto (dA d_Fm_takeCharacter 81 rfl) rfl hq)) ?_
      refine z_fgt (ls' := [mR 3, mN, mN, mN]) ⟨.inr rfl, .inl rfl, .inl rfl, .inl rfl, trivial⟩ ?_
      exact S_Fm_takeCharacter_167 hd  L rv2 (L.rg _ _) (inR_lit (-1 : Int) rfl)
    · refine z_go (fun Q hq => x_iconst (dA d_Fm_takeCharacter 82 rfl) hq) ?_
      refine z_fgt (ls' := [mR 3, mN, mN, mN]) ⟨.inr rfl, .inl rfl, .inl rfl, .inl rfl, trivial⟩ ?_
      exact S_Fm_takeCharacter_167 hd  L rv2 (L.rg _ _) (inR_lit (0 : Int) rfl)
noncomputable def F_Fm_takeCharacter_115 (v1 : Int) (v2 : Int) (h : MH) : RS Unit := bnd (F_Ar_isAtArgumentStart h) fun x16 h14 => if x16 = 0 then F_Fm_takeCharacter_136 v1 v2 h14 else bnd (F_In_drop (1 : Int) h14) fun x22 h20 => some (.inl (), h20)
theorem S_Fm_takeCharacter_115 {d : Nat} (hd : 5 ≤ d) {v1 : Int} {v2 : Int} {h : MH} (L : LayC h) (rv1 : inR v1) (rv2 : inR v2) : OK d k_Fm_takeCharacter 115 [mR 3, mI v1, mI v2, mN] [] h cV pT (F_Fm_takeCharacter_115  v1 v2 h) := by
  unfold F_Fm_takeCharacter_115
  refine z_go (fun Q hq => x_aload_n (dA d_Fm_takeCharacter 57 rfl) rfl rfl (x_getR (dA d_Fm_takeCharacter 58 rfl) f_Fm_37 (L.sh (x := (6, 7)) rfl) (by decide) (by decide) rfl (L.rf 7 rfl) hq)) ?_
  refine z_bnd (rest := []) (st1 := fun v => mI v :: []) (S_Ar_isAtArgumentStart (d := 2) (Nat.le_refl _) L ) (fun _ hx => absurd hx List.not_mem_nil) (fun _ => rfl) (fun Q' Q => x_callV (as := []) (rest := []) (k' := k_Ar_isAtArgumentStart) (dA d_Fm_takeCharacter 59 rfl) o_Ar_isAtArgumentStart lk_Fm_181 im_Ar_isAtArgumentStart se_Ar_isAtArgumentStart rfl (L.sh (x := (2, 6)) rfl) (by decide) (Nat.le_of_ble_eq_true rfl) (Nat.le_trans (Nat.le_of_ble_eq_true rfl) hd) (Nat.le_of_ble_eq_true rfl)) (fun x16 h14 e15 p17 => ?_)
  have L18 := L.ext e15
  refine z_br (fun Q => x_if_eq (dA d_Fm_takeCharacter 60 rfl) rfl p17.inR) (fun c19 => ?_) (fun c19 => ?_)
  · exact S_Fm_takeCharacter_136 hd  L18 rv1 rv2
  · refine z_go (fun Q hq => x_aload_n (dA d_Fm_takeCharacter 61 rfl) rfl rfl (x_getR (dA d_Fm_takeCharacter 62 rfl) f_Fm_30 (L18.sh (x := (6, 7)) rfl) (by decide) (by decide) rfl (L18.rf 6 rfl) (x_iconst (dA d_Fm_takeCharacter 63 rfl) hq))) ?_
    refine z_bnd (rest := []) (st1 := fun _ => []) (S_In_drop (d := 0) (Nat.le_refl _) L18 (inR_lit (1 : Int) rfl)) (fun _ hx => absurd hx List.not_mem_nil) (fun _ => rfl) (fun Q' Q => x_callV (as := [mI (1 : Int)]) (rest := []) (k' := k_In_drop) (dA d_Fm_takeCharacter 64 rfl) o_In_drop lk_Fm_104 im_In_drop se_In_drop rfl (L18.sh (x := (7, 2)) rfl) (by decide) (Nat.le_of_ble_eq_true rfl) (Nat.le_trans (Nat.le_of_ble_eq_true rfl) hd) (Nat.le_of_ble_eq_true rfl)) (fun x22 h20 e21 p23 => ?_)
    have L24 := L18.ext e21
    refine z_go (fun Q hq => x_goto (dA d_Fm_takeCharacter 65 rfl) rfl hq) ?_
    exact z_retv (dA d_Fm_takeCharacter 88 rfl) rfl
noncomputable def F_Fm_takeCharacter_103 (v1 : Int) (v2 : Int) (h : MH) : RS Unit := if v1 = (10 : Int) then F_Fm_takeCharacter_115 v1 v2 h else if v1 = (32 : Int) then F_Fm_takeCharacter_115 v1 v2 h else F_Fm_takeCharacter_136 v1 v2 h
theorem S_Fm_takeCharacter_103 {d : Nat} (hd : 5 ≤ d) {v1 : Int} {v2 : Int} {h : MH} (L : LayC h) (rv1 : inR v1) (rv2 : inR v2) : OK d k_Fm_takeCharacter 103 [mR 3, mI v1, mI v2, mN] [] h cV pT (F_Fm_takeCharacter_103  v1 v2 h) := by
  unfold F_Fm_takeCharacter_103
  refine z_go (fun Q hq => x_iload_n (dA d_Fm_takeCharacter 51 rfl) rfl rfl (x_bipush (dA d_Fm_takeCharacter 52 rfl) (by decide) hq)) ?_
  refine z_br (fun Q => x_icmp_eq (dA d_Fm_takeCharacter 53 rfl) rfl rv1 (inR_lit (10 : Int) rfl)) (fun c25 => ?_) (fun c25 => ?_)
  · exact S_Fm_takeCharacter_115 hd  L rv1 rv2
  · refine z_go (fun Q hq => x_iload_n (dA d_Fm_takeCharacter 54 rfl) rfl rfl (x_bipush (dA d_Fm_takeCharacter 55 rfl) (by decide) hq)) ?_
    refine z_brn (fun Q => x_icmp_ne (dA d_Fm_takeCharacter 56 rfl) rfl rv1 (inR_lit (32 : Int) rfl)) (fun c26 => ?_) (fun c26 => ?_)
    · exact S_Fm_takeCharacter_115 hd  L rv1 rv2
    · exact S_Fm_takeCharacter_136 hd  L rv1 rv2
noncomputable def F_Fm_takeCharacter_67 (v1 : Int) (v2 : Int) (v3 : Int) (h : MH) : RS Unit := if v1 = (44 : Int) then if v3 = 0 then bnd (F_In_drop (1 : Int) h) fun x31 h29 => bnd (F_Ar_beginArgument h29) fun x36 h34 => if x36 = 0 then bnd (F_Fm_fail (1 : Int) h34) fun x42 h40 => some (.inl (), h40) else some (.inl (), h34) else F_Fm_takeCharacter_103 v1 v2 h else F_Fm_takeCharacter_103 v1 v2 h
theorem S_Fm_takeCharacter_67 {d : Nat} (hd : 5 ≤ d) {v1 : Int} {v2 : Int} {v3 : Int} {h : MH} (L : LayC h) (rv1 : inR v1) (rv2 : inR v2) (rv3 : inR v3) : OK d k_Fm_takeCharacter 67 [mR 3, mI v1, mI v2, mI v3] [] h cV pT (F_Fm_takeCharacter_67  v1 v2 v3 h) := by
  unfold F_Fm_takeCharacter_67
  refine z_go (fun Q hq => x_iload_n (dA d_Fm_takeCharacter 34 rfl) rfl rfl (x_bipush (dA d_Fm_takeCharacter 35 rfl) (by decide) hq)) ?_
  refine z_brn (fun Q => x_icmp_ne (dA d_Fm_takeCharacter 36 rfl) rfl rv1 (inR_lit (44 : Int) rfl)) (fun c27 => ?_) (fun c27 => ?_)
  · refine z_go (fun Q hq => x_iload_n (dA d_Fm_takeCharacter 37 rfl) rfl rfl hq) ?_
    refine z_brn (fun Q => x_if_ne (dA d_Fm_takeCharacter 38 rfl) rfl rv3) (fun c28 => ?_) (fun c28 => ?_)
    · refine z_go (fun Q hq => x_aload_n (dA d_Fm_takeCharacter 39 rfl) rfl rfl (x_getR (dA d_Fm_takeCharacter 40 rfl) f_Fm_30 (L.sh (x := (6, 7)) rfl) (by decide) (by decide) rfl (L.rf 6 rfl) (x_iconst (dA d_Fm_takeCharacter 41 rfl) hq))) ?_
      refine z_bnd (rest := []) (st1 := fun _ => []) (S_In_drop (d := 0) (Nat.le_refl _) L (inR_lit (1 : Int) rfl)) (fun _ hx => absurd hx List.not_mem_nil) (fun _ => rfl) (fun Q' Q => x_callV (as := [mI (1 : Int)]) (rest := []) (k' := k_In_drop) (dA d_Fm_takeCharacter 42 rfl) o_In_drop lk_Fm_104 im_In_drop se_In_drop rfl (L.sh (x := (7, 2)) rfl) (by decide) (Nat.le_of_ble_eq_true rfl) (Nat.le_trans (Nat.le_of_ble_eq_true rfl) hd) (Nat.le_of_ble_eq_true rfl)) (fun x31 h29 e30 p32 => ?_)
      have L33 := L.ext e30
      refine z_go (fun Q hq => x_aload_n (dA d_Fm_takeCharacter 43 rfl) rfl rfl (x_getR (dA d_Fm_takeCharacter 44 rfl) f_Fm_37 (L33.sh (x := (6, 7)) rfl) (by decide) (by decide) rfl (L33.rf 7 rfl) hq)) ?_
      refine z_bnd (rest := []) (st1 := fun v => mI v :: []) (S_Ar_beginArgument (d := 0) (Nat.le_refl _) L33 ) (fun _ hx => absurd hx List.not_mem_nil) (fun _ => rfl) (fun Q' Q => x_callV (as := []) (rest := []) (k' := k_Ar_beginArgument) (dA d_Fm_takeCharacter 45 rfl) o_Ar_beginArgument lk_Fm_178 im_Ar_beginArgument se_Ar_beginArgument rfl (L33.sh (x := (2, 6)) rfl) (by decide) (Nat.le_of_ble_eq_true rfl) (Nat.le_trans (Nat.le_of_ble_eq_true rfl) hd) (Nat.le_of_ble_eq_true rfl)) (fun x36 h34 e35 p37 => ?_)
      have L38 := L33.ext e35
      refine z_brn (fun Q => x_if_ne (dA d_Fm_takeCharacter 46 rfl) rfl p37.inR) (fun c39 => ?_) (fun c39 => ?_)
      · refine z_go (fun Q hq => x_aload_n (dA d_Fm_takeCharacter 47 rfl) rfl rfl (x_iconst (dA d_Fm_takeCharacter 48 rfl) hq)) ?_
        refine z_bnd (rest := []) (st1 := fun _ => []) (S_Fm_fail (d := 0) (Nat.le_refl _) L38 (inR_lit (1 : Int) rfl)) (fun _ hx => absurd hx List.not_mem_nil) (fun _ => rfl) (fun Q' Q => x_callV (as := [mI (1 : Int)]) (rest := []) (k' := k_Fm_fail) (dA d_Fm_takeCharacter 49 rfl) o_Fm_fail lk_Fm_87 im_Fm_fail se_Fm_fail rfl (L38.sh (x := (6, 7)) rfl) (by decide) (Nat.le_of_ble_eq_true rfl) (Nat.le_trans (Nat.le_of_ble_eq_true rfl) hd) (Nat.le_of_ble_eq_true rfl)) (fun x42 h40 e41 p43 => ?_)
        have L44 := L38.ext e41
        refine z_go (fun Q hq => x_goto (dA d_Fm_takeCharacter 50 rfl) rfl hq) ?_
        exact z_retv (dA d_Fm_takeCharacter 88 rfl) rfl
      · exact z_retv (dA d_Fm_takeCharacter 88 rfl) rfl
    · refine z_fgt (ls' := [mR 3, mI v1, mI v2, mN]) ⟨.inr rfl, .inr rfl, .inr rfl, .inl rfl, trivial⟩ ?_
      exact S_Fm_takeCharacter_103 hd  L rv1 rv2
  · refine z_fgt (ls' := [mR 3, mI v1, mI v2, mN]) ⟨.inr rfl, .inr rfl, .inr rfl, .inl rfl, trivial⟩ ?_
    exact S_Fm_takeCharacter_103 hd  L rv1 rv2
noncomputable def F_Fm_takeCharacter_29 (v1 : Int) (v2 : Int) (s0 : Int) (h : MH) : RS Unit := if 0 ≤ v2 then if v1 = (41 : Int) then if s0 = 0 then bnd (F_In_drop (1 : Int) h) fun x50 h48 => bnd (F_Fm_callCollected h48) fun x55 h53 => some (.inl (), h53) else F_Fm_takeCharacter_67 v1 v2 s0 h else F_Fm_takeCharacter_67 v1 v2 s0 h else bnd (F_Fm_putFront (1 : Int) h) fun x60 h58 => some (.inl (), h58)
theorem S_Fm_takeCharacter_29 {d : Nat} (hd : 5 ≤ d) {v1 : Int} {v2 : Int} {s0 : Int} {h : MH} (L : LayC h) (rv1 : inR v1) (rv2 : inR v2) (rs0 : inR s0) : OK d k_Fm_takeCharacter 29 [mR 3, mI v1, mI v2, mN] [mI s0] h cV pT (F_Fm_takeCharacter_29  v1 v2 s0 h) := by
  unfold F_Fm_takeCharacter_29
  refine z_go (fun Q hq => x_istore_n (dA d_Fm_takeCharacter 15 rfl) rfl (by decide) rfl (x_iload_n (dA d_Fm_takeCharacter 16 rfl) rfl rfl hq)) ?_
  refine z_br (fun Q => x_if_ge (dA d_Fm_takeCharacter 17 rfl) rfl rv2) (fun c45 => ?_) (fun c45 => ?_)
  · refine z_go (fun Q hq => x_iload_n (dA d_Fm_takeCharacter 22 rfl) rfl rfl (x_bipush (dA d_Fm_takeCharacter 23 rfl) (by decide) hq)) ?_
    refine z_brn (fun Q => x_icmp_ne (dA d_Fm_takeCharacter 24 rfl) rfl rv1 (inR_lit (41 : Int) rfl)) (fun c46 => ?_) (fun c46 => ?_)
    · refine z_go (fun Q hq => x_iload_n (dA d_Fm_takeCharacter 25 rfl) rfl rfl hq) ?_
      refine z_brn (fun Q => x_if_ne (dA d_Fm_takeCharacter 26 rfl) rfl rs0) (fun c47 => ?_) (fun c47 => ?_)
      · refine z_go (fun Q hq => x_aload_n (dA d_Fm_takeCharacter 27 rfl) rfl rfl (x_getR (dA d_Fm_takeCharacter 28 rfl) f_Fm_30 (L.sh (x := (6, 7)) rfl) (by decide) (by decide) rfl (L.rf 6 rfl) (x_iconst (dA d_Fm_takeCharacter 29 rfl) hq))) ?_
        refine z_bnd (rest := []) (st1 := fun _ => []) (S_In_drop (d := 0) (Nat.le_refl _) L (inR_lit (1 : Int) rfl)) (fun _ hx => absurd hx List.not_mem_nil) (fun _ => rfl) (fun Q' Q => x_callV (as := [mI (1 : Int)]) (rest := []) (k' := k_In_drop) (dA d_Fm_takeCharacter 30 rfl) o_In_drop lk_Fm_104 im_In_drop se_In_drop rfl (L.sh (x := (7, 2)) rfl) (by decide) (Nat.le_of_ble_eq_true rfl) (Nat.le_trans (Nat.le_of_ble_eq_true rfl) hd) (Nat.le_of_ble_eq_true rfl)) (fun x50 h48 e49 p51 => ?_)
        have L52 := L.ext e49
        refine z_go (fun Q hq => x_aload_n (dA d_Fm_takeCharacter 31 rfl) rfl rfl hq) ?_
        refine z_bnd (rest := []) (st1 := fun _ => []) (S_Fm_callCollected (d := 4) (Nat.le_refl _) L52 ) (fun _ hx => absurd hx List.not_mem_nil) (fun _ => rfl) (fun Q' Q => x_callV (as := []) (rest := []) (k' := k_Fm_callCollected) (dA d_Fm_takeCharacter 32 rfl) o_Fm_callCollected lk_Fm_175 im_Fm_callCollected se_Fm_callCollected rfl (L52.sh (x := (6, 7)) rfl) (by decide) (Nat.le_of_ble_eq_true rfl) (Nat.le_trans (Nat.le_of_ble_eq_true rfl) hd) (Nat.le_of_ble_eq_true rfl)) (fun x55 h53 e54 p56 => ?_)
        have L57 := L52.ext e54
        refine z_go (fun Q hq => x_goto (dA d_Fm_takeCharacter 33 rfl) rfl hq) ?_
        exact z_retv (dA d_Fm_takeCharacter 88 rfl) rfl
      · exact S_Fm_takeCharacter_67 hd  L rv1 rv2 rs0
    · exact S_Fm_takeCharacter_67 hd  L rv1 rv2 rs0
  · refine z_go (fun Q hq => x_aload_n (dA d_Fm_takeCharacter 18 rfl) rfl rfl (x_iconst (dA d_Fm_takeCharacter 19 rfl) hq)) ?_
    refine z_bnd (rest := []) (st1 := fun _ => []) (S_Fm_putFront (d := 2) (Nat.le_refl _) L (inR_lit (1 : Int) rfl)) (fun _ hx => absurd hx List.not_mem_nil) (fun _ => rfl) (fun Q' Q => x_callV (as := [mI (1 : Int)]) (rest := []) (k' := k_Fm_putFront) (dA d_Fm_takeCharacter 20 rfl) o_Fm_putFront lk_Fm_119 im_Fm_putFront se_Fm_putFront rfl (L.sh (x := (6, 7)) rfl) (by decide) (Nat.le_of_ble_eq_true rfl) (Nat.le_trans (Nat.le_of_ble_eq_true rfl) hd) (Nat.le_of_ble_eq_true rfl)) (fun x60 h58 e59 p61 => ?_)
    have L62 := L.ext e59
    refine z_go (fun Q hq => x_goto (dA d_Fm_takeCharacter 21 rfl) rfl hq) ?_
    exact z_retv (dA d_Fm_takeCharacter 88 rfl) rfl
noncomputable def F_Fm_takeCharacter_28 (v1 : Int) (v2 : Int) (h : MH) : RS Unit := F_Fm_takeCharacter_29 v1 v2 (0 : Int) h
theorem S_Fm_takeCharacter_28 {d : Nat} (hd : 5 ≤ d) {v1 : Int} {v2 : Int} {h : MH} (L : LayC h) (rv1 : inR v1) (rv2 : inR v2) : OK d k_Fm_takeCharacter 28 [mR 3, mI v1, mI v2, mN] [] h cV pT (F_Fm_takeCharacter_28  v1 v2 h) := by
  unfold F_Fm_takeCharacter_28
  refine z_go (fun Q hq => x_iconst (dA d_Fm_takeCharacter 14 rfl) hq) ?_
  exact S_Fm_takeCharacter_29 hd  L rv1 rv2 (inR_lit (0 : Int) rfl)
noncomputable def F_Fm_takeCharacter (a1 : Int) (h : MH) : RS Unit := if (mGi h 77 5) < 0 then F_Fm_takeCharacter_28 a1 (mGi h 77 5) h else gd (0 ≤ (mGi h 77 5) ∧ (mGi h 77 5) < 6) (if (mGi h 82 (mGi h 77 5).toNat) ≤ 0 then F_Fm_takeCharacter_28 a1 (mGi h 77 5) h else F_Fm_takeCharacter_29 a1 (mGi h 77 5) (1 : Int) h)
theorem S_Fm_takeCharacter {d : Nat} (hd : 5 ≤ d) {a1 : Int} {h : MH} (L : LayC h) (ra1 : inR a1) : OK d k_Fm_takeCharacter 0 [mR 3, mI a1, mN, mN] [] h cV pT (F_Fm_takeCharacter  a1 h) := by
  unfold F_Fm_takeCharacter
  refine z_go (fun Q hq => x_aload_n (dA d_Fm_takeCharacter 0 rfl) rfl rfl (x_getR (dA d_Fm_takeCharacter 1 rfl) f_Fm_37 (L.sh (x := (6, 7)) rfl) (by decide) (by decide) rfl (L.rf 7 rfl) (x_getI (dA d_Fm_takeCharacter 2 rfl) f_Fm_84 (L.sh (x := (2, 6)) rfl) (by decide) (by decide) rfl (x_istore_n (dA d_Fm_takeCharacter 3 rfl) rfl (by decide) rfl (x_iload_n (dA d_Fm_takeCharacter 4 rfl) rfl rfl hq))))) ?_
  refine z_br (fun Q => x_if_lt (dA d_Fm_takeCharacter 5 rfl) rfl (L.rg _ _)) (fun c63 => ?_) (fun c63 => ?_)
  · exact S_Fm_takeCharacter_28 hd  L ra1 (L.rg _ _)
  · refine z_go (fun Q hq => x_aload_n (dA d_Fm_takeCharacter 6 rfl) rfl rfl (x_getR (dA d_Fm_takeCharacter 7 rfl) f_Fm_37 (L.sh (x := (6, 7)) rfl) (by decide) (by decide) rfl (L.rf 7 rfl) (x_getR (dA d_Fm_takeCharacter 8 rfl) f_Fm_172 (L.sh (x := (2, 6)) rfl) (by decide) (by decide) rfl (L.rf 82 rfl) (x_iload_n (dA d_Fm_takeCharacter 9 rfl) rfl rfl hq)))) ?_
    refine z_gd (fun g64 => ?_)
    refine z_go (fun Q hq => x_iald (dA d_Fm_takeCharacter 10 rfl) (L.sh (x := (100, 6)) rfl) g64.1 g64.2 (by decide) hq) ?_
    refine z_br (fun Q => x_if_le (dA d_Fm_takeCharacter 11 rfl) rfl (L.rg _ _)) (fun c65 => ?_) (fun c65 => ?_)
    · exact S_Fm_takeCharacter_28 hd  L ra1 (L.rg _ _)
    · refine z_go (fun Q hq => x_iconst (dA d_Fm_takeCharacter 12 rfl) (x_goto (dA d_Fm_takeCharacter 13 rfl) rfl hq)) ?_
      exact S_Fm_takeCharacter_29 hd  L ra1 (L.rg _ _) (inR_lit (1 : Int) rfl)
/-! TwoMills$Input.quotedLength()I -/
noncomputable def F_In_quotedLength_45 (G7 : Int → Int → MH → RS Int) (v1 : Int) (v2 : Int) (h : MH) : RS Int := if v1 = 0 then gd (inR (v2 + (1 : Int))) (gd (inR ((v2 + (1 : Int)) - (mGi h 75 1))) (some (.inl ((v2 + (1 : Int)) - (mGi h 75 1)), h))) else gd (inR (v2 + (1 : Int))) (G7 v1 (v2 + (1 : Int)) h)
theorem S_In_quotedLength_45 {d : Nat} (hd : 0 ≤ d) {G7 : Int → Int → MH → RS Int} (hG7 : ∀ (v1 : Int) (v2 : Int) (h : MH), LayC h → inR v1 → inR v2 → OK d k_In_quotedLength 7 [mR 75, mI v1, mI v2] [] h cI inR (G7 v1 v2 h)) {v1 : Int} {v2 : Int} {h : MH} (L : LayC h) (rv1 : inR v1) (rv2 : inR v2) : OK d k_In_quotedLength 45 [mR 75, mI v1, mI v2] [] h cI inR (F_In_quotedLength_45 G7 v1 v2 h) := by
  unfold F_In_quotedLength_45
  refine z_go (fun Q hq => x_iload_n (dA d_In_quotedLength 23 rfl) rfl rfl hq) ?_
  refine z_brn (fun Q => x_if_ne (dA d_In_quotedLength 24 rfl) rfl rv1) (fun c1 => ?_) (fun c1 => ?_)
  · refine z_go (fun Q hq => x_iload_n (dA d_In_quotedLength 25 rfl) rfl rfl (x_iconst (dA d_In_quotedLength 26 rfl) hq)) ?_
    refine z_gd (fun g2 => ?_)
    refine z_go (fun Q hq => x_iadd (dA d_In_quotedLength 27 rfl) (x_aload_n (dA d_In_quotedLength 28 rfl) rfl rfl (x_getI (dA d_In_quotedLength 29 rfl) f_In_15 (L.sh (x := (7, 2)) rfl) (by decide) (by decide) rfl hq))) ?_
    refine z_gd (fun g3 => ?_)
    refine z_go (fun Q hq => x_isub (dA d_In_quotedLength 30 rfl) hq) ?_
    exact z_reti (dA d_In_quotedLength 31 rfl) rfl g3
  · refine z_gd (fun g4 => ?_)
    refine z_go (fun Q hq => x_iinc (dA d_In_quotedLength 32 rfl) rfl (by decide) rfl (x_goto (dA d_In_quotedLength 33 rfl) rfl hq)) ?_
    exact hG7 v1 (v2 + (1 : Int)) h L rv1 g4
noncomputable def F_In_quotedLength_7_b (G7 : Int → Int → MH → RS Int) (v1 : Int) (v2 : Int) (h : MH) : RS Int := if (500 : Int) ≤ v2 then some (.inl (0 : Int), h) else gd (0 ≤ v2 ∧ v2 < 500) (if (mGi h 76 v2.toNat) = (96 : Int) then gd (inR (v1 + (1 : Int))) (F_In_quotedLength_45 G7 (v1 + (1 : Int)) v2 h) else if (mGi h 76 v2.toNat) = (39 : Int) then gd (inR (v1 + (-1 : Int))) (F_In_quotedLength_45 G7 (v1 + (-1 : Int)) v2 h) else F_In_quotedLength_45 G7 v1 v2 h)
theorem S_In_quotedLength_7_b {d : Nat} (hd : 0 ≤ d) {G7 : Int → Int → MH → RS Int} (hG7 : ∀ (v1 : Int) (v2 : Int) (h : MH), LayC h → inR v1 → inR v2 → OK d k_In_quotedLength 7 [mR 75, mI v1, mI v2] [] h cI inR (G7 v1 v2 h)) {v1 : Int} {v2 : Int} {h : MH} (L : LayC h) (rv1 : inR v1) (rv2 : inR v2) : OK d k_In_quotedLength 7 [mR 75, mI v1, mI v2] [] h cI inR (F_In_quotedLength_7_b G7 v1 v2 h) := by
  unfold F_In_quotedLength_7_b
  refine z_go (fun Q hq => x_iload_n (dA d_In_quotedLength 5 rfl) rfl rfl (x_sipush (dA d_In_quotedLength 6 rfl) (by decide) hq)) ?_
  refine z_br (fun Q => x_icmp_ge (dA d_In_quotedLength 7 rfl) rfl rv2 (inR_lit (500 : Int) rfl)) (fun c5 => ?_) (fun c5 => ?_)
  · refine z_go (fun Q hq => x_iconst (dA d_In_quotedLength 34 rfl) hq) ?_
    exact z_reti (dA d_In_quotedLength 35 rfl) rfl (inR_lit (0 : Int) rfl)
  · refine z_go (fun Q hq => x_aload_n (dA d_In_quotedLength 8 rfl) rfl rfl (x_getR (dA d_In_quotedLength 9 rfl) f_In_11 (L.sh (x := (7, 2)) rfl) (by decide) (by decide) rfl (L.rf 78 rfl) (x_iload_n (dA d_In_quotedLength 10 rfl) rfl rfl hq))) ?_
    refine z_gd (fun g6 => ?_)
    refine z_go (fun Q hq => x_cald (dA d_In_quotedLength 11 rfl) (L.sh (x := (101, 500)) rfl) g6.1 g6.2 (by decide) (x_bipush (dA d_In_quotedLength 12 rfl) (by decide) hq)) ?_
    refine z_brn (fun Q => x_icmp_ne (dA d_In_quotedLength 13 rfl) rfl (L.rg _ _) (inR_lit (96 : Int) rfl)) (fun c7 => ?_) (fun c7 => ?_)
    · refine z_gd (fun g8 => ?_)
      refine z_go (fun Q hq => x_iinc (dA d_In_quotedLength 14 rfl) rfl (by decide) rfl (x_goto (dA d_In_quotedLength 15 rfl) rfl hq)) ?_
      exact S_In_quotedLength_45 hd hG7 L g8 rv2
    · refine z_go (fun Q hq => x_aload_n (dA d_In_quotedLength 16 rfl) rfl rfl (x_getR (dA d_In_quotedLength 17 rfl) f_In_11 (L.sh (x := (7, 2)) rfl) (by decide) (by decide) rfl (L.rf 78 rfl) (x_iload_n (dA d_In_quotedLength 18 rfl) rfl rfl (x_cald (dA d_In_quotedLength 19 rfl) (L.sh (x := (101, 500)) rfl) g6.1 g6.2 (by decide) (x_bipush (dA d_In_quotedLength 20 rfl) (by decide) hq))))) ?_
      refine z_brn (fun Q => x_icmp_ne (dA d_In_quotedLength 21 rfl) rfl (L.rg _ _) (inR_lit (39 : Int) rfl)) (fun c9 => ?_) (fun c9 => ?_)
      · refine z_gd (fun g10 => ?_)
        refine z_go (fun Q hq => x_iinc (dA d_In_quotedLength 22 rfl) rfl (by decide) rfl hq) ?_
        exact S_In_quotedLength_45 hd hG7 L g10 rv2
      · exact S_In_quotedLength_45 hd hG7 L rv1 rv2
noncomputable def F_In_quotedLength_7 (v1 : Int) (v2 : Int) (h : MH) : RS Int := itr (fun self (q : Int × Int × MH) => F_In_quotedLength_7_b (fun v1 v2 h => self (v1, v2, h)) q.1 q.2.1 q.2.2) FU (v1, v2, h)
theorem S_In_quotedLength_7 {d : Nat} (hd : 0 ≤ d) {v1 : Int} {v2 : Int} {h : MH} (L : LayC h) (rv1 : inR v1) (rv2 : inR v2) : OK d k_In_quotedLength 7 [mR 75, mI v1, mI v2] [] h cI inR (F_In_quotedLength_7  v1 v2 h) := by
  unfold F_In_quotedLength_7
  refine z_itr (P := fun q : Int × Int × MH => LayC q.2.2 ∧ inR q.1 ∧ inR q.2.1 ∧ True) (ls := fun q : Int × Int × MH => [mR 75, mI q.1, mI q.2.1]) (hp := fun q : Int × Int × MH => q.2.2) (fun self hs q hq => ?_) FU (v1, v2, h) ⟨L, rv1, rv2, trivial⟩
  exact S_In_quotedLength_7_b hd (fun v1 v2 h L rv1 rv2 => hs (v1, v2, h) ⟨L, rv1, rv2, trivial⟩) hq.1 hq.2.1 hq.2.2.1
noncomputable def F_In_quotedLength (h : MH) : RS Int := F_In_quotedLength_7 (0 : Int) (mGi h 75 1) h
theorem S_In_quotedLength {d : Nat} (hd : 0 ≤ d) {h : MH} (L : LayC h) : OK d k_In_quotedLength 0 [mR 75, mN, mN] [] h cI inR (F_In_quotedLength   h) := by
  unfold F_In_quotedLength
  refine z_go (fun Q hq => x_iconst (dA d_In_quotedLength 0 rfl) (x_istore_n (dA d_In_quotedLength 1 rfl) rfl (by decide) rfl (x_aload_n (dA d_In_quotedLength 2 rfl) rfl rfl (x_getI (dA d_In_quotedLength 3 rfl) f_In_15 (L.sh (x := (7, 2)) rfl) (by decide) (by decide) rfl (x_istore_n (dA d_In_quotedLength 4 rfl) rfl (by decide) rfl hq))))) ?_
  exact S_In_quotedLength_7 hd  L (inR_lit (0 : Int) rfl) (L.rg _ _)
/-! TwoMills$FirstMill.takeQuoted()V -/
noncomputable def F_Fm_takeQuoted_17 (v1 : Int) (h : MH) : RS Unit := gd (inR ((mGi h 75 1) + (1 : Int))) (gd (inR (v1 - (2 : Int))) (bnd (F_Fm_put ((mGi h 75 1) + (1 : Int)) (v1 - (2 : Int)) h) fun x5 h3 => bnd (F_In_drop v1 h3) fun x10 h8 => some (.inl (), h8)))
theorem S_Fm_takeQuoted_17 {d : Nat} (hd : 2 ≤ d) {v1 : Int} {h : MH} (L : LayC h) (rv1 : inR v1) : OK d k_Fm_takeQuoted 17 [mR 3, mI v1] [] h cV pT (F_Fm_takeQuoted_17  v1 h) := by
  unfold F_Fm_takeQuoted_17
  refine z_go (fun Q hq => x_aload_n (dA d_Fm_takeQuoted 9 rfl) rfl rfl (x_aload_n (dA d_Fm_takeQuoted 10 rfl) rfl rfl (x_getR (dA d_Fm_takeQuoted 11 rfl) f_Fm_30 (L.sh (x := (6, 7)) rfl) (by decide) (by decide) rfl (L.rf 6 rfl) (x_getI (dA d_Fm_takeQuoted 12 rfl) f_Fm_97 (L.sh (x := (7, 2)) rfl) (by decide) (by decide) rfl (x_iconst (dA d_Fm_takeQuoted 13 rfl) hq))))) ?_
  refine z_gd (fun g1 => ?_)
  refine z_go (fun Q hq => x_iadd (dA d_Fm_takeQuoted 14 rfl) (x_iload_n (dA d_Fm_takeQuoted 15 rfl) rfl rfl (x_iconst (dA d_Fm_takeQuoted 16 rfl) hq))) ?_
  refine z_gd (fun g2 => ?_)
  refine z_go (fun Q hq => x_isub (dA d_Fm_takeQuoted 17 rfl) hq) ?_
  refine z_bnd (rest := []) (st1 := fun _ => []) (S_Fm_put (d := 1) (Nat.le_refl _) L g1 g2) (fun _ hx => absurd hx List.not_mem_nil) (fun _ => rfl) (fun Q' Q => x_callV (as := [mI ((mGi h 75 1) + (1 : Int)), mI (v1 - (2 : Int))]) (rest := []) (k' := k_Fm_put) (dA d_Fm_takeQuoted 18 rfl) o_Fm_put lk_Fm_100 im_Fm_put se_Fm_put rfl (L.sh (x := (6, 7)) rfl) (by decide) (Nat.le_of_ble_eq_true rfl) (Nat.le_trans (Nat.le_of_ble_eq_true rfl) hd) (Nat.le_of_ble_eq_true rfl)) (fun x5 h3 e4 p6 => ?_)
  have L7 := L.ext e4
  refine z_go (fun Q hq => x_aload_n (dA d_Fm_takeQuoted 19 rfl) rfl rfl (x_getR (dA d_Fm_takeQuoted 20 rfl) f_Fm_30 (L7.sh (x := (6, 7)) rfl) (by decide) (by decide) rfl (L7.rf 6 rfl) (x_iload_n (dA d_Fm_takeQuoted 21 rfl) rfl rfl hq))) ?_
  refine z_bnd (rest := []) (st1 := fun _ => []) (S_In_drop (d := 0) (Nat.le_refl _) L7 rv1) (fun _ hx => absurd hx List.not_mem_nil) (fun _ => rfl) (fun Q' Q => x_callV (as := [mI v1]) (rest := []) (k' := k_In_drop) (dA d_Fm_takeQuoted 22 rfl) o_In_drop lk_Fm_104 im_In_drop se_In_drop rfl (L7.sh (x := (7, 2)) rfl) (by decide) (Nat.le_of_ble_eq_true rfl) (Nat.le_trans (Nat.le_of_ble_eq_true rfl) hd) (Nat.le_of_ble_eq_true rfl)) (fun x10 h8 e9 p11 => ?_)
  have L12 := L7.ext e9
  exact z_retv (dA d_Fm_takeQuoted 23 rfl) rfl
noncomputable def F_Fm_takeQuoted (h : MH) : RS Unit := bnd (F_In_quotedLength h) fun x15 h13 => if x15 = 0 then bnd (F_Fm_fail (3 : Int) h13) fun x21 h19 => F_Fm_takeQuoted_17 x15 h19 else F_Fm_takeQuoted_17 x15 h13
theorem S_Fm_takeQuoted {d : Nat} (hd : 2 ≤ d) {h : MH} (L : LayC h) : OK d k_Fm_takeQuoted 0 [mR 3, mN] [] h cV pT (F_Fm_takeQuoted   h) := by
  unfold F_Fm_takeQuoted
  refine z_go (fun Q hq => x_aload_n (dA d_Fm_takeQuoted 0 rfl) rfl rfl (x_getR (dA d_Fm_takeQuoted 1 rfl) f_Fm_30 (L.sh (x := (6, 7)) rfl) (by decide) (by decide) rfl (L.rf 6 rfl) hq)) ?_
  refine z_bnd (rest := []) (st1 := fun v => mI v :: []) (S_In_quotedLength (d := 0) (Nat.le_refl _) L ) (fun _ hx => absurd hx List.not_mem_nil) (fun _ => rfl) (fun Q' Q => x_callV (as := []) (rest := []) (k' := k_In_quotedLength) (dA d_Fm_takeQuoted 2 rfl) o_In_quotedLength lk_Fm_93 im_In_quotedLength se_In_quotedLength rfl (L.sh (x := (7, 2)) rfl) (by decide) (Nat.le_of_ble_eq_true rfl) (Nat.le_trans (Nat.le_of_ble_eq_true rfl) hd) (Nat.le_of_ble_eq_true rfl)) (fun x15 h13 e14 p16 => ?_)
  have L17 := L.ext e14
  refine z_go (fun Q hq => x_istore_n (dA d_Fm_takeQuoted 3 rfl) rfl (by decide) rfl (x_iload_n (dA d_Fm_takeQuoted 4 rfl) rfl rfl hq)) ?_
  refine z_brn (fun Q => x_if_ne (dA d_Fm_takeQuoted 5 rfl) rfl p16) (fun c18 => ?_) (fun c18 => ?_)
  · refine z_go (fun Q hq => x_aload_n (dA d_Fm_takeQuoted 6 rfl) rfl rfl (x_iconst (dA d_Fm_takeQuoted 7 rfl) hq)) ?_
    refine z_bnd (rest := []) (st1 := fun _ => []) (S_Fm_fail (d := 0) (Nat.le_refl _) L17 (inR_lit (3 : Int) rfl)) (fun _ hx => absurd hx List.not_mem_nil) (fun _ => rfl) (fun Q' Q => x_callV (as := [mI (3 : Int)]) (rest := []) (k' := k_Fm_fail) (dA d_Fm_takeQuoted 8 rfl) o_Fm_fail lk_Fm_87 im_Fm_fail se_Fm_fail rfl (L17.sh (x := (6, 7)) rfl) (by decide) (Nat.le_of_ble_eq_true rfl) (Nat.le_trans (Nat.le_of_ble_eq_true rfl) hd) (Nat.le_of_ble_eq_true rfl)) (fun x21 h19 e20 p22 => ?_)
    have L23 := L17.ext e20
    exact S_Fm_takeQuoted_17 hd  L23 p16
  · exact S_Fm_takeQuoted_17 hd  L17 p16
/-! TwoMills$Arguments.begin(I)Z -/
noncomputable def F_Ar_begin (a1 : Int) (h : MH) : RS Int := gd (inR ((mGi h 77 5) + (1 : Int))) (if ((mGi h 77 5) + (1 : Int)) < (6 : Int) then sto (mPi h 77 5 ((mGi h 77 5) + (1 : Int))) fun h3 => gd (0 ≤ (mGi h3 77 5) ∧ (mGi h3 77 5) < 6) (sto (mPi h3 81 (mGi h3 77 5).toNat a1) fun h7 => gd (0 ≤ (mGi h7 77 5) ∧ (mGi h7 77 5) < 6) (sto (mPi h7 82 (mGi h7 77 5).toNat (0 : Int)) fun h11 => gd (0 ≤ (mGi h11 77 5) ∧ (mGi h11 77 5) < 6) (sto (mPi h11 83 (mGi h11 77 5).toNat (0 : Int)) fun h15 => bnd (F_Ar_beginArgument h15) fun x20 h18 => some (.inl x20, h18)))) else some (.inl (0 : Int), h))
theorem S_Ar_begin {d : Nat} (hd : 1 ≤ d) {a1 : Int} {h : MH} (L : LayC h) (ra1 : inR a1) : OK d k_Ar_begin 0 [mR 77, mI a1] [] h cI p01 (F_Ar_begin  a1 h) := by
  unfold F_Ar_begin
  refine z_go (fun Q hq => x_aload_n (dA d_Ar_begin 0 rfl) rfl rfl (x_getI (dA d_Ar_begin 1 rfl) f_Ar_31 (L.sh (x := (2, 6)) rfl) (by decide) (by decide) rfl (x_iconst (dA d_Ar_begin 2 rfl) hq))) ?_
  refine z_gd (fun g1 => ?_)
  refine z_go (fun Q hq => x_iadd (dA d_Ar_begin 3 rfl) (x_bipush (dA d_Ar_begin 4 rfl) (by decide) hq)) ?_
  refine z_br (fun Q => x_icmp_lt (dA d_Ar_begin 5 rfl) rfl g1 (inR_lit (6 : Int) rfl)) (fun c2 => ?_) (fun c2 => ?_)
  · refine z_go (fun Q hq => x_aload_n (dA d_Ar_begin 8 rfl) rfl rfl (x_dup (dA d_Ar_begin 9 rfl) rfl (x_getI (dA d_Ar_begin 10 rfl) f_Ar_31 (L.sh (x := (2, 6)) rfl) (by decide) (by decide) rfl (x_iconst (dA d_Ar_begin 11 rfl) (x_iadd (dA d_Ar_begin 12 rfl) hq))))) ?_
    refine z_sto (Ext.pi (L.sh (x := (2, 6)) rfl) (by decide) g1) (fun Q hq => x_putI (dA d_Ar_begin 13 rfl) p_Ar_31 (L.sh (x := (2, 6)) rfl) (by decide) cl_Ar rfl hq) (fun h3 e4 => ?_)
    have L5 := L.ext e4
    refine z_go (fun Q hq => x_aload_n (dA d_Ar_begin 14 rfl) rfl rfl (x_getR (dA d_Ar_begin 15 rfl) f_Ar_22 (L5.sh (x := (2, 6)) rfl) (by decide) (by decide) rfl (L5.rf 81 rfl) (x_aload_n (dA d_Ar_begin 16 rfl) rfl rfl (x_getI (dA d_Ar_begin 17 rfl) f_Ar_31 (L5.sh (x := (2, 6)) rfl) (by decide) (by decide) rfl (x_iload_n (dA d_Ar_begin 18 rfl) rfl rfl hq))))) ?_
    refine z_gd (fun g6 => ?_)
    refine z_sto (Ext.pi (L5.sh (x := (100, 6)) rfl) (by decide) ra1) (fun Q hq => x_iast (dA d_Ar_begin 19 rfl) (L5.sh (x := (100, 6)) rfl) g6.1 g6.2 (by decide) hq) (fun h7 e8 => ?_)
    have L9 := L5.ext e8
    refine z_go (fun Q hq => x_aload_n (dA d_Ar_begin 20 rfl) rfl rfl (x_getR (dA d_Ar_begin 21 rfl) f_Ar_25 (L9.sh (x := (2, 6)) rfl) (by decide) (by decide) rfl (L9.rf 82 rfl) (x_aload_n (dA d_Ar_begin 22 rfl) rfl rfl (x_getI (dA d_Ar_begin 23 rfl) f_Ar_31 (L9.sh (x := (2, 6)) rfl) (by decide) (by decide) rfl (x_iconst (dA d_Ar_begin 24 rfl) hq))))) ?_
    refine z_gd (fun g10 => ?_)
    refine z_sto (Ext.pi (L9.sh (x := (100, 6)) rfl) (by decide) (inR_lit (0 : Int) rfl)) (fun Q hq => x_iast (dA d_Ar_begin 25 rfl) (L9.sh (x := (100, 6)) rfl) g10.1 g10.2 (by decide) hq) (fun h11 e12 => ?_)
    have L13 := L9.ext e12
    refine z_go (fun Q hq => x_aload_n (dA d_Ar_begin 26 rfl) rfl rfl (x_getR (dA d_Ar_begin 27 rfl) f_Ar_28 (L13.sh (x := (2, 6)) rfl) (by decide) (by decide) rfl (L13.rf 83 rfl) (x_aload_n (dA d_Ar_begin 28 rfl) rfl rfl (x_getI (dA d_Ar_begin 29 rfl) f_Ar_31 (L13.sh (x := (2, 6)) rfl) (by decide) (by decide) rfl (x_iconst (dA d_Ar_begin 30 rfl) hq))))) ?_
    refine z_gd (fun g14 => ?_)
    refine z_sto (Ext.pi (L13.sh (x := (100, 6)) rfl) (by decide) (inR_lit (0 : Int) rfl)) (fun Q hq => x_iast (dA d_Ar_begin 31 rfl) (L13.sh (x := (100, 6)) rfl) g14.1 g14.2 (by decide) hq) (fun h15 e16 => ?_)
    have L17 := L13.ext e16
    refine z_go (fun Q hq => x_aload_n (dA d_Ar_begin 32 rfl) rfl rfl hq) ?_
    refine z_bnd (rest := []) (st1 := fun v => mI v :: []) (S_Ar_beginArgument (d := 0) (Nat.le_refl _) L17 ) (fun _ hx => absurd hx List.not_mem_nil) (fun _ => rfl) (fun Q' Q => x_callV (as := []) (rest := []) (k' := k_Ar_beginArgument) (dA d_Ar_begin 33 rfl) o_Ar_beginArgument lk_Ar_38 im_Ar_beginArgument se_Ar_beginArgument rfl (L17.sh (x := (2, 6)) rfl) (by decide) (Nat.le_of_ble_eq_true rfl) (Nat.le_trans (Nat.le_of_ble_eq_true rfl) hd) (Nat.le_of_ble_eq_true rfl)) (fun x20 h18 e19 p21 => ?_)
    have L22 := L17.ext e19
    exact z_retz (dA d_Ar_begin 34 rfl) rfl p21
  · refine z_go (fun Q hq => x_iconst (dA d_Ar_begin 6 rfl) hq) ?_
    exact z_retz (dA d_Ar_begin 7 rfl) rfl (.inl rfl)
/-! TwoMills$FirstMill.collect(I)V -/
noncomputable def F_Fm_collect_16 (v1 : Int) (h : MH) : RS Unit := if (100 : Int) ≤ v1 then some (.inl (), h) else gd (0 ≤ v1 ∧ v1 < 16) (gd (inR ((mGi h 9 v1.toNat) + (1 : Int))) (sto (mPi h 9 v1.toNat ((mGi h 9 v1.toNat) + (1 : Int))) fun h4 => some (.inl (), h4)))
theorem S_Fm_collect_16 {d : Nat} (hd : 2 ≤ d) {v1 : Int} {h : MH} (L : LayC h) (rv1 : inR v1) : OK d k_Fm_collect 16 [mR 3, mI v1] [] h cV pT (F_Fm_collect_16  v1 h) := by
  unfold F_Fm_collect_16
  refine z_go (fun Q hq => x_iload_n (dA d_Fm_collect 8 rfl) rfl rfl (x_bipush (dA d_Fm_collect 9 rfl) (by decide) hq)) ?_
  refine z_br (fun Q => x_icmp_ge (dA d_Fm_collect 10 rfl) rfl rv1 (inR_lit (100 : Int) rfl)) (fun c1 => ?_) (fun c1 => ?_)
  · exact z_retv (dA d_Fm_collect 20 rfl) rfl
  · refine z_go (fun Q hq => x_aload_n (dA d_Fm_collect 11 rfl) rfl rfl (x_getR (dA d_Fm_collect 12 rfl) f_Fm_23 (L.sh (x := (6, 7)) rfl) (by decide) (by decide) rfl (L.rf 5 rfl) (x_getR (dA d_Fm_collect 13 rfl) f_Fm_168 (L.sh (x := (3, 5)) rfl) (by decide) (by decide) rfl (L.rf 12 rfl) (x_iload_n (dA d_Fm_collect 14 rfl) rfl rfl (x_dup2 (dA d_Fm_collect 15 rfl) rfl rfl hq))))) ?_
    refine z_gd (fun g2 => ?_)
    refine z_go (fun Q hq => x_iald (dA d_Fm_collect 16 rfl) (L.sh (x := (100, 16)) rfl) g2.1 g2.2 (by decide) (x_iconst (dA d_Fm_collect 17 rfl) hq)) ?_
    refine z_gd (fun g3 => ?_)
    refine z_go (fun Q hq => x_iadd (dA d_Fm_collect 18 rfl) hq) ?_
    refine z_sto (Ext.pi (L.sh (x := (100, 16)) rfl) (by decide) g3) (fun Q hq => x_iast (dA d_Fm_collect 19 rfl) (L.sh (x := (100, 16)) rfl) g2.1 g2.2 (by decide) hq) (fun h4 e5 => ?_)
    have L6 := L.ext e5
    exact z_retv (dA d_Fm_collect 20 rfl) rfl
noncomputable def F_Fm_collect (a1 : Int) (h : MH) : RS Unit := bnd (F_Ar_begin a1 h) fun x9 h7 => if x9 = 0 then bnd (F_Fm_fail (1 : Int) h7) fun x15 h13 => F_Fm_collect_16 a1 h13 else F_Fm_collect_16 a1 h7
theorem S_Fm_collect {d : Nat} (hd : 2 ≤ d) {a1 : Int} {h : MH} (L : LayC h) (ra1 : inR a1) : OK d k_Fm_collect 0 [mR 3, mI a1] [] h cV pT (F_Fm_collect  a1 h) := by
  unfold F_Fm_collect
  refine z_go (fun Q hq => x_aload_n (dA d_Fm_collect 0 rfl) rfl rfl (x_getR (dA d_Fm_collect 1 rfl) f_Fm_37 (L.sh (x := (6, 7)) rfl) (by decide) (by decide) rfl (L.rf 7 rfl) (x_iload_n (dA d_Fm_collect 2 rfl) rfl rfl hq))) ?_
  refine z_bnd (rest := []) (st1 := fun v => mI v :: []) (S_Ar_begin (d := 1) (Nat.le_refl _) L ra1) (fun _ hx => absurd hx List.not_mem_nil) (fun _ => rfl) (fun Q' Q => x_callV (as := [mI a1]) (rest := []) (k' := k_Ar_begin) (dA d_Fm_collect 3 rfl) o_Ar_begin lk_Fm_165 im_Ar_begin se_Ar_begin rfl (L.sh (x := (2, 6)) rfl) (by decide) (Nat.le_of_ble_eq_true rfl) (Nat.le_trans (Nat.le_of_ble_eq_true rfl) hd) (Nat.le_of_ble_eq_true rfl)) (fun x9 h7 e8 p10 => ?_)
  have L11 := L.ext e8
  refine z_brn (fun Q => x_if_ne (dA d_Fm_collect 4 rfl) rfl p10.inR) (fun c12 => ?_) (fun c12 => ?_)
  · refine z_go (fun Q hq => x_aload_n (dA d_Fm_collect 5 rfl) rfl rfl (x_iconst (dA d_Fm_collect 6 rfl) hq)) ?_
    refine z_bnd (rest := []) (st1 := fun _ => []) (S_Fm_fail (d := 0) (Nat.le_refl _) L11 (inR_lit (1 : Int) rfl)) (fun _ hx => absurd hx List.not_mem_nil) (fun _ => rfl) (fun Q' Q => x_callV (as := [mI (1 : Int)]) (rest := []) (k' := k_Fm_fail) (dA d_Fm_collect 7 rfl) o_Fm_fail lk_Fm_87 im_Fm_fail se_Fm_fail rfl (L11.sh (x := (6, 7)) rfl) (by decide) (Nat.le_of_ble_eq_true rfl) (Nat.le_trans (Nat.le_of_ble_eq_true rfl) hd) (Nat.le_of_ble_eq_true rfl)) (fun x15 h13 e14 p16 => ?_)
    have L17 := L11.ext e14
    exact S_Fm_collect_16 hd  L17 ra1
  · exact S_Fm_collect_16 hd  L11 ra1
/-! TwoMills.spells([CIILjava/lang/String;)Z -/
noncomputable def F_T_spells_13_b (G13 : Nat → Nat → Int → Int → Nat → Int → MH → RS Int) (v0 : Nat) (v0n : Nat) (v1 : Int) (v2 : Int) (v3 : Nat) (v4 : Int) (h : MH) : RS Int := if v2 ≤ v4 then some (.inl (1 : Int), h) else gd (inR (v1 + v4)) (gd (0 ≤ (v1 + v4) ∧ (v1 + v4) < v0n) (gd (0 ≤ v4 ∧ v4 < ((mSLen.getD v3 0 : Nat) : Int)) (if (mGi h v0 (v1 + v4).toNat) = (sCh v3 v4) then gd (inR (v4 + (1 : Int))) (G13 v0 v0n v1 v2 v3 (v4 + (1 : Int)) h) else some (.inl (0 : Int), h))))
theorem S_T_spells_13_b {d : Nat} (hd : 4 ≤ d) {G13 : Nat → Nat → Int → Int → Nat → Int → MH → RS Int} (hG13 : ∀ (v0 : Nat) (v0n : Nat) (v1 : Int) (v2 : Int) (v3 : Nat) (v4 : Int) (h : MH), LayC h → ArO h v0 101 v0n → inR v1 → inR v2 → v3 < 16 → inR v4 → OK d k_T_spells 13 [mR v0, mI v1, mI v2, mS v3, mI v4] [] h cI p01 (G13 v0 v0n v1 v2 v3 v4 h)) {v0 : Nat} {v0n : Nat} {v1 : Int} {v2 : Int} {v3 : Nat} {v4 : Int} {h : MH} (L : LayC h) (ov0 : ArO h v0 101 v0n) (rv1 : inR v1) (rv2 : inR v2) (rv3 : v3 < 16) (rv4 : inR v4) : OK d k_T_spells 13 [mR v0, mI v1, mI v2, mS v3, mI v4] [] h cI p01 (F_T_spells_13_b G13 v0 v0n v1 v2 v3 v4 h) := by
  unfold F_T_spells_13_b
  refine z_go (fun Q hq => x_iload (dA d_T_spells 8 rfl) rfl (x_iload_n (dA d_T_spells 9 rfl) rfl rfl hq)) ?_
  refine z_br (fun Q => x_icmp_ge (dA d_T_spells 10 rfl) rfl rv4 rv2) (fun c1 => ?_) (fun c1 => ?_)
  · refine z_go (fun Q hq => x_iconst (dA d_T_spells 24 rfl) hq) ?_
    exact z_retz (dA d_T_spells 25 rfl) rfl (.inr rfl)
  · refine z_go (fun Q hq => x_aload_n (dA d_T_spells 11 rfl) rfl rfl (x_iload_n (dA d_T_spells 12 rfl) rfl rfl (x_iload (dA d_T_spells 13 rfl) rfl hq))) ?_
    refine z_gd (fun g2 => ?_)
    refine z_go (fun Q hq => x_iadd (dA d_T_spells 14 rfl) hq) ?_
    refine z_gd (fun g3 => ?_)
    refine z_go (fun Q hq => x_cald (dA d_T_spells 15 rfl) ov0.1 g3.1 g3.2 ov0.2 (x_sload_n (dA d_T_spells 16 rfl) rfl rfl (x_iload (dA d_T_spells 17 rfl) rfl hq))) ?_
    refine z_gd (fun g4 => ?_)
    refine z_go (fun Q hq => x_dVS (as := [mI v4]) (rest := [mI (mGi h v0 (v1 + v4).toNat)]) (k' := k_St_charAt) (dA d_T_spells 18 rfl) o_St_charAt slk_T_127 im_St_charAt se_St_charAt rv3 (Nat.le_of_ble_eq_true rfl) (Nat.le_trans (Nat.le_of_ble_eq_true rfl) hd) (Nat.le_of_ble_eq_true rfl) (c_St_charAt rv3 g4.1 g4.2) hq) ?_
    refine z_br (fun Q => x_icmp_eq (dA d_T_spells 19 rfl) rfl (L.rg _ _) (inR_s rv3 g4)) (fun c5 => ?_) (fun c5 => ?_)
    · refine z_gd (fun g6 => ?_)
      refine z_go (fun Q hq => x_iinc (dA d_T_spells 22 rfl) rfl (by decide) rfl (x_goto (dA d_T_spells 23 rfl) rfl hq)) ?_
      exact hG13 v0 v0n v1 v2 v3 (v4 + (1 : Int)) h L ov0 rv1 rv2 rv3 g6
    · refine z_go (fun Q hq => x_iconst (dA d_T_spells 20 rfl) hq) ?_
      exact z_retz (dA d_T_spells 21 rfl) rfl (.inl rfl)
noncomputable def F_T_spells_13 (v0 : Nat) (v0n : Nat) (v1 : Int) (v2 : Int) (v3 : Nat) (v4 : Int) (h : MH) : RS Int := itr (fun self (q : Nat × Nat × Int × Int × Nat × Int × MH) => F_T_spells_13_b (fun v0 v0n v1 v2 v3 v4 h => self (v0, v0n, v1, v2, v3, v4, h)) q.1 q.2.1 q.2.2.1 q.2.2.2.1 q.2.2.2.2.1 q.2.2.2.2.2.1 q.2.2.2.2.2.2) FU (v0, v0n, v1, v2, v3, v4, h)
theorem S_T_spells_13 {d : Nat} (hd : 4 ≤ d) {v0 : Nat} {v0n : Nat} {v1 : Int} {v2 : Int} {v3 : Nat} {v4 : Int} {h : MH} (L : LayC h) (ov0 : ArO h v0 101 v0n) (rv1 : inR v1) (rv2 : inR v2) (rv3 : v3 < 16) (rv4 : inR v4) : OK d k_T_spells 13 [mR v0, mI v1, mI v2, mS v3, mI v4] [] h cI p01 (F_T_spells_13  v0 v0n v1 v2 v3 v4 h) := by
  unfold F_T_spells_13
  refine z_itr (P := fun q : Nat × Nat × Int × Int × Nat × Int × MH => LayC q.2.2.2.2.2.2 ∧ ArO q.2.2.2.2.2.2 q.1 101 q.2.1 ∧ inR q.2.2.1 ∧ inR q.2.2.2.1 ∧ q.2.2.2.2.1 < 16 ∧ inR q.2.2.2.2.2.1 ∧ True) (ls := fun q : Nat × Nat × Int × Int × Nat × Int × MH => [mR q.1, mI q.2.2.1, mI q.2.2.2.1, mS q.2.2.2.2.1, mI q.2.2.2.2.2.1]) (hp := fun q : Nat × Nat × Int × Int × Nat × Int × MH => q.2.2.2.2.2.2) (fun self hs q hq => ?_) FU (v0, v0n, v1, v2, v3, v4, h) ⟨L, ov0, rv1, rv2, rv3, rv4, trivial⟩
  exact S_T_spells_13_b hd (fun v0 v0n v1 v2 v3 v4 h L ov0 rv1 rv2 rv3 rv4 => hs (v0, v0n, v1, v2, v3, v4, h) ⟨L, ov0, rv1, rv2, rv3, rv4, trivial⟩) hq.1 hq.2.1 hq.2.2.1 hq.2.2.2.1 hq.2.2.2.2.1 hq.2.2.2.2.2.1
noncomputable def F_T_spells (a1 : Nat) (a1n : Nat) (a2 : Int) (a3 : Int) (a4 : Nat) (h : MH) : RS Int := if a3 = ((mSLen.getD a4 0 : Nat) : Int) then F_T_spells_13 a1 a1n a2 a3 a4 (0 : Int) h else some (.inl (0 : Int), h)
theorem S_T_spells {d : Nat} (hd : 4 ≤ d) {a1 : Nat} {a1n : Nat} {a2 : Int} {a3 : Int} {a4 : Nat} {h : MH} (L : LayC h) (oa1 : ArO h a1 101 a1n) (ra2 : inR a2) (ra3 : inR a3) (ra4 : a4 < 16) : OK d k_T_spells 0 [mR a1, mI a2, mI a3, mS a4, mN] [] h cI p01 (F_T_spells  a1 a1n a2 a3 a4 h) := by
  unfold F_T_spells
  refine z_go (fun Q hq => x_iload_n (dA d_T_spells 0 rfl) rfl rfl (x_sload_n (dA d_T_spells 1 rfl) rfl rfl (x_dVS (as := []) (rest := [mI a3]) (k' := k_St_length) (dA d_T_spells 2 rfl) o_St_length slk_T_123 im_St_length se_St_length ra4 (Nat.le_of_ble_eq_true rfl) (Nat.le_trans (Nat.le_of_ble_eq_true rfl) hd) (Nat.le_of_ble_eq_true rfl) (c_St_length ra4) hq))) ?_
  refine z_br (fun Q => x_icmp_eq (dA d_T_spells 3 rfl) rfl ra3 (sLen_r ra4)) (fun c7 => ?_) (fun c7 => ?_)
  · refine z_go (fun Q hq => x_iconst (dA d_T_spells 6 rfl) (x_istore (dA d_T_spells 7 rfl) (by decide) rfl hq)) ?_
    exact S_T_spells_13 hd  L oa1 ra2 ra3 ra4 (inR_lit (0 : Int) rfl)
  · refine z_go (fun Q hq => x_iconst (dA d_T_spells 4 rfl) hq) ?_
    exact z_retz (dA d_T_spells 5 rfl) rfl (.inl rfl)
/-! TwoMills$FirstMill.isFront(ILjava/lang/String;)Z -/
noncomputable def F_Fm_isFront (a1 : Int) (a2 : Nat) (h : MH) : RS Int := bnd (F_T_spells 76 500 (mGi h 75 1) a1 a2 h) fun x3 h1 => some (.inl x3, h1)
theorem S_Fm_isFront {d : Nat} (hd : 5 ≤ d) {a1 : Int} {a2 : Nat} {h : MH} (L : LayC h) (ra1 : inR a1) (ra2 : a2 < 16) : OK d k_Fm_isFront 0 [mR 3, mI a1, mS a2] [] h cI p01 (F_Fm_isFront  a1 a2 h) := by
  unfold F_Fm_isFront
  refine z_go (fun Q hq => x_aload_n (dA d_Fm_isFront 0 rfl) rfl rfl (x_getR (dA d_Fm_isFront 1 rfl) f_Fm_30 (L.sh (x := (6, 7)) rfl) (by decide) (by decide) rfl (L.rf 6 rfl) (x_getR (dA d_Fm_isFront 2 rfl) f_Fm_107 (L.sh (x := (7, 2)) rfl) (by decide) (by decide) rfl (L.rf 78 rfl) (x_aload_n (dA d_Fm_isFront 3 rfl) rfl rfl (x_getR (dA d_Fm_isFront 4 rfl) f_Fm_30 (L.sh (x := (6, 7)) rfl) (by decide) (by decide) rfl (L.rf 6 rfl) (x_getI (dA d_Fm_isFront 5 rfl) f_Fm_97 (L.sh (x := (7, 2)) rfl) (by decide) (by decide) rfl (x_iload_n (dA d_Fm_isFront 6 rfl) rfl rfl (x_sload_n (dA d_Fm_isFront 7 rfl) rfl rfl hq)))))))) ?_
  refine z_bnd (rest := []) (st1 := fun v => mI v :: []) (S_T_spells (d := 4) (Nat.le_refl _) L ⟨L.sh rfl, by decide⟩ (L.rg _ _) ra1 ra2) (fun _ hx => absurd hx List.not_mem_nil) (fun _ => rfl) (fun Q' Q => x_callSN (as := [mR 76, mI (mGi h 75 1), mI a1, mS a2]) (rest := []) (k' := k_T_spells) (dA d_Fm_isFront 8 rfl) o_T_spells lk_Fm_161 st_T_spells (Nat.le_of_ble_eq_true rfl) (Nat.le_trans (Nat.le_of_ble_eq_true rfl) hd) (Nat.le_of_ble_eq_true rfl)) (fun x3 h1 e2 p4 => ?_)
  have L5 := L.ext e2
  exact z_retz (dA d_Fm_isFront 9 rfl) rfl p4
/-! TwoMills$FirstMill.builtInWithBracket(I)I -/
noncomputable def F_Fm_builtInWithBracket (a1 : Int) (h : MH) : RS Int := bnd (F_Fm_isFront a1 1 h) fun x3 h1 => if x3 = 0 then bnd (F_Fm_isFront a1 2 h1) fun x9 h7 => if x9 = 0 then bnd (F_Fm_isFront a1 3 h7) fun x15 h13 => if x15 = 0 then bnd (F_Fm_isFront a1 4 h13) fun x21 h19 => if x21 = 0 then bnd (F_Fm_isFront a1 5 h19) fun x27 h25 => if x27 = 0 then bnd (F_Fm_isFront a1 6 h25) fun x33 h31 => if x33 = 0 then bnd (F_Fm_isFront a1 7 h31) fun x39 h37 => if x39 = 0 then bnd (F_Fm_isFront a1 8 h37) fun x45 h43 => if x45 = 0 then some (.inl (-1 : Int), h43) else some (.inl (107 : Int), h43) else some (.inl (106 : Int), h37) else some (.inl (105 : Int), h31) else some (.inl (104 : Int), h25) else some (.inl (103 : Int), h19) else some (.inl (102 : Int), h13) else some (.inl (101 : Int), h7) else some (.inl (100 : Int), h1)
theorem S_Fm_builtInWithBracket {d : Nat} (hd : 6 ≤ d) {a1 : Int} {h : MH} (L : LayC h) (ra1 : inR a1) : OK d k_Fm_builtInWithBracket 0 [mR 3, mI a1] [] h cI inR (F_Fm_builtInWithBracket  a1 h) := by
  unfold F_Fm_builtInWithBracket
  refine z_go (fun Q hq => x_aload_n (dA d_Fm_builtInWithBracket 0 rfl) rfl rfl (x_iload_n (dA d_Fm_builtInWithBracket 1 rfl) rfl rfl (x_ldcS (dA d_Fm_builtInWithBracket 2 rfl) (List.mem_of_getElem? (i := 1) rfl) hq))) ?_
  refine z_bnd (rest := []) (st1 := fun v => mI v :: []) (S_Fm_isFront (d := 5) (Nat.le_refl _) L ra1 (by decide)) (fun _ hx => absurd hx List.not_mem_nil) (fun _ => rfl) (fun Q' Q => x_callV (as := [mI a1, mS 1]) (rest := []) (k' := k_Fm_isFront) (dA d_Fm_builtInWithBracket 3 rfl) o_Fm_isFront lk_Fm_138 im_Fm_isFront se_Fm_isFront rfl (L.sh (x := (6, 7)) rfl) (by decide) (Nat.le_of_ble_eq_true rfl) (Nat.le_trans (Nat.le_of_ble_eq_true rfl) hd) (Nat.le_of_ble_eq_true rfl)) (fun x3 h1 e2 p4 => ?_)
  have L5 := L.ext e2
  refine z_br (fun Q => x_if_eq (dA d_Fm_builtInWithBracket 4 rfl) rfl p4.inR) (fun c6 => ?_) (fun c6 => ?_)
  · refine z_go (fun Q hq => x_aload_n (dA d_Fm_builtInWithBracket 7 rfl) rfl rfl (x_iload_n (dA d_Fm_builtInWithBracket 8 rfl) rfl rfl (x_ldcS (dA d_Fm_builtInWithBracket 9 rfl) (List.mem_of_getElem? (i := 2) rfl) hq))) ?_
    refine z_bnd (rest := []) (st1 := fun v => mI v :: []) (S_Fm_isFront (d := 5) (Nat.le_refl _) L5 ra1 (by decide)) (fun _ hx => absurd hx List.not_mem_nil) (fun _ => rfl) (fun Q' Q => x_callV (as := [mI a1, mS 2]) (rest := []) (k' := k_Fm_isFront) (dA d_Fm_builtInWithBracket 10 rfl) o_Fm_isFront lk_Fm_138 im_Fm_isFront se_Fm_isFront rfl (L5.sh (x := (6, 7)) rfl) (by decide) (Nat.le_of_ble_eq_true rfl) (Nat.le_trans (Nat.le_of_ble_eq_true rfl) hd) (Nat.le_of_ble_eq_true rfl)) (fun x9 h7 e8 p10 => ?_)
    have L11 := L5.ext e8
    refine z_br (fun Q => x_if_eq (dA d_Fm_builtInWithBracket 11 rfl) rfl p10.inR) (fun c12 => ?_) (fun c12 => ?_)
    · refine z_go (fun Q hq => x_aload_n (dA d_Fm_builtInWithBracket 14 rfl) rfl rfl (x_iload_n (dA d_Fm_builtInWithBracket 15 rfl) rfl rfl (x_ldcS (dA d_Fm_builtInWithBracket 16 rfl) (List.mem_of_getElem? (i := 3) rfl) hq))) ?_
      refine z_bnd (rest := []) (st1 := fun v => mI v :: []) (S_Fm_isFront (d := 5) (Nat.le_refl _) L11 ra1 (by decide)) (fun _ hx => absurd hx List.not_mem_nil) (fun _ => rfl) (fun Q' Q => x_callV (as := [mI a1, mS 3]) (rest := []) (k' := k_Fm_isFront) (dA d_Fm_builtInWithBracket 17 rfl) o_Fm_isFront lk_Fm_138 im_Fm_isFront se_Fm_isFront rfl (L11.sh (x := (6, 7)) rfl) (by decide) (Nat.le_of_ble_eq_true rfl) (Nat.le_trans (Nat.le_of_ble_eq_true rfl) hd) (Nat.le_of_ble_eq_true rfl)) (fun x15 h13 e14 p16 => ?_)
      have L17 := L11.ext e14
      refine z_br (fun Q => x_if_eq (dA d_Fm_builtInWithBracket 18 rfl) rfl p16.inR) (fun c18 => ?_) (fun c18 => ?_)
      · refine z_go (fun Q hq => x_aload_n (dA d_Fm_builtInWithBracket 21 rfl) rfl rfl (x_iload_n (dA d_Fm_builtInWithBracket 22 rfl) rfl rfl (x_ldcS (dA d_Fm_builtInWithBracket 23 rfl) (List.mem_of_getElem? (i := 4) rfl) hq))) ?_
        refine z_bnd (rest := []) (st1 := fun v => mI v :: []) (S_Fm_isFront (d := 5) (Nat.le_refl _) L17 ra1 (by decide)) (fun _ hx => absurd hx List.not_mem_nil) (fun _ => rfl) (fun Q' Q => x_callV (as := [mI a1, mS 4]) (rest := []) (k' := k_Fm_isFront) (dA d_Fm_builtInWithBracket 24 rfl) o_Fm_isFront lk_Fm_138 im_Fm_isFront se_Fm_isFront rfl (L17.sh (x := (6, 7)) rfl) (by decide) (Nat.le_of_ble_eq_true rfl) (Nat.le_trans (Nat.le_of_ble_eq_true rfl) hd) (Nat.le_of_ble_eq_true rfl)) (fun x21 h19 e20 p22 => ?_)
        have L23 := L17.ext e20
        refine z_br (fun Q => x_if_eq (dA d_Fm_builtInWithBracket 25 rfl) rfl p22.inR) (fun c24 => ?_) (fun c24 => ?_)
        · refine z_go (fun Q hq => x_aload_n (dA d_Fm_builtInWithBracket 28 rfl) rfl rfl (x_iload_n (dA d_Fm_builtInWithBracket 29 rfl) rfl rfl (x_ldcS (dA d_Fm_builtInWithBracket 30 rfl) (List.mem_of_getElem? (i := 5) rfl) hq))) ?_
          refine z_bnd (rest := []) (st1 := fun v => mI v :: []) (S_Fm_isFront (d := 5) (Nat.le_refl _) L23 ra1 (by decide)) (fun _ hx => absurd hx List.not_mem_nil) (fun _ => rfl) (fun Q' Q => x_callV (as := [mI a1, mS 5]) (rest := []) (k' := k_Fm_isFront) (dA d_Fm_builtInWithBracket 31 rfl) o_Fm_isFront lk_Fm_138 im_Fm_isFront se_Fm_isFront rfl (L23.sh (x := (6, 7)) rfl) (by decide) (Nat.le_of_ble_eq_true rfl) (Nat.le_trans (Nat.le_of_ble_eq_true rfl) hd) (Nat.le_of_ble_eq_true rfl)) (fun x27 h25 e26 p28 => ?_)
          have L29 := L23.ext e26
          refine z_br (fun Q => x_if_eq (dA d_Fm_builtInWithBracket 32 rfl) rfl p28.inR) (fun c30 => ?_) (fun c30 => ?_)
          · refine z_go (fun Q hq => x_aload_n (dA d_Fm_builtInWithBracket 35 rfl) rfl rfl (x_iload_n (dA d_Fm_builtInWithBracket 36 rfl) rfl rfl (x_ldcS (dA d_Fm_builtInWithBracket 37 rfl) (List.mem_of_getElem? (i := 6) rfl) hq))) ?_
            refine z_bnd (rest := []) (st1 := fun v => mI v :: []) (S_Fm_isFront (d := 5) (Nat.le_refl _) L29 ra1 (by decide)) (fun _ hx => absurd hx List.not_mem_nil) (fun _ => rfl) (fun Q' Q => x_callV (as := [mI a1, mS 6]) (rest := []) (k' := k_Fm_isFront) (dA d_Fm_builtInWithBracket 38 rfl) o_Fm_isFront lk_Fm_138 im_Fm_isFront se_Fm_isFront rfl (L29.sh (x := (6, 7)) rfl) (by decide) (Nat.le_of_ble_eq_true rfl) (Nat.le_trans (Nat.le_of_ble_eq_true rfl) hd) (Nat.le_of_ble_eq_true rfl)) (fun x33 h31 e32 p34 => ?_)
            have L35 := L29.ext e32
            refine z_br (fun Q => x_if_eq (dA d_Fm_builtInWithBracket 39 rfl) rfl p34.inR) (fun c36 => ?_) (fun c36 => ?_)
            · refine z_go (fun Q hq => x_aload_n (dA d_Fm_builtInWithBracket 42 rfl) rfl rfl (x_iload_n (dA d_Fm_builtInWithBracket 43 rfl) rfl rfl (x_ldcS (dA d_Fm_builtInWithBracket 44 rfl) (List.mem_of_getElem? (i := 7) rfl) hq))) ?_
              refine z_bnd (rest := []) (st1 := fun v => mI v :: []) (S_Fm_isFront (d := 5) (Nat.le_refl _) L35 ra1 (by decide)) (fun _ hx => absurd hx List.not_mem_nil) (fun _ => rfl) (fun Q' Q => x_callV (as := [mI a1, mS 7]) (rest := []) (k' := k_Fm_isFront) (dA d_Fm_builtInWithBracket 45 rfl) o_Fm_isFront lk_Fm_138 im_Fm_isFront se_Fm_isFront rfl (L35.sh (x := (6, 7)) rfl) (by decide) (Nat.le_of_ble_eq_true rfl) (Nat.le_trans (Nat.le_of_ble_eq_true rfl) hd) (Nat.le_of_ble_eq_true rfl)) (fun x39 h37 e38 p40 => ?_)
              have L41 := L35.ext e38
              refine z_br (fun Q => x_if_eq (dA d_Fm_builtInWithBracket 46 rfl) rfl p40.inR) (fun c42 => ?_) (fun c42 => ?_)
              · refine z_go (fun Q hq => x_aload_n (dA d_Fm_builtInWithBracket 49 rfl) rfl rfl (x_iload_n (dA d_Fm_builtInWithBracket 50 rfl) rfl rfl (x_ldcS (dA d_Fm_builtInWithBracket 51 rfl) (List.mem_of_getElem? (i := 8) rfl) hq))) ?_
                refine z_bnd (rest := []) (st1 := fun v => mI v :: []) (S_Fm_isFront (d := 5) (Nat.le_refl _) L41 ra1 (by decide)) (fun _ hx => absurd hx List.not_mem_nil) (fun _ => rfl) (fun Q' Q => x_callV (as := [mI a1, mS 8]) (rest := []) (k' := k_Fm_isFront) (dA d_Fm_builtInWithBracket 52 rfl) o_Fm_isFront lk_Fm_138 im_Fm_isFront se_Fm_isFront rfl (L41.sh (x := (6, 7)) rfl) (by decide) (Nat.le_of_ble_eq_true rfl) (Nat.le_trans (Nat.le_of_ble_eq_true rfl) hd) (Nat.le_of_ble_eq_true rfl)) (fun x45 h43 e44 p46 => ?_)
                have L47 := L41.ext e44
                refine z_br (fun Q => x_if_eq (dA d_Fm_builtInWithBracket 53 rfl) rfl p46.inR) (fun c48 => ?_) (fun c48 => ?_)
                · refine z_go (fun Q hq => x_iconst (dA d_Fm_builtInWithBracket 56 rfl) hq) ?_
                  exact z_reti (dA d_Fm_builtInWithBracket 57 rfl) rfl (inR_lit (-1 : Int) rfl)
                · refine z_go (fun Q hq => x_bipush (dA d_Fm_builtInWithBracket 54 rfl) (by decide) (x_goto (dA d_Fm_builtInWithBracket 55 rfl) rfl hq)) ?_
                  exact z_reti (dA d_Fm_builtInWithBracket 57 rfl) rfl (inR_lit (107 : Int) rfl)
              · refine z_go (fun Q hq => x_bipush (dA d_Fm_builtInWithBracket 47 rfl) (by decide) hq) ?_
                exact z_reti (dA d_Fm_builtInWithBracket 48 rfl) rfl (inR_lit (106 : Int) rfl)
            · refine z_go (fun Q hq => x_bipush (dA d_Fm_builtInWithBracket 40 rfl) (by decide) hq) ?_
              exact z_reti (dA d_Fm_builtInWithBracket 41 rfl) rfl (inR_lit (105 : Int) rfl)
          · refine z_go (fun Q hq => x_bipush (dA d_Fm_builtInWithBracket 33 rfl) (by decide) hq) ?_
            exact z_reti (dA d_Fm_builtInWithBracket 34 rfl) rfl (inR_lit (104 : Int) rfl)
        · refine z_go (fun Q hq => x_bipush (dA d_Fm_builtInWithBracket 26 rfl) (by decide) hq) ?_
          exact z_reti (dA d_Fm_builtInWithBracket 27 rfl) rfl (inR_lit (103 : Int) rfl)
      · refine z_go (fun Q hq => x_bipush (dA d_Fm_builtInWithBracket 19 rfl) (by decide) hq) ?_
        exact z_reti (dA d_Fm_builtInWithBracket 20 rfl) rfl (inR_lit (102 : Int) rfl)
    · refine z_go (fun Q hq => x_bipush (dA d_Fm_builtInWithBracket 12 rfl) (by decide) hq) ?_
      exact z_reti (dA d_Fm_builtInWithBracket 13 rfl) rfl (inR_lit (101 : Int) rfl)
  · refine z_go (fun Q hq => x_bipush (dA d_Fm_builtInWithBracket 5 rfl) (by decide) hq) ?_
    exact z_reti (dA d_Fm_builtInWithBracket 6 rfl) rfl (inR_lit (100 : Int) rfl)
/-! TwoMills$FirstMill.macroAt(IZ)I -/
noncomputable def F_Fm_macroAt (a1 : Int) (a2 : Int) (h : MH) : RS Int := bnd (F_De_latest 76 500 (mGi h 75 1) a1 h) fun x3 h1 => if x3 < 0 then bnd (F_Fm_isFront a1 0 h1) fun x9 h7 => if x9 = 0 then if a2 = 0 then some (.inl (-1 : Int), h7) else bnd (F_Fm_builtInWithBracket a1 h7) fun x16 h14 => some (.inl x16, h14) else some (.inl (108 : Int), h7) else some (.inl x3, h1)
theorem S_Fm_macroAt {d : Nat} (hd : 7 ≤ d) {a1 : Int} {a2 : Int} {h : MH} (L : LayC h) (ra1 : inR a1) (ra2 : p01 a2) : OK d k_Fm_macroAt 0 [mR 3, mI a1, mI a2, mN] [] h cI inR (F_Fm_macroAt  a1 a2 h) := by
  unfold F_Fm_macroAt
  refine z_go (fun Q hq => x_aload_n (dA d_Fm_macroAt 0 rfl) rfl rfl (x_getR (dA d_Fm_macroAt 1 rfl) f_Fm_23 (L.sh (x := (6, 7)) rfl) (by decide) (by decide) rfl (L.rf 5 rfl) (x_aload_n (dA d_Fm_macroAt 2 rfl) rfl rfl (x_getR (dA d_Fm_macroAt 3 rfl) f_Fm_30 (L.sh (x := (6, 7)) rfl) (by decide) (by decide) rfl (L.rf 6 rfl) (x_getR (dA d_Fm_macroAt 4 rfl) f_Fm_107 (L.sh (x := (7, 2)) rfl) (by decide) (by decide) rfl (L.rf 78 rfl) (x_aload_n (dA d_Fm_macroAt 5 rfl) rfl rfl (x_getR (dA d_Fm_macroAt 6 rfl) f_Fm_30 (L.sh (x := (6, 7)) rfl) (by decide) (by decide) rfl (L.rf 6 rfl) (x_getI (dA d_Fm_macroAt 7 rfl) f_Fm_97 (L.sh (x := (7, 2)) rfl) (by decide) (by decide) rfl (x_iload_n (dA d_Fm_macroAt 8 rfl) rfl rfl hq))))))))) ?_
  refine z_bnd (rest := []) (st1 := fun v => mI v :: []) (S_De_latest (d := 1) (Nat.le_refl _) L ⟨L.sh rfl, by decide⟩ (L.rg _ _) ra1) (fun _ hx => absurd hx List.not_mem_nil) (fun _ => rfl) (fun Q' Q => x_callV (as := [mR 76, mI (mGi h 75 1), mI a1]) (rest := []) (k' := k_De_latest) (dA d_Fm_macroAt 9 rfl) o_De_latest lk_Fm_134 im_De_latest se_De_latest rfl (L.sh (x := (3, 5)) rfl) (by decide) (Nat.le_of_ble_eq_true rfl) (Nat.le_trans (Nat.le_of_ble_eq_true rfl) hd) (Nat.le_of_ble_eq_true rfl)) (fun x3 h1 e2 p4 => ?_)
  have L5 := L.ext e2
  refine z_go (fun Q hq => x_istore_n (dA d_Fm_macroAt 10 rfl) rfl (by decide) rfl (x_iload_n (dA d_Fm_macroAt 11 rfl) rfl rfl hq)) ?_
  refine z_br (fun Q => x_if_lt (dA d_Fm_macroAt 12 rfl) rfl p4) (fun c6 => ?_) (fun c6 => ?_)
  · refine z_go (fun Q hq => x_aload_n (dA d_Fm_macroAt 15 rfl) rfl rfl (x_iload_n (dA d_Fm_macroAt 16 rfl) rfl rfl (x_ldcS (dA d_Fm_macroAt 17 rfl) (List.mem_of_getElem? (i := 0) rfl) hq))) ?_
    refine z_bnd (rest := []) (st1 := fun v => mI v :: []) (S_Fm_isFront (d := 5) (Nat.le_refl _) L5 ra1 (by decide)) (fun _ hx => absurd hx List.not_mem_nil) (fun _ => rfl) (fun Q' Q => x_callV (as := [mI a1, mS 0]) (rest := []) (k' := k_Fm_isFront) (dA d_Fm_macroAt 18 rfl) o_Fm_isFront lk_Fm_138 im_Fm_isFront se_Fm_isFront rfl (L5.sh (x := (6, 7)) rfl) (by decide) (Nat.le_of_ble_eq_true rfl) (Nat.le_trans (Nat.le_of_ble_eq_true rfl) hd) (Nat.le_of_ble_eq_true rfl)) (fun x9 h7 e8 p10 => ?_)
    have L11 := L5.ext e8
    refine z_br (fun Q => x_if_eq (dA d_Fm_macroAt 19 rfl) rfl p10.inR) (fun c12 => ?_) (fun c12 => ?_)
    · refine z_go (fun Q hq => x_iload_n (dA d_Fm_macroAt 22 rfl) rfl rfl hq) ?_
      refine z_br (fun Q => x_if_eq (dA d_Fm_macroAt 23 rfl) rfl ra2.inR) (fun c13 => ?_) (fun c13 => ?_)
      · refine z_go (fun Q hq => x_iconst (dA d_Fm_macroAt 28 rfl) hq) ?_
        exact z_reti (dA d_Fm_macroAt 29 rfl) rfl (inR_lit (-1 : Int) rfl)
      · refine z_go (fun Q hq => x_aload_n (dA d_Fm_macroAt 24 rfl) rfl rfl (x_iload_n (dA d_Fm_macroAt 25 rfl) rfl rfl hq)) ?_
        refine z_bnd (rest := []) (st1 := fun v => mI v :: []) (S_Fm_builtInWithBracket (d := 6) (Nat.le_refl _) L11 ra1) (fun _ hx => absurd hx List.not_mem_nil) (fun _ => rfl) (fun Q' Q => x_callV (as := [mI a1]) (rest := []) (k' := k_Fm_builtInWithBracket) (dA d_Fm_macroAt 26 rfl) o_Fm_builtInWithBracket lk_Fm_142 im_Fm_builtInWithBracket se_Fm_builtInWithBracket rfl (L11.sh (x := (6, 7)) rfl) (by decide) (Nat.le_of_ble_eq_true rfl) (Nat.le_trans (Nat.le_of_ble_eq_true rfl) hd) (Nat.le_of_ble_eq_true rfl)) (fun x16 h14 e15 p17 => ?_)
        have L18 := L11.ext e15
        refine z_go (fun Q hq => x_goto (dA d_Fm_macroAt 27 rfl) rfl hq) ?_
        exact z_reti (dA d_Fm_macroAt 29 rfl) rfl p17
    · refine z_go (fun Q hq => x_bipush (dA d_Fm_macroAt 20 rfl) (by decide) hq) ?_
      exact z_reti (dA d_Fm_macroAt 21 rfl) rfl (inR_lit (108 : Int) rfl)
  · refine z_go (fun Q hq => x_iload_n (dA d_Fm_macroAt 13 rfl) rfl rfl hq) ?_
    exact z_reti (dA d_Fm_macroAt 14 rfl) rfl p4
/-! TwoMills$Input.at(I)I -/
noncomputable def F_In_at (a1 : Int) (h : MH) : RS Int := gd (inR ((mGi h 75 1) + a1)) (if (500 : Int) ≤ ((mGi h 75 1) + a1) then some (.inl (-1 : Int), h) else gd (0 ≤ ((mGi h 75 1) + a1) ∧ ((mGi h 75 1) + a1) < 500) (some (.inl (mGi h 76 ((mGi h 75 1) + a1).toNat), h)))
theorem S_In_at {d : Nat} (hd : 0 ≤ d) {a1 : Int} {h : MH} (L : LayC h) (ra1 : inR a1) : OK d k_In_at 0 [mR 75, mI a1] [] h cI inR (F_In_at  a1 h) := by
  unfold F_In_at
  refine z_go (fun Q hq => x_aload_n (dA d_In_at 0 rfl) rfl rfl (x_getI (dA d_In_at 1 rfl) f_In_15 (L.sh (x := (7, 2)) rfl) (by decide) (by decide) rfl (x_iload_n (dA d_In_at 2 rfl) rfl rfl hq))) ?_
  refine z_gd (fun g1 => ?_)
  refine z_go (fun Q hq => x_iadd (dA d_In_at 3 rfl) (x_sipush (dA d_In_at 4 rfl) (by decide) hq)) ?_
  refine z_br (fun Q => x_icmp_ge (dA d_In_at 5 rfl) rfl g1 (inR_lit (500 : Int) rfl)) (fun c2 => ?_) (fun c2 => ?_)
  · refine z_go (fun Q hq => x_iconst (dA d_In_at 14 rfl) hq) ?_
    exact z_reti (dA d_In_at 15 rfl) rfl (inR_lit (-1 : Int) rfl)
  · refine z_go (fun Q hq => x_aload_n (dA d_In_at 6 rfl) rfl rfl (x_getR (dA d_In_at 7 rfl) f_In_11 (L.sh (x := (7, 2)) rfl) (by decide) (by decide) rfl (L.rf 78 rfl) (x_aload_n (dA d_In_at 8 rfl) rfl rfl (x_getI (dA d_In_at 9 rfl) f_In_15 (L.sh (x := (7, 2)) rfl) (by decide) (by decide) rfl (x_iload_n (dA d_In_at 10 rfl) rfl rfl (x_iadd (dA d_In_at 11 rfl) hq)))))) ?_
    refine z_gd (fun g3 => ?_)
    refine z_go (fun Q hq => x_cald (dA d_In_at 12 rfl) (L.sh (x := (101, 500)) rfl) g3.1 g3.2 (by decide) (x_goto (dA d_In_at 13 rfl) rfl hq)) ?_
    exact z_reti (dA d_In_at 15 rfl) rfl (L.rg _ _)
/-! TwoMills$Input.dropLine()V -/
noncomputable def F_In_dropLine_29 (v1 : Int) (h : MH) : RS Unit := gd (inR (v1 + (1 : Int))) (sto (mPi h 75 1 (if (500 : Int) < (v1 + (1 : Int)) then (500 : Int) else (v1 + (1 : Int)))) fun h2 => some (.inl (), h2))
theorem S_In_dropLine_29 {d : Nat} (hd : 0 ≤ d) {v1 : Int} {h : MH} (L : LayC h) (rv1 : inR v1) : OK d k_In_dropLine 29 [mR 75, mI v1] [] h cV pT (F_In_dropLine_29  v1 h) := by
  unfold F_In_dropLine_29
  refine z_go (fun Q hq => x_aload_n (dA d_In_dropLine 14 rfl) rfl rfl (x_iload_n (dA d_In_dropLine 15 rfl) rfl rfl (x_iconst (dA d_In_dropLine 16 rfl) hq))) ?_
  refine z_gd (fun g1 => ?_)
  refine z_go (fun Q hq => x_iadd (dA d_In_dropLine 17 rfl) (x_sipush (dA d_In_dropLine 18 rfl) (by decide) (x_min (dA d_In_dropLine 19 rfl) lk_In_31 mm_min_st mm_iz mm_min_co g1 (inR_lit (500 : Int) rfl) (Nat.le_of_ble_eq_true rfl) hq))) ?_
  refine z_sto (Ext.pi (L.sh (x := (7, 2)) rfl) (by decide) (inR_mn g1 (inR_lit (500 : Int) rfl))) (fun Q hq => x_putI (dA d_In_dropLine 20 rfl) p_In_15 (L.sh (x := (7, 2)) rfl) (by decide) cl_In rfl hq) (fun h2 e3 => ?_)
  have L4 := L.ext e3
  exact z_retv (dA d_In_dropLine 21 rfl) rfl
noncomputable def F_In_dropLine_5_b (G5 : Int → MH → RS Unit) (v1 : Int) (h : MH) : RS Unit := if (500 : Int) ≤ v1 then F_In_dropLine_29 v1 h else gd (0 ≤ v1 ∧ v1 < 500) (if (mGi h 76 v1.toNat) = (10 : Int) then F_In_dropLine_29 v1 h else gd (inR (v1 + (1 : Int))) (G5 (v1 + (1 : Int)) h))
theorem S_In_dropLine_5_b {d : Nat} (hd : 0 ≤ d) {G5 : Int → MH → RS Unit} (hG5 : ∀ (v1 : Int) (h : MH), LayC h → inR v1 → OK d k_In_dropLine 5 [mR 75, mI v1] [] h cV pT (G5 v1 h)) {v1 : Int} {h : MH} (L : LayC h) (rv1 : inR v1) : OK d k_In_dropLine 5 [mR 75, mI v1] [] h cV pT (F_In_dropLine_5_b G5 v1 h) := by
  unfold F_In_dropLine_5_b
  refine z_go (fun Q hq => x_iload_n (dA d_In_dropLine 3 rfl) rfl rfl (x_sipush (dA d_In_dropLine 4 rfl) (by decide) hq)) ?_
  refine z_br (fun Q => x_icmp_ge (dA d_In_dropLine 5 rfl) rfl rv1 (inR_lit (500 : Int) rfl)) (fun c5 => ?_) (fun c5 => ?_)
  · exact S_In_dropLine_29 hd  L rv1
  · refine z_go (fun Q hq => x_aload_n (dA d_In_dropLine 6 rfl) rfl rfl (x_getR (dA d_In_dropLine 7 rfl) f_In_11 (L.sh (x := (7, 2)) rfl) (by decide) (by decide) rfl (L.rf 78 rfl) (x_iload_n (dA d_In_dropLine 8 rfl) rfl rfl hq))) ?_
    refine z_gd (fun g6 => ?_)
    refine z_go (fun Q hq => x_cald (dA d_In_dropLine 9 rfl) (L.sh (x := (101, 500)) rfl) g6.1 g6.2 (by decide) (x_bipush (dA d_In_dropLine 10 rfl) (by decide) hq)) ?_
    refine z_br (fun Q => x_icmp_eq (dA d_In_dropLine 11 rfl) rfl (L.rg _ _) (inR_lit (10 : Int) rfl)) (fun c7 => ?_) (fun c7 => ?_)
    · exact S_In_dropLine_29 hd  L rv1
    · refine z_gd (fun g8 => ?_)
      refine z_go (fun Q hq => x_iinc (dA d_In_dropLine 12 rfl) rfl (by decide) rfl (x_goto (dA d_In_dropLine 13 rfl) rfl hq)) ?_
      exact hG5 (v1 + (1 : Int)) h L g8
noncomputable def F_In_dropLine_5 (v1 : Int) (h : MH) : RS Unit := itr (fun self (q : Int × MH) => F_In_dropLine_5_b (fun v1 h => self (v1, h)) q.1 q.2) FU (v1, h)
theorem S_In_dropLine_5 {d : Nat} (hd : 0 ≤ d) {v1 : Int} {h : MH} (L : LayC h) (rv1 : inR v1) : OK d k_In_dropLine 5 [mR 75, mI v1] [] h cV pT (F_In_dropLine_5  v1 h) := by
  unfold F_In_dropLine_5
  refine z_itr (P := fun q : Int × MH => LayC q.2 ∧ inR q.1 ∧ True) (ls := fun q : Int × MH => [mR 75, mI q.1]) (hp := fun q : Int × MH => q.2) (fun self hs q hq => ?_) FU (v1, h) ⟨L, rv1, trivial⟩
  exact S_In_dropLine_5_b hd (fun v1 h L rv1 => hs (v1, h) ⟨L, rv1, trivial⟩) hq.1 hq.2.1
noncomputable def F_In_dropLine (h : MH) : RS Unit := F_In_dropLine_5 (mGi h 75 1) h
theorem S_In_dropLine {d : Nat} (hd : 0 ≤ d) {h : MH} (L : LayC h) : OK d k_In_dropLine 0 [mR 75, mN] [] h cV pT (F_In_dropLine   h) := by
  unfold F_In_dropLine
  refine z_go (fun Q hq => x_aload_n (dA d_In_dropLine 0 rfl) rfl rfl (x_getI (dA d_In_dropLine 1 rfl) f_In_15 (L.sh (x := (7, 2)) rfl) (by decide) (by decide) rfl (x_istore_n (dA d_In_dropLine 2 rfl) rfl (by decide) rfl hq))) ?_
  exact S_In_dropLine_5 hd  L (L.rg _ _)
/-! TwoMills$FirstMill.takeWord()V -/
noncomputable def F_Fm_takeWord_39 (v1 : Int) (s0 : Int) (h : MH) : RS Unit := gd (p01 s0) (bnd (F_Fm_macroAt v1 s0 h) fun x4 h2 => if x4 = (-1 : Int) then bnd (F_Fm_putFront v1 h2) fun x10 h8 => some (.inl (), h8) else if x4 = (108 : Int) then bnd (F_In_dropLine h2) fun x16 h14 => some (.inl (), h14) else if s0 = 0 then bnd (F_In_drop v1 h2) fun x22 h20 => bnd (F_Le_empty 84 500 h20) fun x27 h25 => bnd (F_Fm_bringText x4 (0 : Int) h25) fun x32 h30 => bnd (F_Fm_comeAhead h30) fun x37 h35 => some (.inl (), h35) else gd (inR (v1 + (1 : Int))) (bnd (F_In_drop (v1 + (1 : Int)) h2) fun x43 h41 => bnd (F_Fm_collect x4 h41) fun x48 h46 => some (.inl (), h46)))
theorem S_Fm_takeWord_39 {d : Nat} (hd : 8 ≤ d) {v1 : Int} {s0 : Int} {h : MH} (L : LayC h) (rv1 : inR v1) (rs0 : inR s0) : OK d k_Fm_takeWord 39 [mR 3, mI v1, mN, mN] [mI s0] h cV pT (F_Fm_takeWord_39  v1 s0 h) := by
  unfold F_Fm_takeWord_39
  refine z_go (fun Q hq => x_istore_n (dA d_Fm_takeWord 18 rfl) rfl (by decide) rfl (x_aload_n (dA d_Fm_takeWord 19 rfl) rfl rfl (x_iload_n (dA d_Fm_takeWord 20 rfl) rfl rfl (x_iload_n (dA d_Fm_takeWord 21 rfl) rfl rfl hq)))) ?_
  refine z_gd (fun g1 => ?_)
  refine z_bnd (rest := []) (st1 := fun v => mI v :: []) (S_Fm_macroAt (d := 7) (Nat.le_refl _) L rv1 g1) (fun _ hx => absurd hx List.not_mem_nil) (fun _ => rfl) (fun Q' Q => x_callV (as := [mI v1, mI s0]) (rest := []) (k' := k_Fm_macroAt) (dA d_Fm_takeWord 22 rfl) o_Fm_macroAt lk_Fm_115 im_Fm_macroAt se_Fm_macroAt rfl (L.sh (x := (6, 7)) rfl) (by decide) (Nat.le_of_ble_eq_true rfl) (Nat.le_trans (Nat.le_of_ble_eq_true rfl) hd) (Nat.le_of_ble_eq_true rfl)) (fun x4 h2 e3 p5 => ?_)
  have L6 := L.ext e3
  refine z_go (fun Q hq => x_istore_n (dA d_Fm_takeWord 23 rfl) rfl (by decide) rfl (x_iload_n (dA d_Fm_takeWord 24 rfl) rfl rfl (x_iconst (dA d_Fm_takeWord 25 rfl) hq))) ?_
  refine z_brn (fun Q => x_icmp_ne (dA d_Fm_takeWord 26 rfl) rfl p5 (inR_lit (-1 : Int) rfl)) (fun c7 => ?_) (fun c7 => ?_)
  · refine z_go (fun Q hq => x_aload_n (dA d_Fm_takeWord 27 rfl) rfl rfl (x_iload_n (dA d_Fm_takeWord 28 rfl) rfl rfl hq)) ?_
    refine z_bnd (rest := []) (st1 := fun _ => []) (S_Fm_putFront (d := 2) (Nat.le_refl _) L6 rv1) (fun _ hx => absurd hx List.not_mem_nil) (fun _ => rfl) (fun Q' Q => x_callV (as := [mI v1]) (rest := []) (k' := k_Fm_putFront) (dA d_Fm_takeWord 29 rfl) o_Fm_putFront lk_Fm_119 im_Fm_putFront se_Fm_putFront rfl (L6.sh (x := (6, 7)) rfl) (by decide) (Nat.le_of_ble_eq_true rfl) (Nat.le_trans (Nat.le_of_ble_eq_true rfl) hd) (Nat.le_of_ble_eq_true rfl)) (fun x10 h8 e9 p11 => ?_)
    have L12 := L6.ext e9
    refine z_go (fun Q hq => x_goto (dA d_Fm_takeWord 30 rfl) rfl hq) ?_
    exact z_retv (dA d_Fm_takeWord 63 rfl) rfl
  · refine z_go (fun Q hq => x_iload_n (dA d_Fm_takeWord 31 rfl) rfl rfl (x_bipush (dA d_Fm_takeWord 32 rfl) (by decide) hq)) ?_
    refine z_brn (fun Q => x_icmp_ne (dA d_Fm_takeWord 33 rfl) rfl p5 (inR_lit (108 : Int) rfl)) (fun c13 => ?_) (fun c13 => ?_)
    · refine z_go (fun Q hq => x_aload_n (dA d_Fm_takeWord 34 rfl) rfl rfl (x_getR (dA d_Fm_takeWord 35 rfl) f_Fm_30 (L6.sh (x := (6, 7)) rfl) (by decide) (by decide) rfl (L6.rf 6 rfl) hq)) ?_
      refine z_bnd (rest := []) (st1 := fun _ => []) (S_In_dropLine (d := 0) (Nat.le_refl _) L6 ) (fun _ hx => absurd hx List.not_mem_nil) (fun _ => rfl) (fun Q' Q => x_callV (as := []) (rest := []) (k' := k_In_dropLine) (dA d_Fm_takeWord 36 rfl) o_In_dropLine lk_Fm_122 im_In_dropLine se_In_dropLine rfl (L6.sh (x := (7, 2)) rfl) (by decide) (Nat.le_of_ble_eq_true rfl) (Nat.le_trans (Nat.le_of_ble_eq_true rfl) hd) (Nat.le_of_ble_eq_true rfl)) (fun x16 h14 e15 p17 => ?_)
      have L18 := L6.ext e15
      refine z_go (fun Q hq => x_goto (dA d_Fm_takeWord 37 rfl) rfl hq) ?_
      exact z_retv (dA d_Fm_takeWord 63 rfl) rfl
    · refine z_go (fun Q hq => x_iload_n (dA d_Fm_takeWord 38 rfl) rfl rfl hq) ?_
      refine z_br (fun Q => x_if_eq (dA d_Fm_takeWord 39 rfl) rfl rs0) (fun c19 => ?_) (fun c19 => ?_)
      · refine z_go (fun Q hq => x_aload_n (dA d_Fm_takeWord 50 rfl) rfl rfl (x_getR (dA d_Fm_takeWord 51 rfl) f_Fm_30 (L6.sh (x := (6, 7)) rfl) (by decide) (by decide) rfl (L6.rf 6 rfl) (x_iload_n (dA d_Fm_takeWord 52 rfl) rfl rfl hq))) ?_
        refine z_bnd (rest := []) (st1 := fun _ => []) (S_In_drop (d := 0) (Nat.le_refl _) L6 rv1) (fun _ hx => absurd hx List.not_mem_nil) (fun _ => rfl) (fun Q' Q => x_callV (as := [mI v1]) (rest := []) (k' := k_In_drop) (dA d_Fm_takeWord 53 rfl) o_In_drop lk_Fm_104 im_In_drop se_In_drop rfl (L6.sh (x := (7, 2)) rfl) (by decide) (Nat.le_of_ble_eq_true rfl) (Nat.le_trans (Nat.le_of_ble_eq_true rfl) hd) (Nat.le_of_ble_eq_true rfl)) (fun x22 h20 e21 p23 => ?_)
        have L24 := L6.ext e21
        refine z_go (fun Q hq => x_aload_n (dA d_Fm_takeWord 54 rfl) rfl rfl (x_getR (dA d_Fm_takeWord 55 rfl) f_Fm_41 (L24.sh (x := (6, 7)) rfl) (by decide) (by decide) rfl (L24.rf 8 rfl) hq)) ?_
        refine z_bnd (rest := []) (st1 := fun _ => []) (S_Le_empty (d := 0) (Nat.le_refl _) L24 (L24.le rfl 85 rfl rfl (by decide))) (fun _ hx => absurd hx List.not_mem_nil) (fun _ => rfl) (fun Q' Q => x_callV (as := []) (rest := []) (k' := k_Le_empty) (dA d_Fm_takeWord 56 rfl) o_Le_empty lk_Fm_44 im_Le_empty se_Le_empty rfl (L24.sh (x := (1, 3)) rfl) (by decide) (Nat.le_of_ble_eq_true rfl) (Nat.le_trans (Nat.le_of_ble_eq_true rfl) hd) (Nat.le_of_ble_eq_true rfl)) (fun x27 h25 e26 p28 => ?_)
        have L29 := L24.ext e26
        refine z_go (fun Q hq => x_aload_n (dA d_Fm_takeWord 57 rfl) rfl rfl (x_iload_n (dA d_Fm_takeWord 58 rfl) rfl rfl (x_iconst (dA d_Fm_takeWord 59 rfl) hq))) ?_
        refine z_bnd (rest := []) (st1 := fun _ => []) (S_Fm_bringText (d := 3) (Nat.le_refl _) L29 p5 (inR_lit (0 : Int) rfl)) (fun _ hx => absurd hx List.not_mem_nil) (fun _ => rfl) (fun Q' Q => x_callV (as := [mI x4, mI (0 : Int)]) (rest := []) (k' := k_Fm_bringText) (dA d_Fm_takeWord 60 rfl) o_Fm_bringText lk_Fm_128 im_Fm_bringText se_Fm_bringText rfl (L29.sh (x := (6, 7)) rfl) (by decide) (Nat.le_of_ble_eq_true rfl) (Nat.le_trans (Nat.le_of_ble_eq_true rfl) hd) (Nat.le_of_ble_eq_true rfl)) (fun x32 h30 e31 p33 => ?_)
        have L34 := L29.ext e31
        refine z_go (fun Q hq => x_aload_n (dA d_Fm_takeWord 61 rfl) rfl rfl hq) ?_
        refine z_bnd (rest := []) (st1 := fun _ => []) (S_Fm_comeAhead (d := 1) (Nat.le_refl _) L34 ) (fun _ hx => absurd hx List.not_mem_nil) (fun _ => rfl) (fun Q' Q => x_callV (as := []) (rest := []) (k' := k_Fm_comeAhead) (dA d_Fm_takeWord 62 rfl) o_Fm_comeAhead lk_Fm_131 im_Fm_comeAhead se_Fm_comeAhead rfl (L34.sh (x := (6, 7)) rfl) (by decide) (Nat.le_of_ble_eq_true rfl) (Nat.le_trans (Nat.le_of_ble_eq_true rfl) hd) (Nat.le_of_ble_eq_true rfl)) (fun x37 h35 e36 p38 => ?_)
        have L39 := L34.ext e36
        exact z_retv (dA d_Fm_takeWord 63 rfl) rfl
      · refine z_go (fun Q hq => x_aload_n (dA d_Fm_takeWord 40 rfl) rfl rfl (x_getR (dA d_Fm_takeWord 41 rfl) f_Fm_30 (L6.sh (x := (6, 7)) rfl) (by decide) (by decide) rfl (L6.rf 6 rfl) (x_iload_n (dA d_Fm_takeWord 42 rfl) rfl rfl (x_iconst (dA d_Fm_takeWord 43 rfl) hq)))) ?_
        refine z_gd (fun g40 => ?_)
        refine z_go (fun Q hq => x_iadd (dA d_Fm_takeWord 44 rfl) hq) ?_
        refine z_bnd (rest := []) (st1 := fun _ => []) (S_In_drop (d := 0) (Nat.le_refl _) L6 g40) (fun _ hx => absurd hx List.not_mem_nil) (fun _ => rfl) (fun Q' Q => x_callV (as := [mI (v1 + (1 : Int))]) (rest := []) (k' := k_In_drop) (dA d_Fm_takeWord 45 rfl) o_In_drop lk_Fm_104 im_In_drop se_In_drop rfl (L6.sh (x := (7, 2)) rfl) (by decide) (Nat.le_of_ble_eq_true rfl) (Nat.le_trans (Nat.le_of_ble_eq_true rfl) hd) (Nat.le_of_ble_eq_true rfl)) (fun x43 h41 e42 p44 => ?_)
        have L45 := L6.ext e42
        refine z_go (fun Q hq => x_aload_n (dA d_Fm_takeWord 46 rfl) rfl rfl (x_iload_n (dA d_Fm_takeWord 47 rfl) rfl rfl hq)) ?_
        refine z_bnd (rest := []) (st1 := fun _ => []) (S_Fm_collect (d := 2) (Nat.le_refl _) L45 p5) (fun _ hx => absurd hx List.not_mem_nil) (fun _ => rfl) (fun Q' Q => x_callV (as := [mI x4]) (rest := []) (k' := k_Fm_collect) (dA d_Fm_takeWord 48 rfl) o_Fm_collect lk_Fm_125 im_Fm_collect se_Fm_collect rfl (L45.sh (x := (6, 7)) rfl) (by decide) (Nat.le_of_ble_eq_true rfl) (Nat.le_trans (Nat.le_of_ble_eq_true rfl) hd) (Nat.le_of_ble_eq_true rfl)) (fun x48 h46 e47 p49 => ?_)
        have L50 := L45.ext e47
        refine z_go (fun Q hq => x_goto (dA d_Fm_takeWord 49 rfl) rfl hq) ?_
        exact z_retv (dA d_Fm_takeWord 63 rfl) rfl
noncomputable def F_Fm_takeWord (h : MH) : RS Unit := bnd (F_T_wordLength 76 500 (mGi h 75 1) (500 : Int) h) fun x53 h51 => bnd (F_In_at x53 h51) fun x58 h56 => if x58 = (40 : Int) then F_Fm_takeWord_39 x53 (1 : Int) h56 else F_Fm_takeWord_39 x53 (0 : Int) h56
theorem S_Fm_takeWord {d : Nat} (hd : 8 ≤ d) {h : MH} (L : LayC h) : OK d k_Fm_takeWord 0 [mR 3, mN, mN, mN] [] h cV pT (F_Fm_takeWord   h) := by
  unfold F_Fm_takeWord
  refine z_go (fun Q hq => x_aload_n (dA d_Fm_takeWord 0 rfl) rfl rfl (x_getR (dA d_Fm_takeWord 1 rfl) f_Fm_30 (L.sh (x := (6, 7)) rfl) (by decide) (by decide) rfl (L.rf 6 rfl) (x_getR (dA d_Fm_takeWord 2 rfl) f_Fm_107 (L.sh (x := (7, 2)) rfl) (by decide) (by decide) rfl (L.rf 78 rfl) (x_aload_n (dA d_Fm_takeWord 3 rfl) rfl rfl (x_getR (dA d_Fm_takeWord 4 rfl) f_Fm_30 (L.sh (x := (6, 7)) rfl) (by decide) (by decide) rfl (L.rf 6 rfl) (x_getI (dA d_Fm_takeWord 5 rfl) f_Fm_97 (L.sh (x := (7, 2)) rfl) (by decide) (by decide) rfl (x_sipush (dA d_Fm_takeWord 6 rfl) (by decide) hq))))))) ?_
  refine z_bnd (rest := []) (st1 := fun v => mI v :: []) (S_T_wordLength (d := 1) (Nat.le_refl _) L ⟨L.sh rfl, by decide⟩ (L.rg _ _) (inR_lit (500 : Int) rfl)) (fun _ hx => absurd hx List.not_mem_nil) (fun _ => rfl) (fun Q' Q => x_callSN (as := [mR 76, mI (mGi h 75 1), mI (500 : Int)]) (rest := []) (k' := k_T_wordLength) (dA d_Fm_takeWord 7 rfl) o_T_wordLength lk_Fm_111 st_T_wordLength (Nat.le_of_ble_eq_true rfl) (Nat.le_trans (Nat.le_of_ble_eq_true rfl) hd) (Nat.le_of_ble_eq_true rfl)) (fun x53 h51 e52 p54 => ?_)
  have L55 := L.ext e52
  refine z_go (fun Q hq => x_istore_n (dA d_Fm_takeWord 8 rfl) rfl (by decide) rfl (x_aload_n (dA d_Fm_takeWord 9 rfl) rfl rfl (x_getR (dA d_Fm_takeWord 10 rfl) f_Fm_30 (L55.sh (x := (6, 7)) rfl) (by decide) (by decide) rfl (L55.rf 6 rfl) (x_iload_n (dA d_Fm_takeWord 11 rfl) rfl rfl hq)))) ?_
  refine z_bnd (rest := []) (st1 := fun v => mI v :: []) (S_In_at (d := 0) (Nat.le_refl _) L55 p54) (fun _ hx => absurd hx List.not_mem_nil) (fun _ => rfl) (fun Q' Q => x_callV (as := [mI x53]) (rest := []) (k' := k_In_at) (dA d_Fm_takeWord 12 rfl) o_In_at lk_Fm_67 im_In_at se_In_at rfl (L55.sh (x := (7, 2)) rfl) (by decide) (Nat.le_of_ble_eq_true rfl) (Nat.le_trans (Nat.le_of_ble_eq_true rfl) hd) (Nat.le_of_ble_eq_true rfl)) (fun x58 h56 e57 p59 => ?_)
  have L60 := L55.ext e57
  refine z_go (fun Q hq => x_bipush (dA d_Fm_takeWord 13 rfl) (by decide) hq) ?_
  refine z_brn (fun Q => x_icmp_ne (dA d_Fm_takeWord 14 rfl) rfl p59 (inR_lit (40 : Int) rfl)) (fun c61 => ?_) (fun c61 => ?_)
  · refine z_go (fun Q hq => x_iconst (dA d_Fm_takeWord 15 rfl) (x_goto (dA d_Fm_takeWord 16 rfl) rfl hq)) ?_
    exact S_Fm_takeWord_39 hd  L60 p54 (inR_lit (1 : Int) rfl)
  · refine z_go (fun Q hq => x_iconst (dA d_Fm_takeWord 17 rfl) hq) ?_
    exact S_Fm_takeWord_39 hd  L60 p54 (inR_lit (0 : Int) rfl)
/-! TwoMills$Input.isEmpty()Z -/
noncomputable def F_In_isEmpty (h : MH) : RS Int := if (mGi h 75 1) < (500 : Int) then some (.inl (0 : Int), h) else some (.inl (1 : Int), h)
theorem S_In_isEmpty {d : Nat} (hd : 0 ≤ d) {h : MH} (L : LayC h) : OK d k_In_isEmpty 0 [mR 75] [] h cI p01 (F_In_isEmpty   h) := by
  unfold F_In_isEmpty
  refine z_go (fun Q hq => x_aload_n (dA d_In_isEmpty 0 rfl) rfl rfl (x_getI (dA d_In_isEmpty 1 rfl) f_In_15 (L.sh (x := (7, 2)) rfl) (by decide) (by decide) rfl (x_sipush (dA d_In_isEmpty 2 rfl) (by decide) hq))) ?_
  refine z_br (fun Q => x_icmp_lt (dA d_In_isEmpty 3 rfl) rfl (L.rg _ _) (inR_lit (500 : Int) rfl)) (fun c1 => ?_) (fun c1 => ?_)
  · refine z_go (fun Q hq => x_iconst (dA d_In_isEmpty 6 rfl) hq) ?_
    exact z_retz (dA d_In_isEmpty 7 rfl) rfl (.inl rfl)
  · refine z_go (fun Q hq => x_iconst (dA d_In_isEmpty 4 rfl) (x_goto (dA d_In_isEmpty 5 rfl) rfl hq)) ?_
    exact z_retz (dA d_In_isEmpty 7 rfl) rfl (.inr rfl)
/-! TwoMills$Input.take(LTwoMills$Letters;)V -/
noncomputable def F_In_take (a1 : Nat) (a1n : Nat) (h : MH) : RS Unit := gd (inR ((500 : Int) - (mGi h a1 1))) (sto (mPi h 75 1 ((500 : Int) - (mGi h a1 1))) fun h2 => gd (0 ≤ (0 : Int) ∧ 0 ≤ (mGi h2 75 1) ∧ 0 ≤ (mGi h2 a1 1) ∧ (0 : Int) + (mGi h2 a1 1) ≤ a1n ∧ (mGi h2 75 1) + (mGi h2 a1 1) ≤ 500) (sto (mCpI h2 (a1 + 1) 76 (0 : Int).toNat (mGi h2 75 1).toNat (mGi h2 a1 1).toNat) fun h6 => some (.inl (), h6)))
theorem S_In_take {d : Nat} (hd : 0 ≤ d) {a1 : Nat} {a1n : Nat} {h : MH} (L : LayC h) (oa1 : LeO h a1 a1n) : OK d k_In_take 0 [mR 75, mR a1] [] h cV pT (F_In_take  a1 a1n h) := by
  unfold F_In_take
  refine z_go (fun Q hq => x_aload_n (dA d_In_take 0 rfl) rfl rfl (x_sipush (dA d_In_take 1 rfl) (by decide) (x_aload_n (dA d_In_take 2 rfl) rfl rfl (x_getI (dA d_In_take 3 rfl) f_In_19 oa1.1 (by decide) (by decide) rfl hq)))) ?_
  refine z_gd (fun g1 => ?_)
  refine z_go (fun Q hq => x_isub (dA d_In_take 4 rfl) hq) ?_
  refine z_sto (Ext.pi (L.sh (x := (7, 2)) rfl) (by decide) g1) (fun Q hq => x_putI (dA d_In_take 5 rfl) p_In_15 (L.sh (x := (7, 2)) rfl) (by decide) cl_In rfl hq) (fun h2 e3 => ?_)
  have L4 := L.ext e3
  refine z_go (fun Q hq => x_aload_n (dA d_In_take 6 rfl) rfl rfl (x_getR (dA d_In_take 7 rfl) f_In_24 (oa1.ext e3).1 (by decide) (by decide) rfl (oa1.ext e3).2.1 (x_iconst (dA d_In_take 8 rfl) (x_aload_n (dA d_In_take 9 rfl) rfl rfl (x_getR (dA d_In_take 10 rfl) f_In_11 (L4.sh (x := (7, 2)) rfl) (by decide) (by decide) rfl (L4.rf 78 rfl) (x_aload_n (dA d_In_take 11 rfl) rfl rfl (x_getI (dA d_In_take 12 rfl) f_In_15 (L4.sh (x := (7, 2)) rfl) (by decide) (by decide) rfl (x_aload_n (dA d_In_take 13 rfl) rfl rfl (x_getI (dA d_In_take 14 rfl) f_In_19 (oa1.ext e3).1 (by decide) (by decide) rfl hq))))))))) ?_
  refine z_gd (fun g5 => ?_)
  refine z_sto (Ext.cpI (oa1.ext e3).2.2.1 (L4.sh (x := (101, 500)) rfl)) (fun Q hq => x_copyCI (dA d_In_take 15 rfl) lk_In_25 (oa1.ext e3).2.2.1 (L4.sh (x := (101, 500)) rfl) g5 (oa1.ext e3).2.2.2 (by decide) L4.2.2.1 (Nat.le_of_ble_eq_true rfl) hq) (fun h6 e7 => ?_)
  have L8 := L4.ext e7
  exact z_retv (dA d_In_take 16 rfl) rfl
/-! TwoMills$FirstMill.mill(LTwoMills$Letters;)I -/
noncomputable def F_Fm_mill_139 (h : MH) : RS Int := some (.inl (mGi h 3 6), h)
theorem S_Fm_mill_139 {d : Nat} (hd : 9 ≤ d) {ex : Nat} {h : MH} (L : LayC h) : OK d k_Fm_mill 139 [mR 3, mN, mN] [mR ex] h cI inR (F_Fm_mill_139   h) := by
  unfold F_Fm_mill_139
  refine z_go (fun Q hq => x_astore_n (dA d_Fm_mill 64 rfl) rfl (by decide) rfl (x_aload_n (dA d_Fm_mill 65 rfl) rfl rfl (x_getI (dA d_Fm_mill 66 rfl) f_Fm_57 (L.sh (x := (6, 7)) rfl) (by decide) (by decide) rfl hq))) ?_
  exact z_reti (dA d_Fm_mill 67 rfl) rfl (L.rg _ _)
noncomputable def F_Fm_mill_136 (h : MH) : RS Int := some (.inl (0 : Int), h)
theorem S_Fm_mill_136 {d : Nat} (hd : 9 ≤ d) {h : MH} (L : LayC h) : OK d k_Fm_mill 136 [mN, mN, mN] [] h cI inR (F_Fm_mill_136   h) := by
  unfold F_Fm_mill_136
  refine z_go (fun Q hq => x_goto (dA d_Fm_mill 63 rfl) rfl (x_iconst (dA d_Fm_mill 68 rfl) hq)) ?_
  exact z_reti (dA d_Fm_mill 69 rfl) rfl (inR_lit (0 : Int) rfl)
noncomputable def F_Fm_mill_121 (h : MH) : RS Int := if (mGi h 77 5) < 0 then F_Fm_mill_136  h else bndC (F_Fm_fail (4 : Int) h) (fun x4 h2 => F_Fm_mill_136  h2) (fun te hh => gd (te = 13) (F_Fm_mill_139   hh))
theorem S_Fm_mill_121 {d : Nat} (hd : 9 ≤ d) {h : MH} (L : LayC h) : OK d k_Fm_mill 121 [mR 3, mN, mN] [] h cI inR (F_Fm_mill_121   h) := by
  unfold F_Fm_mill_121
  refine z_go (fun Q hq => x_aload_n (dA d_Fm_mill 56 rfl) rfl rfl (x_getR (dA d_Fm_mill 57 rfl) f_Fm_37 (L.sh (x := (6, 7)) rfl) (by decide) (by decide) rfl (L.rf 7 rfl) (x_getI (dA d_Fm_mill 58 rfl) f_Fm_84 (L.sh (x := (2, 6)) rfl) (by decide) (by decide) rfl hq))) ?_
  refine z_br (fun Q => x_if_lt (dA d_Fm_mill 59 rfl) rfl (L.rg _ _)) (fun c1 => ?_) (fun c1 => ?_)
  · refine z_fgt (ls' := [mN, mN, mN]) ⟨.inl rfl, .inl rfl, .inl rfl, trivial⟩ ?_
    exact S_Fm_mill_136 hd  L 
  · refine z_go (fun Q hq => x_aload_n (dA d_Fm_mill 60 rfl) rfl rfl (x_iconst (dA d_Fm_mill 61 rfl) hq)) ?_
    refine z_bndC (rest := []) (st1 := fun _ => []) (S_Fm_fail (d := 0) (Nat.le_refl _) L (inR_lit (4 : Int) rfl)) (fun _ => rfl) (fun Q' Q => x_callV (as := [mI (4 : Int)]) (rest := []) (k' := k_Fm_fail) (dA d_Fm_mill 62 rfl) o_Fm_fail lk_Fm_87 im_Fm_fail se_Fm_fail rfl (L.sh (x := (6, 7)) rfl) (by decide) (Nat.le_of_ble_eq_true rfl) (Nat.le_trans (Nat.le_of_ble_eq_true rfl) hd) (Nat.le_of_ble_eq_true rfl)) (fun x4 h2 e3 p5 => ?_) (z_hand (te' := 13) (H := fun _ hh => F_Fm_mill_139   hh) rfl rfl (by decide) rfl (by decide) cl_Fm_90 (fun ex hh eh => z_fgt (ls' := [mR 3, mN, mN]) ⟨.inr rfl, .inl rfl, .inl rfl, trivial⟩ (S_Fm_mill_139 (ex := ex) hd  (L.ext eh) )))
    have L6 := L.ext e3
    refine z_fgt (ls' := [mN, mN, mN]) ⟨.inl rfl, .inl rfl, .inl rfl, trivial⟩ ?_
    exact S_Fm_mill_136 hd  L6 
noncomputable def F_Fm_mill_115 (G41 : Int → MH → RS Int) (v2 : Int) (h : MH) : RS Int := gd (inR (v2 + (1 : Int))) (G41 (v2 + (1 : Int)) h)
theorem S_Fm_mill_115 {d : Nat} (hd : 9 ≤ d) {G41 : Int → MH → RS Int} (hG41 : ∀ (v2 : Int) (h : MH), LayC h → inR v2 → OK d k_Fm_mill 41 [mR 3, mN, mI v2] [] h cI inR (G41 v2 h)) {v2 : Int} {h : MH} (L : LayC h) (rv2 : inR v2) : OK d k_Fm_mill 115 [mR 3, mN, mI v2] [] h cI inR (F_Fm_mill_115 G41 v2 h) := by
  unfold F_Fm_mill_115
  refine z_gd (fun g7 => ?_)
  refine z_go (fun Q hq => x_iinc (dA d_Fm_mill 54 rfl) rfl (by decide) rfl (x_goto (dA d_Fm_mill 55 rfl) rfl hq)) ?_
  exact hG41 (v2 + (1 : Int)) h L g7
noncomputable def F_Fm_mill_41_b (G41 : Int → MH → RS Int) (v2 : Int) (h : MH) : RS Int := if (600 : Int) < v2 then F_Fm_mill_121  h else bndC (F_In_isEmpty h) (fun x11 h9 => if x11 = 0 then bndC (F_Fm_countPiece h9) (fun x17 h15 => bndC (F_In_at (0 : Int) h15) (fun x22 h20 => if x22 = (96 : Int) then bndC (F_Fm_takeQuoted h20) (fun x28 h26 => F_Fm_mill_115 G41 v2 h26) (fun te hh => gd (te = 13) (F_Fm_mill_139   hh)) else bndC (F_In_at (0 : Int) h20) (fun x33 h31 => bndC (F_T_isWordStart x33 h31) (fun x38 h36 => if x38 = 0 then bndC (F_In_at (0 : Int) h36) (fun x44 h42 => bndC (F_Fm_takeCharacter x44 h42) (fun x49 h47 => F_Fm_mill_115 G41 v2 h47) (fun te hh => gd (te = 13) (F_Fm_mill_139   hh))) (fun te hh => gd (te = 13) (F_Fm_mill_139   hh)) else bndC (F_Fm_takeWord h36) (fun x54 h52 => F_Fm_mill_115 G41 v2 h52) (fun te hh => gd (te = 13) (F_Fm_mill_139   hh))) (fun te hh => gd (te = 13) (F_Fm_mill_139   hh))) (fun te hh => gd (te = 13) (F_Fm_mill_139   hh))) (fun te hh => gd (te = 13) (F_Fm_mill_139   hh))) (fun te hh => gd (te = 13) (F_Fm_mill_139   hh)) else F_Fm_mill_121  h9) (fun te hh => gd (te = 13) (F_Fm_mill_139   hh))
theorem S_Fm_mill_41_b {d : Nat} (hd : 9 ≤ d) {G41 : Int → MH → RS Int} (hG41 : ∀ (v2 : Int) (h : MH), LayC h → inR v2 → OK d k_Fm_mill 41 [mR 3, mN, mI v2] [] h cI inR (G41 v2 h)) {v2 : Int} {h : MH} (L : LayC h) (rv2 : inR v2) : OK d k_Fm_mill 41 [mR 3, mN, mI v2] [] h cI inR (F_Fm_mill_41_b G41 v2 h) := by
  unfold F_Fm_mill_41_b
  refine z_go (fun Q hq => x_iload_n (dA d_Fm_mill 21 rfl) rfl rfl (x_sipush (dA d_Fm_mill 22 rfl) (by decide) hq)) ?_
  refine z_br (fun Q => x_icmp_gt (dA d_Fm_mill 23 rfl) rfl rv2 (inR_lit (600 : Int) rfl)) (fun c8 => ?_) (fun c8 => ?_)
  · refine z_fgt (ls' := [mR 3, mN, mN]) ⟨.inr rfl, .inl rfl, .inl rfl, trivial⟩ ?_
    exact S_Fm_mill_121 hd  L 
  · refine z_go (fun Q hq => x_aload_n (dA d_Fm_mill 24 rfl) rfl rfl (x_getR (dA d_Fm_mill 25 rfl) f_Fm_30 (L.sh (x := (6, 7)) rfl) (by decide) (by decide) rfl (L.rf 6 rfl) hq)) ?_
    refine z_bndC (rest := []) (st1 := fun v => mI v :: []) (S_In_isEmpty (d := 0) (Nat.le_refl _) L ) (fun _ => rfl) (fun Q' Q => x_callV (as := []) (rest := []) (k' := k_In_isEmpty) (dA d_Fm_mill 26 rfl) o_In_isEmpty lk_Fm_60 im_In_isEmpty se_In_isEmpty rfl (L.sh (x := (7, 2)) rfl) (by decide) (Nat.le_of_ble_eq_true rfl) (Nat.le_trans (Nat.le_of_ble_eq_true rfl) hd) (Nat.le_of_ble_eq_true rfl)) (fun x11 h9 e10 p12 => ?_) (z_hand (te' := 13) (H := fun _ hh => F_Fm_mill_139   hh) rfl rfl (by decide) rfl (by decide) cl_Fm_90 (fun ex hh eh => z_fgt (ls' := [mR 3, mN, mN]) ⟨.inr rfl, .inl rfl, .inl rfl, trivial⟩ (S_Fm_mill_139 (ex := ex) hd  (L.ext eh) )))
    have L13 := L.ext e10
    refine z_brn (fun Q => x_if_ne (dA d_Fm_mill 27 rfl) rfl p12.inR) (fun c14 => ?_) (fun c14 => ?_)
    · refine z_go (fun Q hq => x_aload_n (dA d_Fm_mill 28 rfl) rfl rfl hq) ?_
      refine z_bndC (rest := []) (st1 := fun _ => []) (S_Fm_countPiece (d := 1) (Nat.le_refl _) L13 ) (fun _ => rfl) (fun Q' Q => x_callV (as := []) (rest := []) (k' := k_Fm_countPiece) (dA d_Fm_mill 29 rfl) o_Fm_countPiece lk_Fm_64 im_Fm_countPiece se_Fm_countPiece rfl (L13.sh (x := (6, 7)) rfl) (by decide) (Nat.le_of_ble_eq_true rfl) (Nat.le_trans (Nat.le_of_ble_eq_true rfl) hd) (Nat.le_of_ble_eq_true rfl)) (fun x17 h15 e16 p18 => ?_) (z_hand (te' := 13) (H := fun _ hh => F_Fm_mill_139   hh) rfl rfl (by decide) rfl (by decide) cl_Fm_90 (fun ex hh eh => z_fgt (ls' := [mR 3, mN, mN]) ⟨.inr rfl, .inl rfl, .inl rfl, trivial⟩ (S_Fm_mill_139 (ex := ex) hd  (L13.ext eh) )))
      have L19 := L13.ext e16
      refine z_go (fun Q hq => x_aload_n (dA d_Fm_mill 30 rfl) rfl rfl (x_getR (dA d_Fm_mill 31 rfl) f_Fm_30 (L19.sh (x := (6, 7)) rfl) (by decide) (by decide) rfl (L19.rf 6 rfl) (x_iconst (dA d_Fm_mill 32 rfl) hq))) ?_
      refine z_bndC (rest := []) (st1 := fun v => mI v :: []) (S_In_at (d := 0) (Nat.le_refl _) L19 (inR_lit (0 : Int) rfl)) (fun _ => rfl) (fun Q' Q => x_callV (as := [mI (0 : Int)]) (rest := []) (k' := k_In_at) (dA d_Fm_mill 33 rfl) o_In_at lk_Fm_67 im_In_at se_In_at rfl (L19.sh (x := (7, 2)) rfl) (by decide) (Nat.le_of_ble_eq_true rfl) (Nat.le_trans (Nat.le_of_ble_eq_true rfl) hd) (Nat.le_of_ble_eq_true rfl)) (fun x22 h20 e21 p23 => ?_) (z_hand (te' := 13) (H := fun _ hh => F_Fm_mill_139   hh) rfl rfl (by decide) rfl (by decide) cl_Fm_90 (fun ex hh eh => z_fgt (ls' := [mR 3, mN, mN]) ⟨.inr rfl, .inl rfl, .inl rfl, trivial⟩ (S_Fm_mill_139 (ex := ex) hd  (L19.ext eh) )))
      have L24 := L19.ext e21
      refine z_go (fun Q hq => x_bipush (dA d_Fm_mill 34 rfl) (by decide) hq) ?_
      refine z_brn (fun Q => x_icmp_ne (dA d_Fm_mill 35 rfl) rfl p23 (inR_lit (96 : Int) rfl)) (fun c25 => ?_) (fun c25 => ?_)
      · refine z_go (fun Q hq => x_aload_n (dA d_Fm_mill 36 rfl) rfl rfl hq) ?_
        refine z_bndC (rest := []) (st1 := fun _ => []) (S_Fm_takeQuoted (d := 2) (Nat.le_refl _) L24 ) (fun _ => rfl) (fun Q' Q => x_callV (as := []) (rest := []) (k' := k_Fm_takeQuoted) (dA d_Fm_mill 37 rfl) o_Fm_takeQuoted lk_Fm_71 im_Fm_takeQuoted se_Fm_takeQuoted rfl (L24.sh (x := (6, 7)) rfl) (by decide) (Nat.le_of_ble_eq_true rfl) (Nat.le_trans (Nat.le_of_ble_eq_true rfl) hd) (Nat.le_of_ble_eq_true rfl)) (fun x28 h26 e27 p29 => ?_) (z_hand (te' := 13) (H := fun _ hh => F_Fm_mill_139   hh) rfl rfl (by decide) rfl (by decide) cl_Fm_90 (fun ex hh eh => z_fgt (ls' := [mR 3, mN, mN]) ⟨.inr rfl, .inl rfl, .inl rfl, trivial⟩ (S_Fm_mill_139 (ex := ex) hd  (L24.ext eh) )))
        have L30 := L24.ext e27
        refine z_go (fun Q hq => x_goto (dA d_Fm_mill 38 rfl) rfl hq) ?_
        exact S_Fm_mill_115 hd hG41 L30 rv2
      · refine z_go (fun Q hq => x_aload_n (dA d_Fm_mill 39 rfl) rfl rfl (x_getR (dA d_Fm_mill 40 rfl) f_Fm_30 (L24.sh (x := (6, 7)) rfl) (by decide) (by decide) rfl (L24.rf 6 rfl) (x_iconst (dA d_Fm_mill 41 rfl) hq))) ?_
        refine z_bndC (rest := []) (st1 := fun v => mI v :: []) (S_In_at (d := 0) (Nat.le_refl _) L24 (inR_lit (0 : Int) rfl)) (fun _ => rfl) (fun Q' Q => x_callV (as := [mI (0 : Int)]) (rest := []) (k' := k_In_at) (dA d_Fm_mill 42 rfl) o_In_at lk_Fm_67 im_In_at se_In_at rfl (L24.sh (x := (7, 2)) rfl) (by decide) (Nat.le_of_ble_eq_true rfl) (Nat.le_trans (Nat.le_of_ble_eq_true rfl) hd) (Nat.le_of_ble_eq_true rfl)) (fun x33 h31 e32 p34 => ?_) (z_hand (te' := 13) (H := fun _ hh => F_Fm_mill_139   hh) rfl rfl (by decide) rfl (by decide) cl_Fm_90 (fun ex hh eh => z_fgt (ls' := [mR 3, mN, mN]) ⟨.inr rfl, .inl rfl, .inl rfl, trivial⟩ (S_Fm_mill_139 (ex := ex) hd  (L24.ext eh) )))
        have L35 := L24.ext e32
        refine z_bndC (rest := []) (st1 := fun v => mI v :: []) (S_T_isWordStart (d := 0) (Nat.le_refl _) L35 p34) (fun _ => rfl) (fun Q' Q => x_callSN (as := [mI x33]) (rest := []) (k' := k_T_isWordStart) (dA d_Fm_mill 43 rfl) o_T_isWordStart lk_Fm_74 st_T_isWordStart (Nat.le_of_ble_eq_true rfl) (Nat.le_trans (Nat.le_of_ble_eq_true rfl) hd) (Nat.le_of_ble_eq_true rfl)) (fun x38 h36 e37 p39 => ?_) (z_hand (te' := 13) (H := fun _ hh => F_Fm_mill_139   hh) rfl rfl (by decide) rfl (by decide) cl_Fm_90 (fun ex hh eh => z_fgt (ls' := [mR 3, mN, mN]) ⟨.inr rfl, .inl rfl, .inl rfl, trivial⟩ (S_Fm_mill_139 (ex := ex) hd  (L35.ext eh) )))
        have L40 := L35.ext e37
        refine z_br (fun Q => x_if_eq (dA d_Fm_mill 44 rfl) rfl p39.inR) (fun c41 => ?_) (fun c41 => ?_)
        · refine z_go (fun Q hq => x_aload_n (dA d_Fm_mill 48 rfl) rfl rfl (x_aload_n (dA d_Fm_mill 49 rfl) rfl rfl (x_getR (dA d_Fm_mill 50 rfl) f_Fm_30 (L40.sh (x := (6, 7)) rfl) (by decide) (by decide) rfl (L40.rf 6 rfl) (x_iconst (dA d_Fm_mill 51 rfl) hq)))) ?_
          refine z_bndC (rest := [mR 3]) (st1 := fun v => mI v :: [mR 3]) (S_In_at (d := 0) (Nat.le_refl _) L40 (inR_lit (0 : Int) rfl)) (fun _ => rfl) (fun Q' Q => x_callV (as := [mI (0 : Int)]) (rest := [mR 3]) (k' := k_In_at) (dA d_Fm_mill 52 rfl) o_In_at lk_Fm_67 im_In_at se_In_at rfl (L40.sh (x := (7, 2)) rfl) (by decide) (Nat.le_of_ble_eq_true rfl) (Nat.le_trans (Nat.le_of_ble_eq_true rfl) hd) (Nat.le_of_ble_eq_true rfl)) (fun x44 h42 e43 p45 => ?_) (z_hand (te' := 13) (H := fun _ hh => F_Fm_mill_139   hh) rfl rfl (by decide) rfl (by decide) cl_Fm_90 (fun ex hh eh => z_fgt (ls' := [mR 3, mN, mN]) ⟨.inr rfl, .inl rfl, .inl rfl, trivial⟩ (S_Fm_mill_139 (ex := ex) hd  (L40.ext eh) )))
          have L46 := L40.ext e43
          refine z_bndC (rest := []) (st1 := fun _ => []) (S_Fm_takeCharacter (d := 5) (Nat.le_refl _) L46 p45) (fun _ => rfl) (fun Q' Q => x_callV (as := [mI x44]) (rest := []) (k' := k_Fm_takeCharacter) (dA d_Fm_mill 53 rfl) o_Fm_takeCharacter lk_Fm_81 im_Fm_takeCharacter se_Fm_takeCharacter rfl (L46.sh (x := (6, 7)) rfl) (by decide) (Nat.le_of_ble_eq_true rfl) (Nat.le_trans (Nat.le_of_ble_eq_true rfl) hd) (Nat.le_of_ble_eq_true rfl)) (fun x49 h47 e48 p50 => ?_) (z_hand (te' := 13) (H := fun _ hh => F_Fm_mill_139   hh) rfl rfl (by decide) rfl (by decide) cl_Fm_90 (fun ex hh eh => z_fgt (ls' := [mR 3, mN, mN]) ⟨.inr rfl, .inl rfl, .inl rfl, trivial⟩ (S_Fm_mill_139 (ex := ex) hd  (L46.ext eh) )))
          have L51 := L46.ext e48
          exact S_Fm_mill_115 hd hG41 L51 rv2
        · refine z_go (fun Q hq => x_aload_n (dA d_Fm_mill 45 rfl) rfl rfl hq) ?_
          refine z_bndC (rest := []) (st1 := fun _ => []) (S_Fm_takeWord (d := 8) (Nat.le_refl _) L40 ) (fun _ => rfl) (fun Q' Q => x_callV (as := []) (rest := []) (k' := k_Fm_takeWord) (dA d_Fm_mill 46 rfl) o_Fm_takeWord lk_Fm_78 im_Fm_takeWord se_Fm_takeWord rfl (L40.sh (x := (6, 7)) rfl) (by decide) (Nat.le_of_ble_eq_true rfl) (Nat.le_trans (Nat.le_of_ble_eq_true rfl) hd) (Nat.le_of_ble_eq_true rfl)) (fun x54 h52 e53 p55 => ?_) (z_hand (te' := 13) (H := fun _ hh => F_Fm_mill_139   hh) rfl rfl (by decide) rfl (by decide) cl_Fm_90 (fun ex hh eh => z_fgt (ls' := [mR 3, mN, mN]) ⟨.inr rfl, .inl rfl, .inl rfl, trivial⟩ (S_Fm_mill_139 (ex := ex) hd  (L40.ext eh) )))
          have L56 := L40.ext e53
          refine z_go (fun Q hq => x_goto (dA d_Fm_mill 47 rfl) rfl hq) ?_
          exact S_Fm_mill_115 hd hG41 L56 rv2
    · refine z_fgt (ls' := [mR 3, mN, mN]) ⟨.inr rfl, .inl rfl, .inl rfl, trivial⟩ ?_
      exact S_Fm_mill_121 hd  L13 
noncomputable def F_Fm_mill_41 (v2 : Int) (h : MH) : RS Int := itr (fun self (q : Int × MH) => F_Fm_mill_41_b (fun v2 h => self (v2, h)) q.1 q.2) FU (v2, h)
theorem S_Fm_mill_41 {d : Nat} (hd : 9 ≤ d) {v2 : Int} {h : MH} (L : LayC h) (rv2 : inR v2) : OK d k_Fm_mill 41 [mR 3, mN, mI v2] [] h cI inR (F_Fm_mill_41  v2 h) := by
  unfold F_Fm_mill_41
  refine z_itr (P := fun q : Int × MH => LayC q.2 ∧ inR q.1 ∧ True) (ls := fun q : Int × MH => [mR 3, mN, mI q.1]) (hp := fun q : Int × MH => q.2) (fun self hs q hq => ?_) FU (v2, h) ⟨L, rv2, trivial⟩
  exact S_Fm_mill_41_b hd (fun v2 h L rv2 => hs (v2, h) ⟨L, rv2, trivial⟩) hq.1 hq.2.1
noncomputable def F_Fm_mill (a1 : Nat) (a1n : Nat) (h : MH) : RS Int := bnd (F_Le_empty 4 400 h) fun x59 h57 => bnd (F_De_empty h57) fun x64 h62 => bnd (F_Ar_empty h62) fun x69 h67 => bnd (F_In_take a1 a1n h67) fun x74 h72 => sto (mPi h72 3 5 (0 : Int)) fun h77 => sto (mPi h77 3 6 (0 : Int)) fun h80 => F_Fm_mill_41 (0 : Int) h80
theorem S_Fm_mill {d : Nat} (hd : 9 ≤ d) {a1 : Nat} {a1n : Nat} {h : MH} (L : LayC h) (oa1 : LeO h a1 a1n) : OK d k_Fm_mill 0 [mR 3, mR a1, mN] [] h cI inR (F_Fm_mill  a1 a1n h) := by
  unfold F_Fm_mill
  refine z_go (fun Q hq => x_aload_n (dA d_Fm_mill 0 rfl) rfl rfl (x_getR (dA d_Fm_mill 1 rfl) f_Fm_14 (L.sh (x := (6, 7)) rfl) (by decide) (by decide) rfl (L.rf 4 rfl) hq)) ?_
  refine z_bnd (rest := []) (st1 := fun _ => []) (S_Le_empty (d := 0) (Nat.le_refl _) L (L.le rfl 9 rfl rfl (by decide))) (by decide) (fun _ => rfl) (fun Q' Q => x_callV (as := []) (rest := []) (k' := k_Le_empty) (dA d_Fm_mill 2 rfl) o_Le_empty lk_Fm_44 im_Le_empty se_Le_empty rfl (L.sh (x := (1, 3)) rfl) (by decide) (Nat.le_of_ble_eq_true rfl) (Nat.le_trans (Nat.le_of_ble_eq_true rfl) hd) (Nat.le_of_ble_eq_true rfl)) (fun x59 h57 e58 p60 => ?_)
  have L61 := L.ext e58
  refine z_go (fun Q hq => x_aload_n (dA d_Fm_mill 3 rfl) rfl rfl (x_getR (dA d_Fm_mill 4 rfl) f_Fm_23 (L61.sh (x := (6, 7)) rfl) (by decide) (by decide) rfl (L61.rf 5 rfl) hq)) ?_
  refine z_bnd (rest := []) (st1 := fun _ => []) (S_De_empty (d := 0) (Nat.le_refl _) L61 ) (by decide) (fun _ => rfl) (fun Q' Q => x_callV (as := []) (rest := []) (k' := k_De_empty) (dA d_Fm_mill 5 rfl) o_De_empty lk_Fm_47 im_De_empty se_De_empty rfl (L61.sh (x := (3, 5)) rfl) (by decide) (Nat.le_of_ble_eq_true rfl) (Nat.le_trans (Nat.le_of_ble_eq_true rfl) hd) (Nat.le_of_ble_eq_true rfl)) (fun x64 h62 e63 p65 => ?_)
  have L66 := L61.ext e63
  refine z_go (fun Q hq => x_aload_n (dA d_Fm_mill 6 rfl) rfl rfl (x_getR (dA d_Fm_mill 7 rfl) f_Fm_37 (L66.sh (x := (6, 7)) rfl) (by decide) (by decide) rfl (L66.rf 7 rfl) hq)) ?_
  refine z_bnd (rest := []) (st1 := fun _ => []) (S_Ar_empty (d := 1) (Nat.le_refl _) L66 ) (by decide) (fun _ => rfl) (fun Q' Q => x_callV (as := []) (rest := []) (k' := k_Ar_empty) (dA d_Fm_mill 8 rfl) o_Ar_empty lk_Fm_48 im_Ar_empty se_Ar_empty rfl (L66.sh (x := (2, 6)) rfl) (by decide) (Nat.le_of_ble_eq_true rfl) (Nat.le_trans (Nat.le_of_ble_eq_true rfl) hd) (Nat.le_of_ble_eq_true rfl)) (fun x69 h67 e68 p70 => ?_)
  have L71 := L66.ext e68
  refine z_go (fun Q hq => x_aload_n (dA d_Fm_mill 9 rfl) rfl rfl (x_getR (dA d_Fm_mill 10 rfl) f_Fm_30 (L71.sh (x := (6, 7)) rfl) (by decide) (by decide) rfl (L71.rf 6 rfl) (x_aload_n (dA d_Fm_mill 11 rfl) rfl rfl hq))) ?_
  refine z_bnd (rest := []) (st1 := fun _ => []) (S_In_take (d := 0) (Nat.le_refl _) L71 (((oa1.ext e58).ext e63).ext e68)) (by decide) (fun _ => rfl) (fun Q' Q => x_callV (as := [mR a1]) (rest := []) (k' := k_In_take) (dA d_Fm_mill 12 rfl) o_In_take lk_Fm_49 im_In_take se_In_take rfl (L71.sh (x := (7, 2)) rfl) (by decide) (Nat.le_of_ble_eq_true rfl) (Nat.le_trans (Nat.le_of_ble_eq_true rfl) hd) (Nat.le_of_ble_eq_true rfl)) (fun x74 h72 e73 p75 => ?_)
  have L76 := L71.ext e73
  refine z_go (fun Q hq => x_aload_n (dA d_Fm_mill 13 rfl) rfl rfl (x_iconst (dA d_Fm_mill 14 rfl) hq)) ?_
  refine z_sto (Ext.pi (L76.sh (x := (6, 7)) rfl) (by decide) (inR_lit (0 : Int) rfl)) (fun Q hq => x_putI (dA d_Fm_mill 15 rfl) p_Fm_53 (L76.sh (x := (6, 7)) rfl) (by decide) cl_Fm rfl hq) (fun h77 e78 => ?_)
  have L79 := L76.ext e78
  refine z_go (fun Q hq => x_aload_n (dA d_Fm_mill 16 rfl) rfl rfl (x_iconst (dA d_Fm_mill 17 rfl) hq)) ?_
  refine z_sto (Ext.pi (L79.sh (x := (6, 7)) rfl) (by decide) (inR_lit (0 : Int) rfl)) (fun Q hq => x_putI (dA d_Fm_mill 18 rfl) p_Fm_57 (L79.sh (x := (6, 7)) rfl) (by decide) cl_Fm rfl hq) (fun h80 e81 => ?_)
  have L82 := L79.ext e81
  refine z_go (fun Q hq => x_iconst (dA d_Fm_mill 19 rfl) (x_istore_n (dA d_Fm_mill 20 rfl) rfl (by decide) rfl hq)) ?_
  refine z_fgt (ls' := [mR 3, mN, mI (0 : Int)]) ⟨.inr rfl, .inl rfl, .inr rfl, trivial⟩ ?_
  exact S_Fm_mill_41 hd  L82 (inR_lit (0 : Int) rfl)
/-! TwoMills.first()I -/
noncomputable def F_T_first (h : MH) : RS Int := bnd (F_Fm_mill 1 400 h) fun x3 h1 => sto (mPi h1 0 3 x3) fun h6 => sto (mPi h6 0 4 (0 : Int)) fun h9 => if (mGi h9 0 3) = 0 then some (.inl (mGi h9 4 1), h9) else thr 13 h9
theorem S_T_first {d : Nat} (hd : 10 ≤ d) {h : MH} (L : LayC h) : OK d k_T_first 0 [mR 0] [] h cI inR (F_T_first   h) := by
  unfold F_T_first
  refine z_go (fun Q hq => x_aload_n (dA d_T_first 0 rfl) rfl rfl (x_aload_n (dA d_T_first 1 rfl) rfl rfl (x_getR (dA d_T_first 2 rfl) f_T_21 (L.sh (x := (0, 5)) rfl) (by decide) (by decide) rfl (L.rf 1 rfl) (x_aload_n (dA d_T_first 3 rfl) rfl rfl (x_getR (dA d_T_first 4 rfl) f_T_14 (L.sh (x := (0, 5)) rfl) (by decide) (by decide) rfl (L.rf 0 rfl) hq))))) ?_
  refine z_bnd (rest := [mR 0]) (st1 := fun v => mI v :: [mR 0]) (S_Fm_mill (d := 9) (Nat.le_refl _) L (L.le rfl 3 rfl rfl (by decide))) (fun _ hx => absurd hx List.not_mem_nil) (fun _ => rfl) (fun Q' Q => x_callV (as := [mR 1]) (rest := [mR 0]) (k' := k_Fm_mill) (dA d_T_first 5 rfl) o_Fm_mill lk_T_61 im_Fm_mill se_Fm_mill rfl (L.sh (x := (6, 7)) rfl) (by decide) (Nat.le_of_ble_eq_true rfl) (Nat.le_trans (Nat.le_of_ble_eq_true rfl) hd) (Nat.le_of_ble_eq_true rfl)) (fun x3 h1 e2 p4 => ?_)
  have L5 := L.ext e2
  refine z_sto (Ext.pi (L5.sh (x := (0, 5)) rfl) (by decide) p4) (fun Q hq => x_putI (dA d_T_first 6 rfl) p_T_65 (L5.sh (x := (0, 5)) rfl) (by decide) cl_T rfl hq) (fun h6 e7 => ?_)
  have L8 := L5.ext e7
  refine z_go (fun Q hq => x_aload_n (dA d_T_first 7 rfl) rfl rfl (x_iconst (dA d_T_first 8 rfl) hq)) ?_
  refine z_sto (Ext.pi (L8.sh (x := (0, 5)) rfl) (by decide) (inR_lit (0 : Int) rfl)) (fun Q hq => x_putI (dA d_T_first 9 rfl) p_T_68 (L8.sh (x := (0, 5)) rfl) (by decide) cl_T rfl hq) (fun h9 e10 => ?_)
  have L11 := L8.ext e10
  refine z_go (fun Q hq => x_aload_n (dA d_T_first 10 rfl) rfl rfl (x_getI (dA d_T_first 11 rfl) f_T_65 (L11.sh (x := (0, 5)) rfl) (by decide) (by decide) rfl hq)) ?_
  refine z_br (fun Q => x_if_eq (dA d_T_first 12 rfl) rfl (L11.rg _ _)) (fun c12 => ?_) (fun c12 => ?_)
  · refine z_go (fun Q hq => x_aload_n (dA d_T_first 17 rfl) rfl rfl (x_getR (dA d_T_first 18 rfl) f_T_21 (L11.sh (x := (0, 5)) rfl) (by decide) (by decide) rfl (L11.rf 1 rfl) (x_getR (dA d_T_first 19 rfl) f_T_74 (L11.sh (x := (6, 7)) rfl) (by decide) (by decide) rfl (L11.rf 4 rfl) (x_getI (dA d_T_first 20 rfl) f_T_54 (L11.sh (x := (1, 3)) rfl) (by decide) (by decide) rfl hq)))) ?_
    exact z_reti (dA d_T_first 21 rfl) rfl (L11.rg _ _)
  · exact z_thr (dA d_T_first 13 rfl) (dA d_T_first 14 rfl) (dA d_T_first 15 rfl) (dA d_T_first 16 rfl) e_T_71 (fun _ hx => absurd hx List.not_mem_nil) (Nat.le_of_ble_eq_true rfl)
/-! TwoMills$Names.empty()V -/
noncomputable def F_Na_empty_2_b (G2 : Int → MH → RS Unit) (v1 : Int) (h : MH) : RS Unit := if (8 : Int) ≤ v1 then some (.inl (), h) else gd (0 ≤ v1 ∧ v1 < 8) (sto (mPl h 90 v1.toNat (0 : Int64)) fun h3 => gd (inR (v1 + (1 : Int))) (G2 (v1 + (1 : Int)) h3))
theorem S_Na_empty_2_b {d : Nat} (hd : 0 ≤ d) {G2 : Int → MH → RS Unit} (hG2 : ∀ (v1 : Int) (h : MH), LayC h → inR v1 → OK d k_Na_empty 2 [mR 89, mI v1] [] h cV pT (G2 v1 h)) {v1 : Int} {h : MH} (L : LayC h) (rv1 : inR v1) : OK d k_Na_empty 2 [mR 89, mI v1] [] h cV pT (F_Na_empty_2_b G2 v1 h) := by
  unfold F_Na_empty_2_b
  refine z_go (fun Q hq => x_iload_n (dA d_Na_empty 2 rfl) rfl rfl (x_bipush (dA d_Na_empty 3 rfl) (by decide) hq)) ?_
  refine z_br (fun Q => x_icmp_ge (dA d_Na_empty 4 rfl) rfl rv1 (inR_lit (8 : Int) rfl)) (fun c1 => ?_) (fun c1 => ?_)
  · exact z_retv (dA d_Na_empty 12 rfl) rfl
  · refine z_go (fun Q hq => x_aload_n (dA d_Na_empty 5 rfl) rfl rfl (x_getR (dA d_Na_empty 6 rfl) f_Na_9 (L.sh (x := (8, 5)) rfl) (by decide) (by decide) rfl (L.rf 96 rfl) (x_iload_n (dA d_Na_empty 7 rfl) rfl rfl (x_lconst (v := 0) (dA d_Na_empty 8 rfl) rfl hq)))) ?_
    refine z_gd (fun g2 => ?_)
    refine z_sto Ext.pl (fun Q hq => x_last (dA d_Na_empty 9 rfl) (L.sh (x := (103, 8)) rfl) g2.1 g2.2 (by decide) hq) (fun h3 e4 => ?_)
    have L5 := L.ext e4
    refine z_gd (fun g6 => ?_)
    refine z_go (fun Q hq => x_iinc (dA d_Na_empty 10 rfl) rfl (by decide) rfl (x_goto (dA d_Na_empty 11 rfl) rfl hq)) ?_
    exact hG2 (v1 + (1 : Int)) h3 L5 g6
noncomputable def F_Na_empty_2 (v1 : Int) (h : MH) : RS Unit := itr (fun self (q : Int × MH) => F_Na_empty_2_b (fun v1 h => self (v1, h)) q.1 q.2) FU (v1, h)
theorem S_Na_empty_2 {d : Nat} (hd : 0 ≤ d) {v1 : Int} {h : MH} (L : LayC h) (rv1 : inR v1) : OK d k_Na_empty 2 [mR 89, mI v1] [] h cV pT (F_Na_empty_2  v1 h) := by
  unfold F_Na_empty_2
  refine z_itr (P := fun q : Int × MH => LayC q.2 ∧ inR q.1 ∧ True) (ls := fun q : Int × MH => [mR 89, mI q.1]) (hp := fun q : Int × MH => q.2) (fun self hs q hq => ?_) FU (v1, h) ⟨L, rv1, trivial⟩
  exact S_Na_empty_2_b hd (fun v1 h L rv1 => hs (v1, h) ⟨L, rv1, trivial⟩) hq.1 hq.2.1
noncomputable def F_Na_empty (h : MH) : RS Unit := F_Na_empty_2 (0 : Int) h
theorem S_Na_empty {d : Nat} (hd : 0 ≤ d) {h : MH} (L : LayC h) : OK d k_Na_empty 0 [mR 89, mN] [] h cV pT (F_Na_empty   h) := by
  unfold F_Na_empty
  refine z_go (fun Q hq => x_iconst (dA d_Na_empty 0 rfl) (x_istore_n (dA d_Na_empty 1 rfl) rfl (by decide) rfl hq)) ?_
  exact S_Na_empty_2 hd  L (inR_lit (0 : Int) rfl)
/-! TwoMills$Tokens.length(J)I -/
noncomputable def F_To_length (a1 : Int64) (h : MH) : RS Int := some (.inl (((a1 >>> ((Int32.ofInt (16 : Int)).toInt64 &&& 63)) &&& (65535 : Int64)).toInt32.toInt), h)
theorem S_To_length {d : Nat} (hd : 0 ≤ d) {a1 : Int64} {h : MH} (L : LayC h) : OK d k_To_length 0 [mL a1, mN] [] h cI inR (F_To_length  a1 h) := by
  unfold F_To_length
  refine z_go (fun Q hq => x_lload_n (dA d_To_length 0 rfl) rfl rfl (x_bipush (dA d_To_length 1 rfl) (by decide) (x_lshr (dA d_To_length 2 rfl) (x_ldc2 (dA d_To_length 3 rfl) kl_To_37 (x_land (dA d_To_length 4 rfl) (x_l2i (dA d_To_length 5 rfl) hq)))))) ?_
  exact z_reti (dA d_To_length 6 rfl) rfl (inR_32 _)
/-! TwoMills$Tokens.isPair(CC)Z -/
noncomputable def F_To_isPair_75 (h : MH) : RS Int := some (.inl (0 : Int), h)
theorem S_To_isPair_75 {d : Nat} (hd : 0 ≤ d) {h : MH} (L : LayC h) : OK d k_To_isPair 75 [mN, mN] [] h cI p01 (F_To_isPair_75   h) := by
  unfold F_To_isPair_75
  refine z_go (fun Q hq => x_iconst (dA d_To_isPair 39 rfl) hq) ?_
  exact z_retz (dA d_To_isPair 40 rfl) rfl (.inl rfl)
noncomputable def F_To_isPair_71 (h : MH) : RS Int := some (.inl (1 : Int), h)
theorem S_To_isPair_71 {d : Nat} (hd : 0 ≤ d) {h : MH} (L : LayC h) : OK d k_To_isPair 71 [mN, mN] [] h cI p01 (F_To_isPair_71   h) := by
  unfold F_To_isPair_71
  refine z_go (fun Q hq => x_iconst (dA d_To_isPair 37 rfl) (x_goto (dA d_To_isPair 38 rfl) rfl hq)) ?_
  exact z_retz (dA d_To_isPair 40 rfl) rfl (.inr rfl)
noncomputable def F_To_isPair_30 (h : MH) : RS Int := some (.inl (1 : Int), h)
theorem S_To_isPair_30 {d : Nat} (hd : 0 ≤ d) {h : MH} (L : LayC h) : OK d k_To_isPair 30 [mN, mN] [] h cI p01 (F_To_isPair_30   h) := by
  unfold F_To_isPair_30
  refine z_go (fun Q hq => x_iconst (dA d_To_isPair 15 rfl) (x_goto (dA d_To_isPair 16 rfl) rfl hq)) ?_
  exact z_retz (dA d_To_isPair 18 rfl) rfl (.inr rfl)
noncomputable def F_To_isPair (a1 : Int) (a2 : Int) (h : MH) : RS Int := if a2 = (61 : Int) then if a1 = (61 : Int) then F_To_isPair_30  h else if a1 = (33 : Int) then F_To_isPair_30  h else if a1 = (60 : Int) then F_To_isPair_30  h else if a1 = (62 : Int) then F_To_isPair_30  h else some (.inl (0 : Int), h) else if a1 = a2 then if a1 = (35 : Int) then F_To_isPair_71  h else if a1 = (38 : Int) then F_To_isPair_71  h else if a1 = (124 : Int) then F_To_isPair_71  h else if a1 = (60 : Int) then F_To_isPair_71  h else if a1 = (62 : Int) then F_To_isPair_71  h else F_To_isPair_75  h else F_To_isPair_75  h
theorem S_To_isPair {d : Nat} (hd : 0 ≤ d) {a1 : Int} {a2 : Int} {h : MH} (L : LayC h) (ra1 : 0 ≤ a1 ∧ a1 < 65536) (ra2 : 0 ≤ a2 ∧ a2 < 65536) : OK d k_To_isPair 0 [mI a1, mI a2] [] h cI p01 (F_To_isPair  a1 a2 h) := by
  unfold F_To_isPair
  refine z_go (fun Q hq => x_iload_n (dA d_To_isPair 0 rfl) rfl rfl (x_bipush (dA d_To_isPair 1 rfl) (by decide) hq)) ?_
  refine z_brn (fun Q => x_icmp_ne (dA d_To_isPair 2 rfl) rfl (inR_ch ra2) (inR_lit (61 : Int) rfl)) (fun c1 => ?_) (fun c1 => ?_)
  · refine z_go (fun Q hq => x_iload_n (dA d_To_isPair 3 rfl) rfl rfl (x_bipush (dA d_To_isPair 4 rfl) (by decide) hq)) ?_
    refine z_br (fun Q => x_icmp_eq (dA d_To_isPair 5 rfl) rfl (inR_ch ra1) (inR_lit (61 : Int) rfl)) (fun c2 => ?_) (fun c2 => ?_)
    · refine z_fgt (ls' := [mN, mN]) ⟨.inl rfl, .inl rfl, trivial⟩ ?_
      exact S_To_isPair_30 hd  L 
    · refine z_go (fun Q hq => x_iload_n (dA d_To_isPair 6 rfl) rfl rfl (x_bipush (dA d_To_isPair 7 rfl) (by decide) hq)) ?_
      refine z_br (fun Q => x_icmp_eq (dA d_To_isPair 8 rfl) rfl (inR_ch ra1) (inR_lit (33 : Int) rfl)) (fun c3 => ?_) (fun c3 => ?_)
      · refine z_fgt (ls' := [mN, mN]) ⟨.inl rfl, .inl rfl, trivial⟩ ?_
        exact S_To_isPair_30 hd  L 
      · refine z_go (fun Q hq => x_iload_n (dA d_To_isPair 9 rfl) rfl rfl (x_bipush (dA d_To_isPair 10 rfl) (by decide) hq)) ?_
        refine z_br (fun Q => x_icmp_eq (dA d_To_isPair 11 rfl) rfl (inR_ch ra1) (inR_lit (60 : Int) rfl)) (fun c4 => ?_) (fun c4 => ?_)
        · refine z_fgt (ls' := [mN, mN]) ⟨.inl rfl, .inl rfl, trivial⟩ ?_
          exact S_To_isPair_30 hd  L 
        · refine z_go (fun Q hq => x_iload_n (dA d_To_isPair 12 rfl) rfl rfl (x_bipush (dA d_To_isPair 13 rfl) (by decide) hq)) ?_
          refine z_brn (fun Q => x_icmp_ne (dA d_To_isPair 14 rfl) rfl (inR_ch ra1) (inR_lit (62 : Int) rfl)) (fun c5 => ?_) (fun c5 => ?_)
          · refine z_fgt (ls' := [mN, mN]) ⟨.inl rfl, .inl rfl, trivial⟩ ?_
            exact S_To_isPair_30 hd  L 
          · refine z_go (fun Q hq => x_iconst (dA d_To_isPair 17 rfl) hq) ?_
            exact z_retz (dA d_To_isPair 18 rfl) rfl (.inl rfl)
  · refine z_go (fun Q hq => x_iload_n (dA d_To_isPair 19 rfl) rfl rfl (x_iload_n (dA d_To_isPair 20 rfl) rfl rfl hq)) ?_
    refine z_brn (fun Q => x_icmp_ne (dA d_To_isPair 21 rfl) rfl (inR_ch ra1) (inR_ch ra2)) (fun c6 => ?_) (fun c6 => ?_)
    · refine z_go (fun Q hq => x_iload_n (dA d_To_isPair 22 rfl) rfl rfl (x_bipush (dA d_To_isPair 23 rfl) (by decide) hq)) ?_
      refine z_br (fun Q => x_icmp_eq (dA d_To_isPair 24 rfl) rfl (inR_ch ra1) (inR_lit (35 : Int) rfl)) (fun c7 => ?_) (fun c7 => ?_)
      · refine z_fgt (ls' := [mN, mN]) ⟨.inl rfl, .inl rfl, trivial⟩ ?_
        exact S_To_isPair_71 hd  L 
      · refine z_go (fun Q hq => x_iload_n (dA d_To_isPair 25 rfl) rfl rfl (x_bipush (dA d_To_isPair 26 rfl) (by decide) hq)) ?_
        refine z_br (fun Q => x_icmp_eq (dA d_To_isPair 27 rfl) rfl (inR_ch ra1) (inR_lit (38 : Int) rfl)) (fun c8 => ?_) (fun c8 => ?_)
        · refine z_fgt (ls' := [mN, mN]) ⟨.inl rfl, .inl rfl, trivial⟩ ?_
          exact S_To_isPair_71 hd  L 
        · refine z_go (fun Q hq => x_iload_n (dA d_To_isPair 28 rfl) rfl rfl (x_bipush (dA d_To_isPair 29 rfl) (by decide) hq)) ?_
          refine z_br (fun Q => x_icmp_eq (dA d_To_isPair 30 rfl) rfl (inR_ch ra1) (inR_lit (124 : Int) rfl)) (fun c9 => ?_) (fun c9 => ?_)
          · refine z_fgt (ls' := [mN, mN]) ⟨.inl rfl, .inl rfl, trivial⟩ ?_
            exact S_To_isPair_71 hd  L 
          · refine z_go (fun Q hq => x_iload_n (dA d_To_isPair 31 rfl) rfl rfl (x_bipush (dA d_To_isPair 32 rfl) (by decide) hq)) ?_
            refine z_br (fun Q => x_icmp_eq (dA d_To_isPair 33 rfl) rfl (inR_ch ra1) (inR_lit (60 : Int) rfl)) (fun c10 => ?_) (fun c10 => ?_)
            · refine z_fgt (ls' := [mN, mN]) ⟨.inl rfl, .inl rfl, trivial⟩ ?_
              exact S_To_isPair_71 hd  L 
            · refine z_go (fun Q hq => x_iload_n (dA d_To_isPair 34 rfl) rfl rfl (x_bipush (dA d_To_isPair 35 rfl) (by decide) hq)) ?_
              refine z_brn (fun Q => x_icmp_ne (dA d_To_isPair 36 rfl) rfl (inR_ch ra1) (inR_lit (62 : Int) rfl)) (fun c11 => ?_) (fun c11 => ?_)
              · refine z_fgt (ls' := [mN, mN]) ⟨.inl rfl, .inl rfl, trivial⟩ ?_
                exact S_To_isPair_71 hd  L 
              · refine z_fgt (ls' := [mN, mN]) ⟨.inl rfl, .inl rfl, trivial⟩ ?_
                exact S_To_isPair_75 hd  L 
    · refine z_fgt (ls' := [mN, mN]) ⟨.inl rfl, .inl rfl, trivial⟩ ?_
      exact S_To_isPair_75 hd  L 
/-! TwoMills$Tokens.token(III)J -/
noncomputable def F_To_token (a1 : Int) (a2 : Int) (a3 : Int) (h : MH) : RS Int64 := some (.inl (((((Int32.ofInt a1).toInt64) <<< ((Int32.ofInt (32 : Int)).toInt64 &&& 63)) ||| (((Int32.ofInt a3).toInt64) <<< ((Int32.ofInt (16 : Int)).toInt64 &&& 63))) ||| ((Int32.ofInt a2).toInt64)), h)
theorem S_To_token {d : Nat} (hd : 0 ≤ d) {a1 : Int} {a2 : Int} {a3 : Int} {h : MH} (L : LayC h) (ra1 : inR a1) (ra2 : inR a2) (ra3 : inR a3) : OK d k_To_token 0 [mI a1, mI a2, mI a3] [] h cJ pT (F_To_token  a1 a2 a3 h) := by
  unfold F_To_token
  refine z_go (fun Q hq => x_iload_n (dA d_To_token 0 rfl) rfl rfl (x_i2l (dA d_To_token 1 rfl) (x_bipush (dA d_To_token 2 rfl) (by decide) (x_lshl (dA d_To_token 3 rfl) (x_iload_n (dA d_To_token 4 rfl) rfl rfl (x_i2l (dA d_To_token 5 rfl) (x_bipush (dA d_To_token 6 rfl) (by decide) (x_lshl (dA d_To_token 7 rfl) (x_lor (dA d_To_token 8 rfl) (x_iload_n (dA d_To_token 9 rfl) rfl rfl (x_i2l (dA d_To_token 10 rfl) (x_lor (dA d_To_token 11 rfl) hq)))))))))))) ?_
  exact z_retj (dA d_To_token 12 rfl) rfl
end Fns
