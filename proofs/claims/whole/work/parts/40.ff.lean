section Fns
/-! TwoMills$SecondMill.define(I)V -/
noncomputable def F_Sm_define_111_b (G111 : Int → Int → Int → Int → Int → MH → RS Unit) (v1 : Int) (v2 : Int) (v3 : Int) (v4 : Int) (v5 : Int) (h : MH) : RS Unit := if v1 ≤ v5 then gd (0 ≤ v4 ∧ v4 < 8) (sto (mPi h 93 v4.toNat v3) fun h3 => gd (inR (v4 * (12 : Int))) (gd (0 ≤ v2 ∧ 0 ≤ (v4 * (12 : Int)) ∧ 0 ≤ v3 ∧ v2 + v3 ≤ 400 ∧ (v4 * (12 : Int)) + v3 ≤ 96) (sto (mCpL h3 103 94 v2.toNat (v4 * (12 : Int)).toNat v3.toNat) fun h8 => some (.inl (), h8)))) else gd (inR (v4 * (3 : Int))) (gd (inR ((v4 * (3 : Int)) + v5)) (gd (inR ((2 : Int) * v5)) (gd (inR ((4 : Int) + ((2 : Int) * v5))) (gd (0 ≤ ((4 : Int) + ((2 : Int) * v5)) ∧ ((4 : Int) + ((2 : Int) * v5)) < 400) (gd (0 ≤ ((v4 * (3 : Int)) + v5) ∧ ((v4 * (3 : Int)) + v5) < 24) (sto (mPl h 92 ((v4 * (3 : Int)) + v5).toNat (mGl h 103 ((4 : Int) + ((2 : Int) * v5)).toNat)) fun h17 => gd (inR (v5 + (1 : Int))) (G111 v1 v2 v3 v4 (v5 + (1 : Int)) h17)))))))
theorem S_Sm_define_111_b {d : Nat} (hd : 3 ≤ d) {G111 : Int → Int → Int → Int → Int → MH → RS Unit} (hG111 : ∀ (v1 : Int) (v2 : Int) (v3 : Int) (v4 : Int) (v5 : Int) (h : MH), LayC h → inR v1 → inR v2 → inR v3 → inR v4 → inR v5 → OK d k_Sm_define 111 [mR 86, mI v1, mI v2, mI v3, mI v4, mI v5] [] h cV pT (G111 v1 v2 v3 v4 v5 h)) {v1 : Int} {v2 : Int} {v3 : Int} {v4 : Int} {v5 : Int} {h : MH} (L : LayC h) (rv1 : inR v1) (rv2 : inR v2) (rv3 : inR v3) (rv4 : inR v4) (rv5 : inR v5) : OK d k_Sm_define 111 [mR 86, mI v1, mI v2, mI v3, mI v4, mI v5] [] h cV pT (F_Sm_define_111_b G111 v1 v2 v3 v4 v5 h) := by
  unfold F_Sm_define_111_b
  refine z_go (fun Q hq => x_iload (dA d_Sm_define 61 rfl) rfl (x_iload_n (dA d_Sm_define 62 rfl) rfl rfl hq)) ?_
  refine z_br (fun Q => x_icmp_ge (dA d_Sm_define 63 rfl) rfl rv5 rv1) (fun c1 => ?_) (fun c1 => ?_)
  · refine z_go (fun Q hq => x_aload_n (dA d_Sm_define 83 rfl) rfl rfl (x_getR (dA d_Sm_define 84 rfl) f_Sm_21 (L.sh (x := (10, 12)) rfl) (by decide) (by decide) rfl (L.rf 87 rfl) (x_getR (dA d_Sm_define 85 rfl) f_Sm_256 (L.sh (x := (8, 5)) rfl) (by decide) (by decide) rfl (L.rf 99 rfl) (x_iload (dA d_Sm_define 86 rfl) rfl (x_iload_n (dA d_Sm_define 87 rfl) rfl rfl hq))))) ?_
    refine z_gd (fun g2 => ?_)
    refine z_sto (Ext.pi (L.sh (x := (100, 8)) rfl) (by decide) rv3) (fun Q hq => x_iast (dA d_Sm_define 88 rfl) (L.sh (x := (100, 8)) rfl) g2.1 g2.2 (by decide) hq) (fun h3 e4 => ?_)
    have L5 := L.ext e4
    refine z_go (fun Q hq => x_aload_n (dA d_Sm_define 89 rfl) rfl rfl (x_getR (dA d_Sm_define 90 rfl) f_Sm_52 (L5.sh (x := (10, 12)) rfl) (by decide) (by decide) rfl (L5.rf 91 rfl) (x_iload_n (dA d_Sm_define 91 rfl) rfl rfl (x_aload_n (dA d_Sm_define 92 rfl) rfl rfl (x_getR (dA d_Sm_define 93 rfl) f_Sm_21 (L5.sh (x := (10, 12)) rfl) (by decide) (by decide) rfl (L5.rf 87 rfl) (x_getR (dA d_Sm_define 94 rfl) f_Sm_259 (L5.sh (x := (8, 5)) rfl) (by decide) (by decide) rfl (L5.rf 100 rfl) (x_iload (dA d_Sm_define 95 rfl) rfl (x_bipush (dA d_Sm_define 96 rfl) (by decide) hq)))))))) ?_
    refine z_gd (fun g6 => ?_)
    refine z_go (fun Q hq => x_imul (dA d_Sm_define 97 rfl) (x_iload_n (dA d_Sm_define 98 rfl) rfl rfl hq)) ?_
    refine z_gd (fun g7 => ?_)
    refine z_sto Ext.cpL (fun Q hq => x_copyJI (dA d_Sm_define 99 rfl) lk_Sm_262 (L5.sh (x := (103, 400)) rfl) (L5.sh (x := (103, 96)) rfl) g7 (by decide) (by decide) (Nat.le_of_ble_eq_true rfl) hq) (fun h8 e9 => ?_)
    have L10 := L5.ext e9
    exact z_retv (dA d_Sm_define 100 rfl) rfl
  · refine z_go (fun Q hq => x_aload_n (dA d_Sm_define 64 rfl) rfl rfl (x_getR (dA d_Sm_define 65 rfl) f_Sm_21 (L.sh (x := (10, 12)) rfl) (by decide) (by decide) rfl (L.rf 87 rfl) (x_getR (dA d_Sm_define 66 rfl) f_Sm_253 (L.sh (x := (8, 5)) rfl) (by decide) (by decide) rfl (L.rf 98 rfl) (x_iload (dA d_Sm_define 67 rfl) rfl (x_iconst (dA d_Sm_define 68 rfl) hq))))) ?_
    refine z_gd (fun g11 => ?_)
    refine z_go (fun Q hq => x_imul (dA d_Sm_define 69 rfl) (x_iload (dA d_Sm_define 70 rfl) rfl hq)) ?_
    refine z_gd (fun g12 => ?_)
    refine z_go (fun Q hq => x_iadd (dA d_Sm_define 71 rfl) (x_aload_n (dA d_Sm_define 72 rfl) rfl rfl (x_getR (dA d_Sm_define 73 rfl) f_Sm_52 (L.sh (x := (10, 12)) rfl) (by decide) (by decide) rfl (L.rf 91 rfl) (x_iconst (dA d_Sm_define 74 rfl) (x_iconst (dA d_Sm_define 75 rfl) (x_iload (dA d_Sm_define 76 rfl) rfl hq)))))) ?_
    refine z_gd (fun g13 => ?_)
    refine z_go (fun Q hq => x_imul (dA d_Sm_define 77 rfl) hq) ?_
    refine z_gd (fun g14 => ?_)
    refine z_go (fun Q hq => x_iadd (dA d_Sm_define 78 rfl) hq) ?_
    refine z_gd (fun g15 => ?_)
    refine z_go (fun Q hq => x_lald (dA d_Sm_define 79 rfl) (L.sh (x := (103, 400)) rfl) g15.1 g15.2 (by decide) hq) ?_
    refine z_gd (fun g16 => ?_)
    refine z_sto Ext.pl (fun Q hq => x_last (dA d_Sm_define 80 rfl) (L.sh (x := (103, 24)) rfl) g16.1 g16.2 (by decide) hq) (fun h17 e18 => ?_)
    have L19 := L.ext e18
    refine z_gd (fun g20 => ?_)
    refine z_go (fun Q hq => x_iinc (dA d_Sm_define 81 rfl) rfl (by decide) rfl (x_goto (dA d_Sm_define 82 rfl) rfl hq)) ?_
    exact hG111 v1 v2 v3 v4 (v5 + (1 : Int)) h17 L19 rv1 rv2 rv3 rv4 g20
noncomputable def F_Sm_define_111 (v1 : Int) (v2 : Int) (v3 : Int) (v4 : Int) (v5 : Int) (h : MH) : RS Unit := itr (fun self (q : Int × Int × Int × Int × Int × MH) => F_Sm_define_111_b (fun v1 v2 v3 v4 v5 h => self (v1, v2, v3, v4, v5, h)) q.1 q.2.1 q.2.2.1 q.2.2.2.1 q.2.2.2.2.1 q.2.2.2.2.2) FU (v1, v2, v3, v4, v5, h)
theorem S_Sm_define_111 {d : Nat} (hd : 3 ≤ d) {v1 : Int} {v2 : Int} {v3 : Int} {v4 : Int} {v5 : Int} {h : MH} (L : LayC h) (rv1 : inR v1) (rv2 : inR v2) (rv3 : inR v3) (rv4 : inR v4) (rv5 : inR v5) : OK d k_Sm_define 111 [mR 86, mI v1, mI v2, mI v3, mI v4, mI v5] [] h cV pT (F_Sm_define_111  v1 v2 v3 v4 v5 h) := by
  unfold F_Sm_define_111
  refine z_itr (P := fun q : Int × Int × Int × Int × Int × MH => LayC q.2.2.2.2.2 ∧ inR q.1 ∧ inR q.2.1 ∧ inR q.2.2.1 ∧ inR q.2.2.2.1 ∧ inR q.2.2.2.2.1 ∧ True) (ls := fun q : Int × Int × Int × Int × Int × MH => [mR 86, mI q.1, mI q.2.1, mI q.2.2.1, mI q.2.2.2.1, mI q.2.2.2.2.1]) (hp := fun q : Int × Int × Int × Int × Int × MH => q.2.2.2.2.2) (fun self hs q hq => ?_) FU (v1, v2, v3, v4, v5, h) ⟨L, rv1, rv2, rv3, rv4, rv5, trivial⟩
  exact S_Sm_define_111_b hd (fun v1 v2 v3 v4 v5 h L rv1 rv2 rv3 rv4 rv5 => hs (v1, v2, v3, v4, v5, h) ⟨L, rv1, rv2, rv3, rv4, rv5, trivial⟩) hq.1 hq.2.1 hq.2.2.1 hq.2.2.2.1 hq.2.2.2.2.1 hq.2.2.2.2.2.1
noncomputable def F_Sm_define_81 (v1 : Int) (v2 : Int) (v3 : Int) (v4 : Int) (h : MH) : RS Unit := gd (0 ≤ (2 : Int) ∧ (2 : Int) < 400) (gd (0 ≤ v4 ∧ v4 < 8) (sto (mPl h 90 v4.toNat (mGl h 103 (2 : Int).toNat)) fun h23 => sto (mPi h23 91 v4.toNat v1) fun h26 => F_Sm_define_111 v1 v2 v3 v4 (0 : Int) h26))
theorem S_Sm_define_81 {d : Nat} (hd : 3 ≤ d) {v1 : Int} {v2 : Int} {v3 : Int} {v4 : Int} {h : MH} (L : LayC h) (rv1 : inR v1) (rv2 : inR v2) (rv3 : inR v3) (rv4 : inR v4) : OK d k_Sm_define 81 [mR 86, mI v1, mI v2, mI v3, mI v4, mN] [] h cV pT (F_Sm_define_81  v1 v2 v3 v4 h) := by
  unfold F_Sm_define_81
  refine z_go (fun Q hq => x_aload_n (dA d_Sm_define 44 rfl) rfl rfl (x_getR (dA d_Sm_define 45 rfl) f_Sm_21 (L.sh (x := (10, 12)) rfl) (by decide) (by decide) rfl (L.rf 87 rfl) (x_getR (dA d_Sm_define 46 rfl) f_Sm_239 (L.sh (x := (8, 5)) rfl) (by decide) (by decide) rfl (L.rf 96 rfl) (x_iload (dA d_Sm_define 47 rfl) rfl (x_aload_n (dA d_Sm_define 48 rfl) rfl rfl (x_getR (dA d_Sm_define 49 rfl) f_Sm_52 (L.sh (x := (10, 12)) rfl) (by decide) (by decide) rfl (L.rf 91 rfl) (x_iconst (dA d_Sm_define 50 rfl) hq))))))) ?_
  refine z_gd (fun g21 => ?_)
  refine z_go (fun Q hq => x_lald (dA d_Sm_define 51 rfl) (L.sh (x := (103, 400)) rfl) g21.1 g21.2 (by decide) hq) ?_
  refine z_gd (fun g22 => ?_)
  refine z_sto Ext.pl (fun Q hq => x_last (dA d_Sm_define 52 rfl) (L.sh (x := (103, 8)) rfl) g22.1 g22.2 (by decide) hq) (fun h23 e24 => ?_)
  have L25 := L.ext e24
  refine z_go (fun Q hq => x_aload_n (dA d_Sm_define 53 rfl) rfl rfl (x_getR (dA d_Sm_define 54 rfl) f_Sm_21 (L25.sh (x := (10, 12)) rfl) (by decide) (by decide) rfl (L25.rf 87 rfl) (x_getR (dA d_Sm_define 55 rfl) f_Sm_249 (L25.sh (x := (8, 5)) rfl) (by decide) (by decide) rfl (L25.rf 97 rfl) (x_iload (dA d_Sm_define 56 rfl) rfl (x_iload_n (dA d_Sm_define 57 rfl) rfl rfl hq))))) ?_
  refine z_sto (Ext.pi (L25.sh (x := (100, 8)) rfl) (by decide) rv1) (fun Q hq => x_iast (dA d_Sm_define 58 rfl) (L25.sh (x := (100, 8)) rfl) g22.1 g22.2 (by decide) hq) (fun h26 e27 => ?_)
  have L28 := L25.ext e27
  refine z_go (fun Q hq => x_iconst (dA d_Sm_define 59 rfl) (x_istore (dA d_Sm_define 60 rfl) (by decide) rfl hq)) ?_
  exact S_Sm_define_111 hd  L28 rv1 rv2 rv3 rv4 (inR_lit (0 : Int) rfl)
noncomputable def F_Sm_define_73 (v1 : Int) (v2 : Int) (v3 : Int) (v4 : Int) (h : MH) : RS Unit := bnd (F_To_fail (1 : Int) h) fun x31 h29 => F_Sm_define_81 v1 v2 v3 v4 h29
theorem S_Sm_define_73 {d : Nat} (hd : 3 ≤ d) {v1 : Int} {v2 : Int} {v3 : Int} {v4 : Int} {h : MH} (L : LayC h) (rv1 : inR v1) (rv2 : inR v2) (rv3 : inR v3) (rv4 : inR v4) : OK d k_Sm_define 73 [mR 86, mI v1, mI v2, mI v3, mI v4, mN] [] h cV pT (F_Sm_define_73  v1 v2 v3 v4 h) := by
  unfold F_Sm_define_73
  refine z_go (fun Q hq => x_aload_n (dA d_Sm_define 40 rfl) rfl rfl (x_getR (dA d_Sm_define 41 rfl) f_Sm_12 (L.sh (x := (10, 12)) rfl) (by decide) (by decide) rfl (L.rf 86 rfl) (x_iconst (dA d_Sm_define 42 rfl) hq))) ?_
  refine z_bnd (rest := []) (st1 := fun _ => []) (S_To_fail (d := 0) (Nat.le_refl _) L (inR_lit (1 : Int) rfl)) (fun _ hx => absurd hx List.not_mem_nil) (fun _ => rfl) (fun Q' Q => x_callV (as := [mI (1 : Int)]) (rest := []) (k' := k_To_fail) (dA d_Sm_define 43 rfl) o_To_fail lk_Sm_106 im_To_fail se_To_fail rfl (L.sh (x := (11, 3)) rfl) (by decide) (Nat.le_of_ble_eq_true rfl) (Nat.le_trans (Nat.le_of_ble_eq_true rfl) hd) (Nat.le_of_ble_eq_true rfl)) (fun x31 h29 e30 p32 => ?_)
  have L33 := L.ext e30
  exact S_Sm_define_81 hd  L33 rv1 rv2 rv3 rv4
noncomputable def F_Sm_define_62 (v1 : Int) (v2 : Int) (v3 : Int) (v4 : Int) (h : MH) : RS Unit := if v4 < 0 then F_Sm_define_73 v1 v2 v3 v4 h else if v3 ≤ (12 : Int) then F_Sm_define_81 v1 v2 v3 v4 h else F_Sm_define_73 v1 v2 v3 v4 h
theorem S_Sm_define_62 {d : Nat} (hd : 3 ≤ d) {v1 : Int} {v2 : Int} {v3 : Int} {v4 : Int} {h : MH} (L : LayC h) (rv1 : inR v1) (rv2 : inR v2) (rv3 : inR v3) (rv4 : inR v4) : OK d k_Sm_define 62 [mR 86, mI v1, mI v2, mI v3, mI v4, mN] [] h cV pT (F_Sm_define_62  v1 v2 v3 v4 h) := by
  unfold F_Sm_define_62
  refine z_go (fun Q hq => x_iload (dA d_Sm_define 35 rfl) rfl hq) ?_
  refine z_br (fun Q => x_if_lt (dA d_Sm_define 36 rfl) rfl rv4) (fun c34 => ?_) (fun c34 => ?_)
  · exact S_Sm_define_73 hd  L rv1 rv2 rv3 rv4
  · refine z_go (fun Q hq => x_iload_n (dA d_Sm_define 37 rfl) rfl rfl (x_bipush (dA d_Sm_define 38 rfl) (by decide) hq)) ?_
    refine z_br (fun Q => x_icmp_le (dA d_Sm_define 39 rfl) rfl rv3 (inR_lit (12 : Int) rfl)) (fun c35 => ?_) (fun c35 => ?_)
    · exact S_Sm_define_81 hd  L rv1 rv2 rv3 rv4
    · exact S_Sm_define_73 hd  L rv1 rv2 rv3 rv4
noncomputable def F_Sm_define_21 (v1 : Int) (s0 : Int) (h : MH) : RS Unit := gd (inR ((mGi h 86 6) - s0)) (gd (0 ≤ (2 : Int) ∧ (2 : Int) < 400) (bnd (F_Na_find (mGl h 103 (2 : Int).toNat) h) fun x40 h38 => if 0 ≤ x40 then F_Sm_define_62 v1 s0 ((mGi h 86 6) - s0) x40 h38 else bnd (F_Na_freePlace h38) fun x46 h44 => F_Sm_define_62 v1 s0 ((mGi h 86 6) - s0) x46 h44))
theorem S_Sm_define_21 {d : Nat} (hd : 3 ≤ d) {v1 : Int} {s0 : Int} {h : MH} (L : LayC h) (rv1 : inR v1) (rs0 : inR s0) : OK d k_Sm_define 21 [mR 86, mI v1, mN, mN, mN, mN] [mI s0] h cV pT (F_Sm_define_21  v1 s0 h) := by
  unfold F_Sm_define_21
  refine z_go (fun Q hq => x_istore_n (dA d_Sm_define 13 rfl) rfl (by decide) rfl (x_aload_n (dA d_Sm_define 14 rfl) rfl rfl (x_getI (dA d_Sm_define 15 rfl) f_Sm_109 (L.sh (x := (10, 12)) rfl) (by decide) (by decide) rfl (x_iload_n (dA d_Sm_define 16 rfl) rfl rfl hq)))) ?_
  refine z_gd (fun g36 => ?_)
  refine z_go (fun Q hq => x_isub (dA d_Sm_define 17 rfl) (x_istore_n (dA d_Sm_define 18 rfl) rfl (by decide) rfl (x_aload_n (dA d_Sm_define 19 rfl) rfl rfl (x_getR (dA d_Sm_define 20 rfl) f_Sm_21 (L.sh (x := (10, 12)) rfl) (by decide) (by decide) rfl (L.rf 87 rfl) (x_aload_n (dA d_Sm_define 21 rfl) rfl rfl (x_getR (dA d_Sm_define 22 rfl) f_Sm_12 (L.sh (x := (10, 12)) rfl) (by decide) (by decide) rfl (L.rf 86 rfl) (x_aload_n (dA d_Sm_define 23 rfl) rfl rfl (x_getR (dA d_Sm_define 24 rfl) f_Sm_52 (L.sh (x := (10, 12)) rfl) (by decide) (by decide) rfl (L.rf 91 rfl) (x_iconst (dA d_Sm_define 25 rfl) hq))))))))) ?_
  refine z_gd (fun g37 => ?_)
  refine z_go (fun Q hq => x_lald (dA d_Sm_define 26 rfl) (L.sh (x := (103, 400)) rfl) g37.1 g37.2 (by decide) hq) ?_
  refine z_bnd (rest := []) (st1 := fun v => mI v :: []) (S_Na_find (d := 2) (Nat.le_refl _) L ) (fun _ hx => absurd hx List.not_mem_nil) (fun _ => rfl) (fun Q' Q => x_callV (as := [mR 87, mL (mGl h 103 (2 : Int).toNat)]) (rest := []) (k' := k_Na_find) (dA d_Sm_define 27 rfl) o_Na_find lk_Sm_235 im_Na_find se_Na_find rfl (L.sh (x := (8, 5)) rfl) (by decide) (Nat.le_of_ble_eq_true rfl) (Nat.le_trans (Nat.le_of_ble_eq_true rfl) hd) (Nat.le_of_ble_eq_true rfl)) (fun x40 h38 e39 p41 => ?_)
  have L42 := L.ext e39
  refine z_go (fun Q hq => x_istore (dA d_Sm_define 28 rfl) (by decide) rfl (x_iload (dA d_Sm_define 29 rfl) rfl hq)) ?_
  refine z_br (fun Q => x_if_ge (dA d_Sm_define 30 rfl) rfl p41) (fun c43 => ?_) (fun c43 => ?_)
  · exact S_Sm_define_62 hd  L42 rv1 rs0 g36 p41
  · refine z_go (fun Q hq => x_aload_n (dA d_Sm_define 31 rfl) rfl rfl (x_getR (dA d_Sm_define 32 rfl) f_Sm_21 (L42.sh (x := (10, 12)) rfl) (by decide) (by decide) rfl (L42.rf 87 rfl) hq)) ?_
    refine z_bnd (rest := []) (st1 := fun v => mI v :: []) (S_Na_freePlace (d := 0) (Nat.le_refl _) L42 ) (fun _ hx => absurd hx List.not_mem_nil) (fun _ => rfl) (fun Q' Q => x_callV (as := []) (rest := []) (k' := k_Na_freePlace) (dA d_Sm_define 33 rfl) o_Na_freePlace lk_Sm_246 im_Na_freePlace se_Na_freePlace rfl (L42.sh (x := (8, 5)) rfl) (by decide) (Nat.le_of_ble_eq_true rfl) (Nat.le_trans (Nat.le_of_ble_eq_true rfl) hd) (Nat.le_of_ble_eq_true rfl)) (fun x46 h44 e45 p47 => ?_)
    have L48 := L42.ext e45
    refine z_go (fun Q hq => x_istore (dA d_Sm_define 34 rfl) (by decide) rfl hq) ?_
    exact S_Sm_define_62 hd  L48 rv1 rs0 g36 p47
noncomputable def F_Sm_define (a1 : Int) (h : MH) : RS Unit := if 0 ≤ a1 then if a1 = 0 then F_Sm_define_21 a1 (5 : Int) h else gd (inR ((2 : Int) * a1)) (gd (inR ((4 : Int) + ((2 : Int) * a1))) (F_Sm_define_21 a1 ((4 : Int) + ((2 : Int) * a1)) h)) else F_Sm_define_21 a1 (3 : Int) h
theorem S_Sm_define {d : Nat} (hd : 3 ≤ d) {a1 : Int} {h : MH} (L : LayC h) (ra1 : inR a1) : OK d k_Sm_define 0 [mR 86, mI a1, mN, mN, mN, mN] [] h cV pT (F_Sm_define  a1 h) := by
  unfold F_Sm_define
  refine z_go (fun Q hq => x_iload_n (dA d_Sm_define 0 rfl) rfl rfl hq) ?_
  refine z_br (fun Q => x_if_ge (dA d_Sm_define 1 rfl) rfl ra1) (fun c49 => ?_) (fun c49 => ?_)
  · refine z_go (fun Q hq => x_iload_n (dA d_Sm_define 4 rfl) rfl rfl hq) ?_
    refine z_brn (fun Q => x_if_ne (dA d_Sm_define 5 rfl) rfl ra1) (fun c50 => ?_) (fun c50 => ?_)
    · refine z_go (fun Q hq => x_iconst (dA d_Sm_define 6 rfl) (x_goto (dA d_Sm_define 7 rfl) rfl hq)) ?_
      exact S_Sm_define_21 hd  L ra1 (inR_lit (5 : Int) rfl)
    · refine z_go (fun Q hq => x_iconst (dA d_Sm_define 8 rfl) (x_iconst (dA d_Sm_define 9 rfl) (x_iload_n (dA d_Sm_define 10 rfl) rfl rfl hq))) ?_
      refine z_gd (fun g51 => ?_)
      refine z_go (fun Q hq => x_imul (dA d_Sm_define 11 rfl) hq) ?_
      refine z_gd (fun g52 => ?_)
      refine z_go (fun Q hq => x_iadd (dA d_Sm_define 12 rfl) hq) ?_
      exact S_Sm_define_21 hd  L ra1 g52
  · refine z_go (fun Q hq => x_iconst (dA d_Sm_define 2 rfl) (x_goto (dA d_Sm_define 3 rfl) rfl hq)) ?_
    exact S_Sm_define_21 hd  L ra1 (inR_lit (3 : Int) rfl)
/-! TwoMills$SecondMill.hasBracketAtWord()Z -/
noncomputable def F_Sm_hasBracketAtWord_47 (h : MH) : RS Int := some (.inl (0 : Int), h)
theorem S_Sm_hasBracketAtWord_47 {d : Nat} (hd : 3 ≤ d) {h : MH} (L : LayC h) : OK d k_Sm_hasBracketAtWord 47 [mN, mN] [] h cI p01 (F_Sm_hasBracketAtWord_47   h) := by
  unfold F_Sm_hasBracketAtWord_47
  refine z_go (fun Q hq => x_iconst (dA d_Sm_hasBracketAtWord 26 rfl) hq) ?_
  exact z_retz (dA d_Sm_hasBracketAtWord 27 rfl) rfl (.inl rfl)
noncomputable def F_Sm_hasBracketAtWord (h : MH) : RS Int := gd (0 ≤ (2 : Int) ∧ (2 : Int) < 400) (bnd (F_To_start (mGl h 103 (2 : Int).toNat) h) fun x4 h2 => bnd (F_To_length (mGl h2 103 (2 : Int).toNat) h2) fun x9 h7 => gd (inR (x4 + x9)) (bnd (F_Sm_isSignAt (3 : Int) (40 : Int) h7) fun x15 h13 => if x15 = 0 then F_Sm_hasBracketAtWord_47  h13 else gd (0 ≤ (3 : Int) ∧ (3 : Int) < 400) (bnd (F_To_start (mGl h13 103 (3 : Int).toNat) h13) fun x22 h20 => if x22 = (x4 + x9) then some (.inl (1 : Int), h20) else F_Sm_hasBracketAtWord_47  h20)))
theorem S_Sm_hasBracketAtWord {d : Nat} (hd : 3 ≤ d) {h : MH} (L : LayC h) : OK d k_Sm_hasBracketAtWord 0 [mR 86, mN] [] h cI p01 (F_Sm_hasBracketAtWord   h) := by
  unfold F_Sm_hasBracketAtWord
  refine z_go (fun Q hq => x_aload_n (dA d_Sm_hasBracketAtWord 0 rfl) rfl rfl (x_getR (dA d_Sm_hasBracketAtWord 1 rfl) f_Sm_52 (L.sh (x := (10, 12)) rfl) (by decide) (by decide) rfl (L.rf 91 rfl) (x_iconst (dA d_Sm_hasBracketAtWord 2 rfl) hq))) ?_
  refine z_gd (fun g1 => ?_)
  refine z_go (fun Q hq => x_lald (dA d_Sm_hasBracketAtWord 3 rfl) (L.sh (x := (103, 400)) rfl) g1.1 g1.2 (by decide) hq) ?_
  refine z_bnd (rest := []) (st1 := fun v => mI v :: []) (S_To_start (d := 0) (Nat.le_refl _) L ) (fun _ hx => absurd hx List.not_mem_nil) (fun _ => rfl) (fun Q' Q => x_callS (as := [mL (mGl h 103 (2 : Int).toNat)]) (rest := []) (k' := k_To_start) (dA d_Sm_hasBracketAtWord 4 rfl) o_To_start lk_Sm_170 st_To_start (Nat.le_of_ble_eq_true rfl) (Nat.le_trans (Nat.le_of_ble_eq_true rfl) hd) (Nat.le_of_ble_eq_true rfl)) (fun x4 h2 e3 p5 => ?_)
  have L6 := L.ext e3
  refine z_go (fun Q hq => x_aload_n (dA d_Sm_hasBracketAtWord 5 rfl) rfl rfl (x_getR (dA d_Sm_hasBracketAtWord 6 rfl) f_Sm_52 (L6.sh (x := (10, 12)) rfl) (by decide) (by decide) rfl (L6.rf 91 rfl) (x_iconst (dA d_Sm_hasBracketAtWord 7 rfl) (x_lald (dA d_Sm_hasBracketAtWord 8 rfl) (L6.sh (x := (103, 400)) rfl) g1.1 g1.2 (by decide) hq)))) ?_
  refine z_bnd (rest := [mI x4]) (st1 := fun v => mI v :: [mI x4]) (S_To_length (d := 0) (Nat.le_refl _) L6 ) (fun _ hx => absurd hx List.not_mem_nil) (fun _ => rfl) (fun Q' Q => x_callS (as := [mL (mGl h2 103 (2 : Int).toNat)]) (rest := [mI x4]) (k' := k_To_length) (dA d_Sm_hasBracketAtWord 9 rfl) o_To_length lk_Sm_116 st_To_length (Nat.le_of_ble_eq_true rfl) (Nat.le_trans (Nat.le_of_ble_eq_true rfl) hd) (Nat.le_of_ble_eq_true rfl)) (fun x9 h7 e8 p10 => ?_)
  have L11 := L6.ext e8
  refine z_gd (fun g12 => ?_)
  refine z_go (fun Q hq => x_iadd (dA d_Sm_hasBracketAtWord 10 rfl) (x_istore_n (dA d_Sm_hasBracketAtWord 11 rfl) rfl (by decide) rfl (x_aload_n (dA d_Sm_hasBracketAtWord 12 rfl) rfl rfl (x_iconst (dA d_Sm_hasBracketAtWord 13 rfl) (x_bipush (dA d_Sm_hasBracketAtWord 14 rfl) (by decide) hq))))) ?_
  refine z_bnd (rest := []) (st1 := fun v => mI v :: []) (S_Sm_isSignAt (d := 2) (Nat.le_refl _) L11 (inR_lit (3 : Int) rfl) (ch_lit (40 : Int) rfl)) (fun _ hx => absurd hx List.not_mem_nil) (fun _ => rfl) (fun Q' Q => x_callV (as := [mI (3 : Int), mI (40 : Int)]) (rest := []) (k' := k_Sm_isSignAt) (dA d_Sm_hasBracketAtWord 15 rfl) o_Sm_isSignAt lk_Sm_125 im_Sm_isSignAt se_Sm_isSignAt rfl (L11.sh (x := (10, 12)) rfl) (by decide) (Nat.le_of_ble_eq_true rfl) (Nat.le_trans (Nat.le_of_ble_eq_true rfl) hd) (Nat.le_of_ble_eq_true rfl)) (fun x15 h13 e14 p16 => ?_)
  have L17 := L11.ext e14
  refine z_br (fun Q => x_if_eq (dA d_Sm_hasBracketAtWord 16 rfl) rfl p16.inR) (fun c18 => ?_) (fun c18 => ?_)
  · refine z_fgt (ls' := [mN, mN]) ⟨.inl rfl, .inl rfl, trivial⟩ ?_
    exact S_Sm_hasBracketAtWord_47 hd  L17 
  · refine z_go (fun Q hq => x_aload_n (dA d_Sm_hasBracketAtWord 17 rfl) rfl rfl (x_getR (dA d_Sm_hasBracketAtWord 18 rfl) f_Sm_52 (L17.sh (x := (10, 12)) rfl) (by decide) (by decide) rfl (L17.rf 91 rfl) (x_iconst (dA d_Sm_hasBracketAtWord 19 rfl) hq))) ?_
    refine z_gd (fun g19 => ?_)
    refine z_go (fun Q hq => x_lald (dA d_Sm_hasBracketAtWord 20 rfl) (L17.sh (x := (103, 400)) rfl) g19.1 g19.2 (by decide) hq) ?_
    refine z_bnd (rest := []) (st1 := fun v => mI v :: []) (S_To_start (d := 0) (Nat.le_refl _) L17 ) (fun _ hx => absurd hx List.not_mem_nil) (fun _ => rfl) (fun Q' Q => x_callS (as := [mL (mGl h13 103 (3 : Int).toNat)]) (rest := []) (k' := k_To_start) (dA d_Sm_hasBracketAtWord 21 rfl) o_To_start lk_Sm_170 st_To_start (Nat.le_of_ble_eq_true rfl) (Nat.le_trans (Nat.le_of_ble_eq_true rfl) hd) (Nat.le_of_ble_eq_true rfl)) (fun x22 h20 e21 p23 => ?_)
    have L24 := L17.ext e21
    refine z_go (fun Q hq => x_iload_n (dA d_Sm_hasBracketAtWord 22 rfl) rfl rfl hq) ?_
    refine z_brn (fun Q => x_icmp_ne (dA d_Sm_hasBracketAtWord 23 rfl) rfl p23 g12) (fun c25 => ?_) (fun c25 => ?_)
    · refine z_go (fun Q hq => x_iconst (dA d_Sm_hasBracketAtWord 24 rfl) (x_goto (dA d_Sm_hasBracketAtWord 25 rfl) rfl hq)) ?_
      exact z_retz (dA d_Sm_hasBracketAtWord 27 rfl) rfl (.inr rfl)
    · refine z_fgt (ls' := [mN, mN]) ⟨.inl rfl, .inl rfl, trivial⟩ ?_
      exact S_Sm_hasBracketAtWord_47 hd  L24 
/-! TwoMills$SecondMill.undefine()V -/
noncomputable def F_Sm_undefine_22 (s1 : Int) (h : MH) : RS Unit := gd (p01 s1) (bnd (F_Sm_require s1 h) fun x4 h2 => gd (0 ≤ (2 : Int) ∧ (2 : Int) < 400) (bnd (F_Na_find (mGl h2 103 (2 : Int).toNat) h2) fun x10 h8 => if x10 < 0 then some (.inl (), h8) else gd (0 ≤ x10 ∧ x10 < 8) (sto (mPl h8 90 x10.toNat (0 : Int64)) fun h15 => some (.inl (), h15))))
theorem S_Sm_undefine_22 {d : Nat} (hd : 3 ≤ d) {s1 : Int} {h : MH} (L : LayC h) (rs1 : inR s1) : OK d k_Sm_undefine 22 [mR 86, mN] [mI s1, mR 86] h cV pT (F_Sm_undefine_22  s1 h) := by
  unfold F_Sm_undefine_22
  refine z_gd (fun g1 => ?_)
  refine z_bnd (rest := []) (st1 := fun _ => []) (S_Sm_require (d := 1) (Nat.le_refl _) L g1) (fun _ hx => absurd hx List.not_mem_nil) (fun _ => rfl) (fun Q' Q => x_callV (as := [mI s1]) (rest := []) (k' := k_Sm_require) (dA d_Sm_undefine 12 rfl) o_Sm_require lk_Sm_145 im_Sm_require se_Sm_require rfl (L.sh (x := (10, 12)) rfl) (by decide) (Nat.le_of_ble_eq_true rfl) (Nat.le_trans (Nat.le_of_ble_eq_true rfl) hd) (Nat.le_of_ble_eq_true rfl)) (fun x4 h2 e3 p5 => ?_)
  have L6 := L.ext e3
  refine z_go (fun Q hq => x_aload_n (dA d_Sm_undefine 13 rfl) rfl rfl (x_getR (dA d_Sm_undefine 14 rfl) f_Sm_21 (L6.sh (x := (10, 12)) rfl) (by decide) (by decide) rfl (L6.rf 87 rfl) (x_aload_n (dA d_Sm_undefine 15 rfl) rfl rfl (x_getR (dA d_Sm_undefine 16 rfl) f_Sm_12 (L6.sh (x := (10, 12)) rfl) (by decide) (by decide) rfl (L6.rf 86 rfl) (x_aload_n (dA d_Sm_undefine 17 rfl) rfl rfl (x_getR (dA d_Sm_undefine 18 rfl) f_Sm_52 (L6.sh (x := (10, 12)) rfl) (by decide) (by decide) rfl (L6.rf 91 rfl) (x_iconst (dA d_Sm_undefine 19 rfl) hq))))))) ?_
  refine z_gd (fun g7 => ?_)
  refine z_go (fun Q hq => x_lald (dA d_Sm_undefine 20 rfl) (L6.sh (x := (103, 400)) rfl) g7.1 g7.2 (by decide) hq) ?_
  refine z_bnd (rest := []) (st1 := fun v => mI v :: []) (S_Na_find (d := 2) (Nat.le_refl _) L6 ) (fun _ hx => absurd hx List.not_mem_nil) (fun _ => rfl) (fun Q' Q => x_callV (as := [mR 87, mL (mGl h2 103 (2 : Int).toNat)]) (rest := []) (k' := k_Na_find) (dA d_Sm_undefine 21 rfl) o_Na_find lk_Sm_235 im_Na_find se_Na_find rfl (L6.sh (x := (8, 5)) rfl) (by decide) (Nat.le_of_ble_eq_true rfl) (Nat.le_trans (Nat.le_of_ble_eq_true rfl) hd) (Nat.le_of_ble_eq_true rfl)) (fun x10 h8 e9 p11 => ?_)
  have L12 := L6.ext e9
  refine z_go (fun Q hq => x_istore_n (dA d_Sm_undefine 22 rfl) rfl (by decide) rfl (x_iload_n (dA d_Sm_undefine 23 rfl) rfl rfl hq)) ?_
  refine z_br (fun Q => x_if_lt (dA d_Sm_undefine 24 rfl) rfl p11) (fun c13 => ?_) (fun c13 => ?_)
  · exact z_retv (dA d_Sm_undefine 31 rfl) rfl
  · refine z_go (fun Q hq => x_aload_n (dA d_Sm_undefine 25 rfl) rfl rfl (x_getR (dA d_Sm_undefine 26 rfl) f_Sm_21 (L12.sh (x := (10, 12)) rfl) (by decide) (by decide) rfl (L12.rf 87 rfl) (x_getR (dA d_Sm_undefine 27 rfl) f_Sm_239 (L12.sh (x := (8, 5)) rfl) (by decide) (by decide) rfl (L12.rf 96 rfl) (x_iload_n (dA d_Sm_undefine 28 rfl) rfl rfl (x_lconst (v := 0) (dA d_Sm_undefine 29 rfl) rfl hq))))) ?_
    refine z_gd (fun g14 => ?_)
    refine z_sto Ext.pl (fun Q hq => x_last (dA d_Sm_undefine 30 rfl) (L12.sh (x := (103, 8)) rfl) g14.1 g14.2 (by decide) hq) (fun h15 e16 => ?_)
    have L17 := L12.ext e16
    exact z_retv (dA d_Sm_undefine 31 rfl) rfl
noncomputable def F_Sm_undefine_21 (h : MH) : RS Unit := F_Sm_undefine_22 (0 : Int) h
theorem S_Sm_undefine_21 {d : Nat} (hd : 3 ≤ d) {h : MH} (L : LayC h) : OK d k_Sm_undefine 21 [mR 86, mN] [mR 86] h cV pT (F_Sm_undefine_21   h) := by
  unfold F_Sm_undefine_21
  refine z_go (fun Q hq => x_iconst (dA d_Sm_undefine 11 rfl) hq) ?_
  exact S_Sm_undefine_22 hd  L (inR_lit (0 : Int) rfl)
noncomputable def F_Sm_undefine (h : MH) : RS Unit := bnd (F_Sm_isWordAt (2 : Int) h) fun x20 h18 => if x20 = 0 then F_Sm_undefine_21  h18 else if (mGi h18 86 6) = (3 : Int) then F_Sm_undefine_22 (1 : Int) h18 else F_Sm_undefine_21  h18
theorem S_Sm_undefine {d : Nat} (hd : 3 ≤ d) {h : MH} (L : LayC h) : OK d k_Sm_undefine 0 [mR 86, mN] [] h cV pT (F_Sm_undefine   h) := by
  unfold F_Sm_undefine
  refine z_go (fun Q hq => x_aload_n (dA d_Sm_undefine 0 rfl) rfl rfl (x_aload_n (dA d_Sm_undefine 1 rfl) rfl rfl (x_iconst (dA d_Sm_undefine 2 rfl) hq))) ?_
  refine z_bnd (rest := [mR 86]) (st1 := fun v => mI v :: [mR 86]) (S_Sm_isWordAt (d := 1) (Nat.le_refl _) L (inR_lit (2 : Int) rfl)) (fun _ hx => absurd hx List.not_mem_nil) (fun _ => rfl) (fun Q' Q => x_callV (as := [mI (2 : Int)]) (rest := [mR 86]) (k' := k_Sm_isWordAt) (dA d_Sm_undefine 3 rfl) o_Sm_isWordAt lk_Sm_129 im_Sm_isWordAt se_Sm_isWordAt rfl (L.sh (x := (10, 12)) rfl) (by decide) (Nat.le_of_ble_eq_true rfl) (Nat.le_trans (Nat.le_of_ble_eq_true rfl) hd) (Nat.le_of_ble_eq_true rfl)) (fun x20 h18 e19 p21 => ?_)
  have L22 := L.ext e19
  refine z_br (fun Q => x_if_eq (dA d_Sm_undefine 4 rfl) rfl p21.inR) (fun c23 => ?_) (fun c23 => ?_)
  · exact S_Sm_undefine_21 hd  L22 
  · refine z_go (fun Q hq => x_aload_n (dA d_Sm_undefine 5 rfl) rfl rfl (x_getI (dA d_Sm_undefine 6 rfl) f_Sm_109 (L22.sh (x := (10, 12)) rfl) (by decide) (by decide) rfl (x_iconst (dA d_Sm_undefine 7 rfl) hq))) ?_
    refine z_brn (fun Q => x_icmp_ne (dA d_Sm_undefine 8 rfl) rfl (L22.rg _ _) (inR_lit (3 : Int) rfl)) (fun c24 => ?_) (fun c24 => ?_)
    · refine z_go (fun Q hq => x_iconst (dA d_Sm_undefine 9 rfl) (x_goto (dA d_Sm_undefine 10 rfl) rfl hq)) ?_
      exact S_Sm_undefine_22 hd  L22 (inR_lit (1 : Int) rfl)
    · exact S_Sm_undefine_21 hd  L22 
/-! TwoMills$SecondMill.takeOrder(J)V -/
noncomputable def F_Sm_takeOrder_238 (s1 : Int) (h : MH) : RS Unit := gd (p01 s1) (bnd (F_Sm_require s1 h) fun x4 h2 => bnd (F_Sm_endLevel h2) fun x9 h7 => some (.inl (), h7))
theorem S_Sm_takeOrder_238 {d : Nat} (hd : 91 ≤ d) {s1 : Int} {h : MH} (L : LayC h) (rs1 : inR s1) : OK d k_Sm_takeOrder 238 [mR 86, mN, mN, mN] [mI s1, mR 86] h cV pT (F_Sm_takeOrder_238  s1 h) := by
  unfold F_Sm_takeOrder_238
  refine z_gd (fun g1 => ?_)
  refine z_bnd (rest := []) (st1 := fun _ => []) (S_Sm_require (d := 1) (Nat.le_refl _) L g1) (fun _ hx => absurd hx List.not_mem_nil) (fun _ => rfl) (fun Q' Q => x_callV (as := [mI s1]) (rest := []) (k' := k_Sm_require) (dA d_Sm_takeOrder 117 rfl) o_Sm_require lk_Sm_145 im_Sm_require se_Sm_require rfl (L.sh (x := (10, 12)) rfl) (by decide) (Nat.le_of_ble_eq_true rfl) (Nat.le_trans (Nat.le_of_ble_eq_true rfl) hd) (Nat.le_of_ble_eq_true rfl)) (fun x4 h2 e3 p5 => ?_)
  have L6 := L.ext e3
  refine z_go (fun Q hq => x_aload_n (dA d_Sm_takeOrder 118 rfl) rfl rfl hq) ?_
  refine z_bnd (rest := []) (st1 := fun _ => []) (S_Sm_endLevel (d := 1) (Nat.le_refl _) L6 ) (fun _ hx => absurd hx List.not_mem_nil) (fun _ => rfl) (fun Q' Q => x_callV (as := []) (rest := []) (k' := k_Sm_endLevel) (dA d_Sm_takeOrder 119 rfl) o_Sm_endLevel lk_Sm_205 im_Sm_endLevel se_Sm_endLevel rfl (L6.sh (x := (10, 12)) rfl) (by decide) (Nat.le_of_ble_eq_true rfl) (Nat.le_trans (Nat.le_of_ble_eq_true rfl) hd) (Nat.le_of_ble_eq_true rfl)) (fun x9 h7 e8 p10 => ?_)
  have L11 := L6.ext e8
  exact z_retv (dA d_Sm_takeOrder 120 rfl) rfl
noncomputable def F_Sm_takeOrder_237 (h : MH) : RS Unit := F_Sm_takeOrder_238 (0 : Int) h
theorem S_Sm_takeOrder_237 {d : Nat} (hd : 91 ≤ d) {h : MH} (L : LayC h) : OK d k_Sm_takeOrder 237 [mR 86, mN, mN, mN] [mR 86] h cV pT (F_Sm_takeOrder_237   h) := by
  unfold F_Sm_takeOrder_237
  refine z_go (fun Q hq => x_iconst (dA d_Sm_takeOrder 116 rfl) hq) ?_
  exact S_Sm_takeOrder_238 hd  L (inR_lit (0 : Int) rfl)
noncomputable def F_Sm_takeOrder_201 (s1 : Int) (h : MH) : RS Unit := gd (p01 s1) (bnd (F_Sm_require s1 h) fun x15 h13 => bnd (F_Sm_turnLevel h13) fun x20 h18 => some (.inl (), h18))
theorem S_Sm_takeOrder_201 {d : Nat} (hd : 91 ≤ d) {s1 : Int} {h : MH} (L : LayC h) (rs1 : inR s1) : OK d k_Sm_takeOrder 201 [mR 86, mN, mN, mN] [mI s1, mR 86] h cV pT (F_Sm_takeOrder_201  s1 h) := by
  unfold F_Sm_takeOrder_201
  refine z_gd (fun g12 => ?_)
  refine z_bnd (rest := []) (st1 := fun _ => []) (S_Sm_require (d := 1) (Nat.le_refl _) L g12) (fun _ hx => absurd hx List.not_mem_nil) (fun _ => rfl) (fun Q' Q => x_callV (as := [mI s1]) (rest := []) (k' := k_Sm_require) (dA d_Sm_takeOrder 99 rfl) o_Sm_require lk_Sm_145 im_Sm_require se_Sm_require rfl (L.sh (x := (10, 12)) rfl) (by decide) (Nat.le_of_ble_eq_true rfl) (Nat.le_trans (Nat.le_of_ble_eq_true rfl) hd) (Nat.le_of_ble_eq_true rfl)) (fun x15 h13 e14 p16 => ?_)
  have L17 := L.ext e14
  refine z_go (fun Q hq => x_aload_n (dA d_Sm_takeOrder 100 rfl) rfl rfl hq) ?_
  refine z_bnd (rest := []) (st1 := fun _ => []) (S_Sm_turnLevel (d := 1) (Nat.le_refl _) L17 ) (fun _ hx => absurd hx List.not_mem_nil) (fun _ => rfl) (fun Q' Q => x_callV (as := []) (rest := []) (k' := k_Sm_turnLevel) (dA d_Sm_takeOrder 101 rfl) o_Sm_turnLevel lk_Sm_200 im_Sm_turnLevel se_Sm_turnLevel rfl (L17.sh (x := (10, 12)) rfl) (by decide) (Nat.le_of_ble_eq_true rfl) (Nat.le_trans (Nat.le_of_ble_eq_true rfl) hd) (Nat.le_of_ble_eq_true rfl)) (fun x20 h18 e19 p21 => ?_)
  have L22 := L17.ext e19
  refine z_go (fun Q hq => x_goto (dA d_Sm_takeOrder 102 rfl) rfl hq) ?_
  exact z_retv (dA d_Sm_takeOrder 120 rfl) rfl
noncomputable def F_Sm_takeOrder_125 (s1 : Int) (h : MH) : RS Unit := gd (p01 s1) (bnd (F_Sm_beginLevel s1 (0 : Int) h) fun x26 h24 => some (.inl (), h24))
theorem S_Sm_takeOrder_125 {d : Nat} (hd : 91 ≤ d) {s1 : Int} {h : MH} (L : LayC h) (rs1 : inR s1) : OK d k_Sm_takeOrder 125 [mN, mN, mN, mN] [mI s1, mR 86] h cV pT (F_Sm_takeOrder_125  s1 h) := by
  unfold F_Sm_takeOrder_125
  refine z_go (fun Q hq => x_iconst (dA d_Sm_takeOrder 62 rfl) hq) ?_
  refine z_gd (fun g23 => ?_)
  refine z_bnd (rest := []) (st1 := fun _ => []) (S_Sm_beginLevel (d := 0) (Nat.le_refl _) L g23 (.inl rfl)) (fun _ hx => absurd hx List.not_mem_nil) (fun _ => rfl) (fun Q' Q => x_callV (as := [mI s1, mI (0 : Int)]) (rest := []) (k' := k_Sm_beginLevel) (dA d_Sm_takeOrder 63 rfl) o_Sm_beginLevel lk_Sm_194 im_Sm_beginLevel se_Sm_beginLevel rfl (L.sh (x := (10, 12)) rfl) (by decide) (Nat.le_of_ble_eq_true rfl) (Nat.le_trans (Nat.le_of_ble_eq_true rfl) hd) (Nat.le_of_ble_eq_true rfl)) (fun x26 h24 e25 p27 => ?_)
  have L28 := L.ext e25
  refine z_go (fun Q hq => x_goto (dA d_Sm_takeOrder 64 rfl) rfl hq) ?_
  exact z_retv (dA d_Sm_takeOrder 120 rfl) rfl
noncomputable def F_Sm_takeOrder_38 (s1 : Int) (h : MH) : RS Unit := bnd (F_Sm_define s1 h) fun x31 h29 => some (.inl (), h29)
theorem S_Sm_takeOrder_38 {d : Nat} (hd : 91 ≤ d) {s1 : Int} {h : MH} (L : LayC h) (rs1 : inR s1) : OK d k_Sm_takeOrder 38 [mN, mN, mN, mN] [mI s1, mR 86] h cV pT (F_Sm_takeOrder_38  s1 h) := by
  unfold F_Sm_takeOrder_38
  refine z_bnd (rest := []) (st1 := fun _ => []) (S_Sm_define (d := 3) (Nat.le_refl _) L rs1) (fun _ hx => absurd hx List.not_mem_nil) (fun _ => rfl) (fun Q' Q => x_callV (as := [mI s1]) (rest := []) (k' := k_Sm_define) (dA d_Sm_takeOrder 19 rfl) o_Sm_define lk_Sm_218 im_Sm_define se_Sm_define rfl (L.sh (x := (10, 12)) rfl) (by decide) (Nat.le_of_ble_eq_true rfl) (Nat.le_trans (Nat.le_of_ble_eq_true rfl) hd) (Nat.le_of_ble_eq_true rfl)) (fun x31 h29 e30 p32 => ?_)
  have L33 := L.ext e30
  refine z_go (fun Q hq => x_goto (dA d_Sm_takeOrder 20 rfl) rfl hq) ?_
  exact z_retv (dA d_Sm_takeOrder 120 rfl) rfl
noncomputable def F_Sm_takeOrder (a1 : Int64) (h : MH) : RS Unit := bnd (F_To_is a1 1 h) fun x36 h34 => if x36 = 0 then bnd (F_To_is a1 14 h34) fun x42 h40 => if x42 = 0 then bnd (F_To_is a1 9 h40) fun x48 h46 => if x48 = 0 then bnd (F_To_is a1 4 h46) fun x54 h52 => if x54 = 0 then bnd (F_To_is a1 10 h52) fun x60 h58 => if x60 = 0 then bnd (F_To_is a1 11 h58) fun x66 h64 => if x66 = 0 then bnd (F_To_is a1 12 h64) fun x72 h70 => if x72 = 0 then F_Sm_takeOrder_237  h70 else if (mGi h70 86 6) = (2 : Int) then F_Sm_takeOrder_238 (1 : Int) h70 else F_Sm_takeOrder_237  h70 else if (mGi h64 86 6) = (2 : Int) then F_Sm_takeOrder_201 (1 : Int) h64 else F_Sm_takeOrder_201 (0 : Int) h64 else bnd (F_Sm_beginByName (0 : Int) h58) fun x80 h78 => some (.inl (), h78) else bnd (F_Sm_beginByName (1 : Int) h52) fun x85 h83 => some (.inl (), h83) else bnd (F_Sm_requireLevelRoom h46) fun x90 h88 => bnd (F_Sm_answerDefined h88) fun x95 h93 => bnd (F_Ex_expand (0 : Int) 103 400 (0 : Int) x95 h93) fun x100 h98 => gd (RoO h98 x100) (bnd (F_Es_valueOf (x100 + 2) 100 (mGi h98 x100 3) h98) fun x106 h104 => if (lgI x106 (0 : Int64)) = 0 then F_Sm_takeOrder_125 (0 : Int) h104 else F_Sm_takeOrder_125 (1 : Int) h104) else bnd (F_Sm_undefine h40) fun x112 h110 => some (.inl (), h110) else bnd (F_Sm_isWordAt (2 : Int) h34) fun x117 h115 => bnd (F_Sm_require x117 h115) fun x122 h120 => bnd (F_Sm_hasBracketAtWord h120) fun x127 h125 => if x127 = 0 then F_Sm_takeOrder_38 (-1 : Int) h125 else bnd (F_Sm_countParameters h125) fun x133 h131 => F_Sm_takeOrder_38 x133 h131
theorem S_Sm_takeOrder {d : Nat} (hd : 91 ≤ d) {a1 : Int64} {h : MH} (L : LayC h) : OK d k_Sm_takeOrder 0 [mR 86, mL a1, mN, mN] [] h cV pT (F_Sm_takeOrder  a1 h) := by
  unfold F_Sm_takeOrder
  refine z_go (fun Q hq => x_aload_n (dA d_Sm_takeOrder 0 rfl) rfl rfl (x_getR (dA d_Sm_takeOrder 1 rfl) f_Sm_12 (L.sh (x := (10, 12)) rfl) (by decide) (by decide) rfl (L.rf 86 rfl) (x_lload_n (dA d_Sm_takeOrder 2 rfl) rfl rfl (x_ldcS (dA d_Sm_takeOrder 3 rfl) (List.mem_of_getElem? (i := 15) rfl) hq)))) ?_
  refine z_bnd (rest := []) (st1 := fun v => mI v :: []) (S_To_is (d := 5) (Nat.le_refl _) L (by decide)) (fun _ hx => absurd hx List.not_mem_nil) (fun _ => rfl) (fun Q' Q => x_callV (as := [mL a1, mS 1]) (rest := []) (k' := k_To_is) (dA d_Sm_takeOrder 4 rfl) o_To_is lk_Sm_183 im_To_is se_To_is rfl (L.sh (x := (11, 3)) rfl) (by decide) (Nat.le_of_ble_eq_true rfl) (Nat.le_trans (Nat.le_of_ble_eq_true rfl) hd) (Nat.le_of_ble_eq_true rfl)) (fun x36 h34 e35 p37 => ?_)
  have L38 := L.ext e35
  refine z_br (fun Q => x_if_eq (dA d_Sm_takeOrder 5 rfl) rfl p37.inR) (fun c39 => ?_) (fun c39 => ?_)
  · refine z_go (fun Q hq => x_aload_n (dA d_Sm_takeOrder 21 rfl) rfl rfl (x_getR (dA d_Sm_takeOrder 22 rfl) f_Sm_12 (L38.sh (x := (10, 12)) rfl) (by decide) (by decide) rfl (L38.rf 86 rfl) (x_lload_n (dA d_Sm_takeOrder 23 rfl) rfl rfl (x_ldcS (dA d_Sm_takeOrder 24 rfl) (List.mem_of_getElem? (i := 16) rfl) hq)))) ?_
    refine z_bnd (rest := []) (st1 := fun v => mI v :: []) (S_To_is (d := 5) (Nat.le_refl _) L38 (by decide)) (fun _ hx => absurd hx List.not_mem_nil) (fun _ => rfl) (fun Q' Q => x_callV (as := [mL a1, mS 14]) (rest := []) (k' := k_To_is) (dA d_Sm_takeOrder 25 rfl) o_To_is lk_Sm_183 im_To_is se_To_is rfl (L38.sh (x := (11, 3)) rfl) (by decide) (Nat.le_of_ble_eq_true rfl) (Nat.le_trans (Nat.le_of_ble_eq_true rfl) hd) (Nat.le_of_ble_eq_true rfl)) (fun x42 h40 e41 p43 => ?_)
    have L44 := L38.ext e41
    refine z_br (fun Q => x_if_eq (dA d_Sm_takeOrder 26 rfl) rfl p43.inR) (fun c45 => ?_) (fun c45 => ?_)
    · refine z_go (fun Q hq => x_aload_n (dA d_Sm_takeOrder 30 rfl) rfl rfl (x_getR (dA d_Sm_takeOrder 31 rfl) f_Sm_12 (L44.sh (x := (10, 12)) rfl) (by decide) (by decide) rfl (L44.rf 86 rfl) (x_lload_n (dA d_Sm_takeOrder 32 rfl) rfl rfl (x_ldcS (dA d_Sm_takeOrder 33 rfl) (List.mem_of_getElem? (i := 9) rfl) hq)))) ?_
      refine z_bnd (rest := []) (st1 := fun v => mI v :: []) (S_To_is (d := 5) (Nat.le_refl _) L44 (by decide)) (fun _ hx => absurd hx List.not_mem_nil) (fun _ => rfl) (fun Q' Q => x_callV (as := [mL a1, mS 9]) (rest := []) (k' := k_To_is) (dA d_Sm_takeOrder 34 rfl) o_To_is lk_Sm_183 im_To_is se_To_is rfl (L44.sh (x := (11, 3)) rfl) (by decide) (Nat.le_of_ble_eq_true rfl) (Nat.le_trans (Nat.le_of_ble_eq_true rfl) hd) (Nat.le_of_ble_eq_true rfl)) (fun x48 h46 e47 p49 => ?_)
      have L50 := L44.ext e47
      refine z_br (fun Q => x_if_eq (dA d_Sm_takeOrder 35 rfl) rfl p49.inR) (fun c51 => ?_) (fun c51 => ?_)
      · refine z_go (fun Q hq => x_aload_n (dA d_Sm_takeOrder 65 rfl) rfl rfl (x_getR (dA d_Sm_takeOrder 66 rfl) f_Sm_12 (L50.sh (x := (10, 12)) rfl) (by decide) (by decide) rfl (L50.rf 86 rfl) (x_lload_n (dA d_Sm_takeOrder 67 rfl) rfl rfl (x_ldcS (dA d_Sm_takeOrder 68 rfl) (List.mem_of_getElem? (i := 10) rfl) hq)))) ?_
        refine z_bnd (rest := []) (st1 := fun v => mI v :: []) (S_To_is (d := 5) (Nat.le_refl _) L50 (by decide)) (fun _ hx => absurd hx List.not_mem_nil) (fun _ => rfl) (fun Q' Q => x_callV (as := [mL a1, mS 4]) (rest := []) (k' := k_To_is) (dA d_Sm_takeOrder 69 rfl) o_To_is lk_Sm_183 im_To_is se_To_is rfl (L50.sh (x := (11, 3)) rfl) (by decide) (Nat.le_of_ble_eq_true rfl) (Nat.le_trans (Nat.le_of_ble_eq_true rfl) hd) (Nat.le_of_ble_eq_true rfl)) (fun x54 h52 e53 p55 => ?_)
        have L56 := L50.ext e53
        refine z_br (fun Q => x_if_eq (dA d_Sm_takeOrder 70 rfl) rfl p55.inR) (fun c57 => ?_) (fun c57 => ?_)
        · refine z_go (fun Q hq => x_aload_n (dA d_Sm_takeOrder 75 rfl) rfl rfl (x_getR (dA d_Sm_takeOrder 76 rfl) f_Sm_12 (L56.sh (x := (10, 12)) rfl) (by decide) (by decide) rfl (L56.rf 86 rfl) (x_lload_n (dA d_Sm_takeOrder 77 rfl) rfl rfl (x_ldcS (dA d_Sm_takeOrder 78 rfl) (List.mem_of_getElem? (i := 11) rfl) hq)))) ?_
          refine z_bnd (rest := []) (st1 := fun v => mI v :: []) (S_To_is (d := 5) (Nat.le_refl _) L56 (by decide)) (fun _ hx => absurd hx List.not_mem_nil) (fun _ => rfl) (fun Q' Q => x_callV (as := [mL a1, mS 10]) (rest := []) (k' := k_To_is) (dA d_Sm_takeOrder 79 rfl) o_To_is lk_Sm_183 im_To_is se_To_is rfl (L56.sh (x := (11, 3)) rfl) (by decide) (Nat.le_of_ble_eq_true rfl) (Nat.le_trans (Nat.le_of_ble_eq_true rfl) hd) (Nat.le_of_ble_eq_true rfl)) (fun x60 h58 e59 p61 => ?_)
          have L62 := L56.ext e59
          refine z_br (fun Q => x_if_eq (dA d_Sm_takeOrder 80 rfl) rfl p61.inR) (fun c63 => ?_) (fun c63 => ?_)
          · refine z_go (fun Q hq => x_aload_n (dA d_Sm_takeOrder 85 rfl) rfl rfl (x_getR (dA d_Sm_takeOrder 86 rfl) f_Sm_12 (L62.sh (x := (10, 12)) rfl) (by decide) (by decide) rfl (L62.rf 86 rfl) (x_lload_n (dA d_Sm_takeOrder 87 rfl) rfl rfl (x_ldcS (dA d_Sm_takeOrder 88 rfl) (List.mem_of_getElem? (i := 12) rfl) hq)))) ?_
            refine z_bnd (rest := []) (st1 := fun v => mI v :: []) (S_To_is (d := 5) (Nat.le_refl _) L62 (by decide)) (fun _ hx => absurd hx List.not_mem_nil) (fun _ => rfl) (fun Q' Q => x_callV (as := [mL a1, mS 11]) (rest := []) (k' := k_To_is) (dA d_Sm_takeOrder 89 rfl) o_To_is lk_Sm_183 im_To_is se_To_is rfl (L62.sh (x := (11, 3)) rfl) (by decide) (Nat.le_of_ble_eq_true rfl) (Nat.le_trans (Nat.le_of_ble_eq_true rfl) hd) (Nat.le_of_ble_eq_true rfl)) (fun x66 h64 e65 p67 => ?_)
            have L68 := L62.ext e65
            refine z_br (fun Q => x_if_eq (dA d_Sm_takeOrder 90 rfl) rfl p67.inR) (fun c69 => ?_) (fun c69 => ?_)
            · refine z_go (fun Q hq => x_aload_n (dA d_Sm_takeOrder 103 rfl) rfl rfl (x_aload_n (dA d_Sm_takeOrder 104 rfl) rfl rfl (x_getR (dA d_Sm_takeOrder 105 rfl) f_Sm_12 (L68.sh (x := (10, 12)) rfl) (by decide) (by decide) rfl (L68.rf 86 rfl) (x_lload_n (dA d_Sm_takeOrder 106 rfl) rfl rfl (x_ldcS (dA d_Sm_takeOrder 107 rfl) (List.mem_of_getElem? (i := 13) rfl) hq))))) ?_
              refine z_bnd (rest := [mR 86]) (st1 := fun v => mI v :: [mR 86]) (S_To_is (d := 5) (Nat.le_refl _) L68 (by decide)) (fun _ hx => absurd hx List.not_mem_nil) (fun _ => rfl) (fun Q' Q => x_callV (as := [mL a1, mS 12]) (rest := [mR 86]) (k' := k_To_is) (dA d_Sm_takeOrder 108 rfl) o_To_is lk_Sm_183 im_To_is se_To_is rfl (L68.sh (x := (11, 3)) rfl) (by decide) (Nat.le_of_ble_eq_true rfl) (Nat.le_trans (Nat.le_of_ble_eq_true rfl) hd) (Nat.le_of_ble_eq_true rfl)) (fun x72 h70 e71 p73 => ?_)
              have L74 := L68.ext e71
              refine z_br (fun Q => x_if_eq (dA d_Sm_takeOrder 109 rfl) rfl p73.inR) (fun c75 => ?_) (fun c75 => ?_)
              · refine z_fgt (ls' := [mR 86, mN, mN, mN]) ⟨.inr rfl, .inl rfl, .inl rfl, .inl rfl, trivial⟩ ?_
                exact S_Sm_takeOrder_237 hd  L74 
              · refine z_go (fun Q hq => x_aload_n (dA d_Sm_takeOrder 110 rfl) rfl rfl (x_getI (dA d_Sm_takeOrder 111 rfl) f_Sm_109 (L74.sh (x := (10, 12)) rfl) (by decide) (by decide) rfl (x_iconst (dA d_Sm_takeOrder 112 rfl) hq))) ?_
                refine z_brn (fun Q => x_icmp_ne (dA d_Sm_takeOrder 113 rfl) rfl (L74.rg _ _) (inR_lit (2 : Int) rfl)) (fun c76 => ?_) (fun c76 => ?_)
                · refine z_go (fun Q hq => x_iconst (dA d_Sm_takeOrder 114 rfl) (x_goto (dA d_Sm_takeOrder 115 rfl) rfl hq)) ?_
                  refine z_fgt (ls' := [mR 86, mN, mN, mN]) ⟨.inr rfl, .inl rfl, .inl rfl, .inl rfl, trivial⟩ ?_
                  exact S_Sm_takeOrder_238 hd  L74 (inR_lit (1 : Int) rfl)
                · refine z_fgt (ls' := [mR 86, mN, mN, mN]) ⟨.inr rfl, .inl rfl, .inl rfl, .inl rfl, trivial⟩ ?_
                  exact S_Sm_takeOrder_237 hd  L74 
            · refine z_go (fun Q hq => x_aload_n (dA d_Sm_takeOrder 91 rfl) rfl rfl (x_aload_n (dA d_Sm_takeOrder 92 rfl) rfl rfl (x_getI (dA d_Sm_takeOrder 93 rfl) f_Sm_109 (L68.sh (x := (10, 12)) rfl) (by decide) (by decide) rfl (x_iconst (dA d_Sm_takeOrder 94 rfl) hq)))) ?_
              refine z_brn (fun Q => x_icmp_ne (dA d_Sm_takeOrder 95 rfl) rfl (L68.rg _ _) (inR_lit (2 : Int) rfl)) (fun c77 => ?_) (fun c77 => ?_)
              · refine z_go (fun Q hq => x_iconst (dA d_Sm_takeOrder 96 rfl) (x_goto (dA d_Sm_takeOrder 97 rfl) rfl hq)) ?_
                refine z_fgt (ls' := [mR 86, mN, mN, mN]) ⟨.inr rfl, .inl rfl, .inl rfl, .inl rfl, trivial⟩ ?_
                exact S_Sm_takeOrder_201 hd  L68 (inR_lit (1 : Int) rfl)
              · refine z_go (fun Q hq => x_iconst (dA d_Sm_takeOrder 98 rfl) hq) ?_
                refine z_fgt (ls' := [mR 86, mN, mN, mN]) ⟨.inr rfl, .inl rfl, .inl rfl, .inl rfl, trivial⟩ ?_
                exact S_Sm_takeOrder_201 hd  L68 (inR_lit (0 : Int) rfl)
          · refine z_go (fun Q hq => x_aload_n (dA d_Sm_takeOrder 81 rfl) rfl rfl (x_iconst (dA d_Sm_takeOrder 82 rfl) hq)) ?_
            refine z_bnd (rest := []) (st1 := fun _ => []) (S_Sm_beginByName (d := 3) (Nat.le_refl _) L62 (.inl rfl)) (fun _ hx => absurd hx List.not_mem_nil) (fun _ => rfl) (fun Q' Q => x_callV (as := [mI (0 : Int)]) (rest := []) (k' := k_Sm_beginByName) (dA d_Sm_takeOrder 83 rfl) o_Sm_beginByName lk_Sm_232 im_Sm_beginByName se_Sm_beginByName rfl (L62.sh (x := (10, 12)) rfl) (by decide) (Nat.le_of_ble_eq_true rfl) (Nat.le_trans (Nat.le_of_ble_eq_true rfl) hd) (Nat.le_of_ble_eq_true rfl)) (fun x80 h78 e79 p81 => ?_)
            have L82 := L62.ext e79
            refine z_go (fun Q hq => x_goto (dA d_Sm_takeOrder 84 rfl) rfl hq) ?_
            exact z_retv (dA d_Sm_takeOrder 120 rfl) rfl
        · refine z_go (fun Q hq => x_aload_n (dA d_Sm_takeOrder 71 rfl) rfl rfl (x_iconst (dA d_Sm_takeOrder 72 rfl) hq)) ?_
          refine z_bnd (rest := []) (st1 := fun _ => []) (S_Sm_beginByName (d := 3) (Nat.le_refl _) L56 (.inr rfl)) (fun _ hx => absurd hx List.not_mem_nil) (fun _ => rfl) (fun Q' Q => x_callV (as := [mI (1 : Int)]) (rest := []) (k' := k_Sm_beginByName) (dA d_Sm_takeOrder 73 rfl) o_Sm_beginByName lk_Sm_232 im_Sm_beginByName se_Sm_beginByName rfl (L56.sh (x := (10, 12)) rfl) (by decide) (Nat.le_of_ble_eq_true rfl) (Nat.le_trans (Nat.le_of_ble_eq_true rfl) hd) (Nat.le_of_ble_eq_true rfl)) (fun x85 h83 e84 p86 => ?_)
          have L87 := L56.ext e84
          refine z_go (fun Q hq => x_goto (dA d_Sm_takeOrder 74 rfl) rfl hq) ?_
          exact z_retv (dA d_Sm_takeOrder 120 rfl) rfl
      · refine z_go (fun Q hq => x_aload_n (dA d_Sm_takeOrder 36 rfl) rfl rfl hq) ?_
        refine z_bnd (rest := []) (st1 := fun _ => []) (S_Sm_requireLevelRoom (d := 1) (Nat.le_refl _) L50 ) (fun _ hx => absurd hx List.not_mem_nil) (fun _ => rfl) (fun Q' Q => x_callV (as := []) (rest := []) (k' := k_Sm_requireLevelRoom) (dA d_Sm_takeOrder 37 rfl) o_Sm_requireLevelRoom lk_Sm_191 im_Sm_requireLevelRoom se_Sm_requireLevelRoom rfl (L50.sh (x := (10, 12)) rfl) (by decide) (Nat.le_of_ble_eq_true rfl) (Nat.le_trans (Nat.le_of_ble_eq_true rfl) hd) (Nat.le_of_ble_eq_true rfl)) (fun x90 h88 e89 p91 => ?_)
        have L92 := L50.ext e89
        refine z_go (fun Q hq => x_aload_n (dA d_Sm_takeOrder 38 rfl) rfl rfl (x_getR (dA d_Sm_takeOrder 39 rfl) f_Sm_30 (L92.sh (x := (10, 12)) rfl) (by decide) (by decide) rfl (L92.rf 88 rfl) (x_iconst (dA d_Sm_takeOrder 40 rfl) (x_aload_n (dA d_Sm_takeOrder 41 rfl) rfl rfl (x_getR (dA d_Sm_takeOrder 42 rfl) f_Sm_52 (L92.sh (x := (10, 12)) rfl) (by decide) (by decide) rfl (L92.rf 91 rfl) (x_iconst (dA d_Sm_takeOrder 43 rfl) (x_aload_n (dA d_Sm_takeOrder 44 rfl) rfl rfl hq))))))) ?_
        refine z_bnd (rest := [mI (0 : Int), mR 103, mI (0 : Int), mR 95]) (st1 := fun v => mI v :: [mI (0 : Int), mR 103, mI (0 : Int), mR 95]) (S_Sm_answerDefined (d := 6) (Nat.le_refl _) L92 ) (fun _ hx => absurd hx List.not_mem_nil) (fun _ => rfl) (fun Q' Q => x_callV (as := []) (rest := [mI (0 : Int), mR 103, mI (0 : Int), mR 95]) (k' := k_Sm_answerDefined) (dA d_Sm_takeOrder 45 rfl) o_Sm_answerDefined lk_Sm_225 im_Sm_answerDefined se_Sm_answerDefined rfl (L92.sh (x := (10, 12)) rfl) (by decide) (Nat.le_of_ble_eq_true rfl) (Nat.le_trans (Nat.le_of_ble_eq_true rfl) hd) (Nat.le_of_ble_eq_true rfl)) (fun x95 h93 e94 p96 => ?_)
        have L97 := L92.ext e94
        refine z_bnd (rest := []) (st1 := fun v => mR v :: []) (S_Ex_expand (d := 90) (Nat.le_refl _) L97 (inR_lit (0 : Int) rfl) ⟨L97.sh rfl, by decide⟩ (inR_lit (0 : Int) rfl) p96) (fun _ hx => absurd hx List.not_mem_nil) (fun _ => rfl) (fun Q' Q => x_callV (as := [mI (0 : Int), mR 103, mI (0 : Int), mI x95]) (rest := []) (k' := k_Ex_expand) (dA d_Sm_takeOrder 46 rfl) o_Ex_expand lk_Sm_137 im_Ex_expand se_Ex_expand rfl (L97.sh (x := (4, 4)) rfl) (by decide) (Nat.le_of_ble_eq_true rfl) (Nat.le_trans (Nat.le_of_ble_eq_true rfl) hd) (Nat.le_of_ble_eq_true rfl)) (fun x100 h98 e99 p101 => ?_)
        have L102 := L97.ext e99
        refine z_gd (fun g103 => ?_)
        refine z_go (fun Q hq => x_astore_n (dA d_Sm_takeOrder 47 rfl) rfl (by decide) rfl (x_aload_n (dA d_Sm_takeOrder 48 rfl) rfl rfl (x_aload_n (dA d_Sm_takeOrder 49 rfl) rfl rfl (x_getR (dA d_Sm_takeOrder 50 rfl) f_Sm_39 (L102.sh (x := (10, 12)) rfl) (by decide) (by decide) rfl (L102.rf 89 rfl) (x_aload_n (dA d_Sm_takeOrder 51 rfl) rfl rfl (x_getR (dA d_Sm_takeOrder 52 rfl) f_Sm_164 g103.1 (by decide) (by decide) rfl g103.2.1.2.1 (x_aload_n (dA d_Sm_takeOrder 53 rfl) rfl rfl (x_getI (dA d_Sm_takeOrder 54 rfl) f_Sm_159 g103.1 (by decide) (by decide) rfl hq)))))))) ?_
        refine z_bnd (rest := [mR 86]) (st1 := fun v => mL v :: [mR 86]) (S_Es_valueOf (d := 3) (Nat.le_refl _) L102 (show ArO _ _ _ _ from ⟨g103.2.2.2.1, by decide⟩) (L102.rg _ _)) (fun _ hx => absurd hx List.not_mem_nil) (fun _ => rfl) (fun Q' Q => x_callV (as := [mR (x100 + 2), mI (mGi h98 x100 3)]) (rest := [mR 86]) (k' := k_Es_valueOf) (dA d_Sm_takeOrder 55 rfl) o_Es_valueOf lk_Sm_228 im_Es_valueOf se_Es_valueOf rfl (L102.sh (x := (5, 6)) rfl) (by decide) (Nat.le_of_ble_eq_true rfl) (Nat.le_trans (Nat.le_of_ble_eq_true rfl) hd) (Nat.le_of_ble_eq_true rfl)) (fun x106 h104 e105 p107 => ?_)
        have L108 := L102.ext e105
        refine z_go (fun Q hq => x_lconst (v := 0) (dA d_Sm_takeOrder 56 rfl) rfl (x_lcmp (dA d_Sm_takeOrder 57 rfl) hq)) ?_
        refine z_br (fun Q => x_if_eq (dA d_Sm_takeOrder 58 rfl) rfl (inR_lgI _ _)) (fun c109 => ?_) (fun c109 => ?_)
        · refine z_go (fun Q hq => x_iconst (dA d_Sm_takeOrder 61 rfl) hq) ?_
          refine z_fgt (ls' := [mN, mN, mN, mN]) ⟨.inl rfl, .inl rfl, .inl rfl, .inl rfl, trivial⟩ ?_
          exact S_Sm_takeOrder_125 hd  L108 (inR_lit (0 : Int) rfl)
        · refine z_go (fun Q hq => x_iconst (dA d_Sm_takeOrder 59 rfl) (x_goto (dA d_Sm_takeOrder 60 rfl) rfl hq)) ?_
          refine z_fgt (ls' := [mN, mN, mN, mN]) ⟨.inl rfl, .inl rfl, .inl rfl, .inl rfl, trivial⟩ ?_
          exact S_Sm_takeOrder_125 hd  L108 (inR_lit (1 : Int) rfl)
    · refine z_go (fun Q hq => x_aload_n (dA d_Sm_takeOrder 27 rfl) rfl rfl hq) ?_
      refine z_bnd (rest := []) (st1 := fun _ => []) (S_Sm_undefine (d := 3) (Nat.le_refl _) L44 ) (fun _ hx => absurd hx List.not_mem_nil) (fun _ => rfl) (fun Q' Q => x_callV (as := []) (rest := []) (k' := k_Sm_undefine) (dA d_Sm_takeOrder 28 rfl) o_Sm_undefine lk_Sm_222 im_Sm_undefine se_Sm_undefine rfl (L44.sh (x := (10, 12)) rfl) (by decide) (Nat.le_of_ble_eq_true rfl) (Nat.le_trans (Nat.le_of_ble_eq_true rfl) hd) (Nat.le_of_ble_eq_true rfl)) (fun x112 h110 e111 p113 => ?_)
      have L114 := L44.ext e111
      refine z_go (fun Q hq => x_goto (dA d_Sm_takeOrder 29 rfl) rfl hq) ?_
      exact z_retv (dA d_Sm_takeOrder 120 rfl) rfl
  · refine z_go (fun Q hq => x_aload_n (dA d_Sm_takeOrder 6 rfl) rfl rfl (x_aload_n (dA d_Sm_takeOrder 7 rfl) rfl rfl (x_iconst (dA d_Sm_takeOrder 8 rfl) hq))) ?_
    refine z_bnd (rest := [mR 86]) (st1 := fun v => mI v :: [mR 86]) (S_Sm_isWordAt (d := 1) (Nat.le_refl _) L38 (inR_lit (2 : Int) rfl)) (fun _ hx => absurd hx List.not_mem_nil) (fun _ => rfl) (fun Q' Q => x_callV (as := [mI (2 : Int)]) (rest := [mR 86]) (k' := k_Sm_isWordAt) (dA d_Sm_takeOrder 9 rfl) o_Sm_isWordAt lk_Sm_129 im_Sm_isWordAt se_Sm_isWordAt rfl (L38.sh (x := (10, 12)) rfl) (by decide) (Nat.le_of_ble_eq_true rfl) (Nat.le_trans (Nat.le_of_ble_eq_true rfl) hd) (Nat.le_of_ble_eq_true rfl)) (fun x117 h115 e116 p118 => ?_)
    have L119 := L38.ext e116
    refine z_bnd (rest := []) (st1 := fun _ => []) (S_Sm_require (d := 1) (Nat.le_refl _) L119 p118) (fun _ hx => absurd hx List.not_mem_nil) (fun _ => rfl) (fun Q' Q => x_callV (as := [mI x117]) (rest := []) (k' := k_Sm_require) (dA d_Sm_takeOrder 10 rfl) o_Sm_require lk_Sm_145 im_Sm_require se_Sm_require rfl (L119.sh (x := (10, 12)) rfl) (by decide) (Nat.le_of_ble_eq_true rfl) (Nat.le_trans (Nat.le_of_ble_eq_true rfl) hd) (Nat.le_of_ble_eq_true rfl)) (fun x122 h120 e121 p123 => ?_)
    have L124 := L119.ext e121
    refine z_go (fun Q hq => x_aload_n (dA d_Sm_takeOrder 11 rfl) rfl rfl (x_aload_n (dA d_Sm_takeOrder 12 rfl) rfl rfl hq)) ?_
    refine z_bnd (rest := [mR 86]) (st1 := fun v => mI v :: [mR 86]) (S_Sm_hasBracketAtWord (d := 3) (Nat.le_refl _) L124 ) (fun _ hx => absurd hx List.not_mem_nil) (fun _ => rfl) (fun Q' Q => x_callV (as := []) (rest := [mR 86]) (k' := k_Sm_hasBracketAtWord) (dA d_Sm_takeOrder 13 rfl) o_Sm_hasBracketAtWord lk_Sm_210 im_Sm_hasBracketAtWord se_Sm_hasBracketAtWord rfl (L124.sh (x := (10, 12)) rfl) (by decide) (Nat.le_of_ble_eq_true rfl) (Nat.le_trans (Nat.le_of_ble_eq_true rfl) hd) (Nat.le_of_ble_eq_true rfl)) (fun x127 h125 e126 p128 => ?_)
    have L129 := L124.ext e126
    refine z_br (fun Q => x_if_eq (dA d_Sm_takeOrder 14 rfl) rfl p128.inR) (fun c130 => ?_) (fun c130 => ?_)
    · refine z_go (fun Q hq => x_iconst (dA d_Sm_takeOrder 18 rfl) hq) ?_
      refine z_fgt (ls' := [mN, mN, mN, mN]) ⟨.inl rfl, .inl rfl, .inl rfl, .inl rfl, trivial⟩ ?_
      exact S_Sm_takeOrder_38 hd  L129 (inR_lit (-1 : Int) rfl)
    · refine z_go (fun Q hq => x_aload_n (dA d_Sm_takeOrder 15 rfl) rfl rfl hq) ?_
      refine z_bnd (rest := [mR 86]) (st1 := fun v => mI v :: [mR 86]) (S_Sm_countParameters (d := 3) (Nat.le_refl _) L129 ) (fun _ hx => absurd hx List.not_mem_nil) (fun _ => rfl) (fun Q' Q => x_callV (as := []) (rest := [mR 86]) (k' := k_Sm_countParameters) (dA d_Sm_takeOrder 16 rfl) o_Sm_countParameters lk_Sm_214 im_Sm_countParameters se_Sm_countParameters rfl (L129.sh (x := (10, 12)) rfl) (by decide) (Nat.le_of_ble_eq_true rfl) (Nat.le_trans (Nat.le_of_ble_eq_true rfl) hd) (Nat.le_of_ble_eq_true rfl)) (fun x133 h131 e132 p134 => ?_)
      have L135 := L129.ext e132
      refine z_go (fun Q hq => x_goto (dA d_Sm_takeOrder 17 rfl) rfl hq) ?_
      refine z_fgt (ls' := [mN, mN, mN, mN]) ⟨.inl rfl, .inl rfl, .inl rfl, .inl rfl, trivial⟩ ?_
      exact S_Sm_takeOrder_38 hd  L135 p134
/-! TwoMills$SecondMill.takeLine()V -/
noncomputable def F_Sm_takeLine_54 (v1 : Int) (h : MH) : RS Unit := if v1 = 0 then bnd (F_Ex_expand (0 : Int) 103 400 (0 : Int) (mGi h 86 6) h) fun x4 h2 => gd (RoO h2 x4) (bnd (F_Sm_deliver x4 h2) fun x10 h8 => some (.inl (), h8)) else if (mGi h 86 6) ≤ (1 : Int) then some (.inl (), h) else bnd (F_Sm_isWordAt (1 : Int) h) fun x16 h14 => bnd (F_Sm_require x16 h14) fun x21 h19 => gd (0 ≤ (1 : Int) ∧ (1 : Int) < 400) (bnd (F_Sm_takeOrder (mGl h19 103 (1 : Int).toNat) h19) fun x27 h25 => some (.inl (), h25))
theorem S_Sm_takeLine_54 {d : Nat} (hd : 92 ≤ d) {v1 : Int} {h : MH} (L : LayC h) (rv1 : inR v1) : OK d k_Sm_takeLine 54 [mR 86, mI v1] [] h cV pT (F_Sm_takeLine_54  v1 h) := by
  unfold F_Sm_takeLine_54
  refine z_go (fun Q hq => x_iload_n (dA d_Sm_takeLine 29 rfl) rfl rfl hq) ?_
  refine z_brn (fun Q => x_if_ne (dA d_Sm_takeLine 30 rfl) rfl rv1) (fun c1 => ?_) (fun c1 => ?_)
  · refine z_go (fun Q hq => x_aload_n (dA d_Sm_takeLine 31 rfl) rfl rfl (x_aload_n (dA d_Sm_takeLine 32 rfl) rfl rfl (x_getR (dA d_Sm_takeLine 33 rfl) f_Sm_30 (L.sh (x := (10, 12)) rfl) (by decide) (by decide) rfl (L.rf 88 rfl) (x_iconst (dA d_Sm_takeLine 34 rfl) (x_aload_n (dA d_Sm_takeLine 35 rfl) rfl rfl (x_getR (dA d_Sm_takeLine 36 rfl) f_Sm_52 (L.sh (x := (10, 12)) rfl) (by decide) (by decide) rfl (L.rf 91 rfl) (x_iconst (dA d_Sm_takeLine 37 rfl) (x_aload_n (dA d_Sm_takeLine 38 rfl) rfl rfl (x_getI (dA d_Sm_takeLine 39 rfl) f_Sm_109 (L.sh (x := (10, 12)) rfl) (by decide) (by decide) rfl hq))))))))) ?_
    refine z_bnd (rest := [mR 86]) (st1 := fun v => mR v :: [mR 86]) (S_Ex_expand (d := 90) (Nat.le_refl _) L (inR_lit (0 : Int) rfl) ⟨L.sh rfl, by decide⟩ (inR_lit (0 : Int) rfl) (L.rg _ _)) (fun _ hx => absurd hx List.not_mem_nil) (fun _ => rfl) (fun Q' Q => x_callV (as := [mI (0 : Int), mR 103, mI (0 : Int), mI (mGi h 86 6)]) (rest := [mR 86]) (k' := k_Ex_expand) (dA d_Sm_takeLine 40 rfl) o_Ex_expand lk_Sm_137 im_Ex_expand se_Ex_expand rfl (L.sh (x := (4, 4)) rfl) (by decide) (Nat.le_of_ble_eq_true rfl) (Nat.le_trans (Nat.le_of_ble_eq_true rfl) hd) (Nat.le_of_ble_eq_true rfl)) (fun x4 h2 e3 p5 => ?_)
    have L6 := L.ext e3
    refine z_gd (fun g7 => ?_)
    refine z_bnd (rest := []) (st1 := fun _ => []) (S_Sm_deliver (d := 1) (Nat.le_refl _) L6 g7) (fun _ hx => absurd hx List.not_mem_nil) (fun _ => rfl) (fun Q' Q => x_callV (as := [mR x4]) (rest := []) (k' := k_Sm_deliver) (dA d_Sm_takeLine 41 rfl) o_Sm_deliver lk_Sm_141 im_Sm_deliver se_Sm_deliver rfl (L6.sh (x := (10, 12)) rfl) (by decide) (Nat.le_of_ble_eq_true rfl) (Nat.le_trans (Nat.le_of_ble_eq_true rfl) hd) (Nat.le_of_ble_eq_true rfl)) (fun x10 h8 e9 p11 => ?_)
    have L12 := L6.ext e9
    refine z_go (fun Q hq => x_goto (dA d_Sm_takeLine 42 rfl) rfl hq) ?_
    exact z_retv (dA d_Sm_takeLine 58 rfl) rfl
  · refine z_go (fun Q hq => x_aload_n (dA d_Sm_takeLine 43 rfl) rfl rfl (x_getI (dA d_Sm_takeLine 44 rfl) f_Sm_109 (L.sh (x := (10, 12)) rfl) (by decide) (by decide) rfl (x_iconst (dA d_Sm_takeLine 45 rfl) hq))) ?_
    refine z_br (fun Q => x_icmp_le (dA d_Sm_takeLine 46 rfl) rfl (L.rg _ _) (inR_lit (1 : Int) rfl)) (fun c13 => ?_) (fun c13 => ?_)
    · exact z_retv (dA d_Sm_takeLine 58 rfl) rfl
    · refine z_go (fun Q hq => x_aload_n (dA d_Sm_takeLine 47 rfl) rfl rfl (x_aload_n (dA d_Sm_takeLine 48 rfl) rfl rfl (x_iconst (dA d_Sm_takeLine 49 rfl) hq))) ?_
      refine z_bnd (rest := [mR 86]) (st1 := fun v => mI v :: [mR 86]) (S_Sm_isWordAt (d := 1) (Nat.le_refl _) L (inR_lit (1 : Int) rfl)) (fun _ hx => absurd hx List.not_mem_nil) (fun _ => rfl) (fun Q' Q => x_callV (as := [mI (1 : Int)]) (rest := [mR 86]) (k' := k_Sm_isWordAt) (dA d_Sm_takeLine 50 rfl) o_Sm_isWordAt lk_Sm_129 im_Sm_isWordAt se_Sm_isWordAt rfl (L.sh (x := (10, 12)) rfl) (by decide) (Nat.le_of_ble_eq_true rfl) (Nat.le_trans (Nat.le_of_ble_eq_true rfl) hd) (Nat.le_of_ble_eq_true rfl)) (fun x16 h14 e15 p17 => ?_)
      have L18 := L.ext e15
      refine z_bnd (rest := []) (st1 := fun _ => []) (S_Sm_require (d := 1) (Nat.le_refl _) L18 p17) (fun _ hx => absurd hx List.not_mem_nil) (fun _ => rfl) (fun Q' Q => x_callV (as := [mI x16]) (rest := []) (k' := k_Sm_require) (dA d_Sm_takeLine 51 rfl) o_Sm_require lk_Sm_145 im_Sm_require se_Sm_require rfl (L18.sh (x := (10, 12)) rfl) (by decide) (Nat.le_of_ble_eq_true rfl) (Nat.le_trans (Nat.le_of_ble_eq_true rfl) hd) (Nat.le_of_ble_eq_true rfl)) (fun x21 h19 e20 p22 => ?_)
      have L23 := L18.ext e20
      refine z_go (fun Q hq => x_aload_n (dA d_Sm_takeLine 52 rfl) rfl rfl (x_aload_n (dA d_Sm_takeLine 53 rfl) rfl rfl (x_getR (dA d_Sm_takeLine 54 rfl) f_Sm_52 (L23.sh (x := (10, 12)) rfl) (by decide) (by decide) rfl (L23.rf 91 rfl) (x_iconst (dA d_Sm_takeLine 55 rfl) hq)))) ?_
      refine z_gd (fun g24 => ?_)
      refine z_go (fun Q hq => x_lald (dA d_Sm_takeLine 56 rfl) (L23.sh (x := (103, 400)) rfl) g24.1 g24.2 (by decide) hq) ?_
      refine z_bnd (rest := []) (st1 := fun _ => []) (S_Sm_takeOrder (d := 91) (Nat.le_refl _) L23 ) (fun _ hx => absurd hx List.not_mem_nil) (fun _ => rfl) (fun Q' Q => x_callV (as := [mL (mGl h19 103 (1 : Int).toNat)]) (rest := []) (k' := k_Sm_takeOrder) (dA d_Sm_takeLine 57 rfl) o_Sm_takeOrder lk_Sm_149 im_Sm_takeOrder se_Sm_takeOrder rfl (L23.sh (x := (10, 12)) rfl) (by decide) (Nat.le_of_ble_eq_true rfl) (Nat.le_trans (Nat.le_of_ble_eq_true rfl) hd) (Nat.le_of_ble_eq_true rfl)) (fun x27 h25 e26 p28 => ?_)
      have L29 := L23.ext e26
      exact z_retv (dA d_Sm_takeLine 58 rfl) rfl
noncomputable def F_Sm_takeLine (h : MH) : RS Unit := bnd (F_Sm_isSignAt (0 : Int) (35 : Int) h) fun x32 h30 => if (mGi h30 86 11) ≤ 0 then F_Sm_takeLine_54 x32 h30 else gd (inR ((mGi h30 86 11) - (1 : Int))) (gd (0 ≤ ((mGi h30 86 11) - (1 : Int)) ∧ ((mGi h30 86 11) - (1 : Int)) < 6) (if (mGi h30 104 ((mGi h30 86 11) - (1 : Int)).toNat) = 0 then if x32 = 0 then some (.inl (), h30) else bnd (F_Sm_isWordAt (1 : Int) h30) fun x42 h40 => if x42 = 0 then some (.inl (), h40) else gd (0 ≤ (1 : Int) ∧ (1 : Int) < 400) (bnd (F_Sm_skipOrder (mGl h40 103 (1 : Int).toNat) h40) fun x49 h47 => some (.inl (), h47)) else F_Sm_takeLine_54 x32 h30))
theorem S_Sm_takeLine {d : Nat} (hd : 92 ≤ d) {h : MH} (L : LayC h) : OK d k_Sm_takeLine 0 [mR 86, mN] [] h cV pT (F_Sm_takeLine   h) := by
  unfold F_Sm_takeLine
  refine z_go (fun Q hq => x_aload_n (dA d_Sm_takeLine 0 rfl) rfl rfl (x_iconst (dA d_Sm_takeLine 1 rfl) (x_bipush (dA d_Sm_takeLine 2 rfl) (by decide) hq))) ?_
  refine z_bnd (rest := []) (st1 := fun v => mI v :: []) (S_Sm_isSignAt (d := 2) (Nat.le_refl _) L (inR_lit (0 : Int) rfl) (ch_lit (35 : Int) rfl)) (fun _ hx => absurd hx List.not_mem_nil) (fun _ => rfl) (fun Q' Q => x_callV (as := [mI (0 : Int), mI (35 : Int)]) (rest := []) (k' := k_Sm_isSignAt) (dA d_Sm_takeLine 3 rfl) o_Sm_isSignAt lk_Sm_125 im_Sm_isSignAt se_Sm_isSignAt rfl (L.sh (x := (10, 12)) rfl) (by decide) (Nat.le_of_ble_eq_true rfl) (Nat.le_trans (Nat.le_of_ble_eq_true rfl) hd) (Nat.le_of_ble_eq_true rfl)) (fun x32 h30 e31 p33 => ?_)
  have L34 := L.ext e31
  refine z_go (fun Q hq => x_istore_n (dA d_Sm_takeLine 4 rfl) rfl (by decide) rfl (x_aload_n (dA d_Sm_takeLine 5 rfl) rfl rfl (x_getI (dA d_Sm_takeLine 6 rfl) f_Sm_78 (L34.sh (x := (10, 12)) rfl) (by decide) (by decide) rfl hq))) ?_
  refine z_br (fun Q => x_if_le (dA d_Sm_takeLine 7 rfl) rfl (L34.rg _ _)) (fun c35 => ?_) (fun c35 => ?_)
  · exact S_Sm_takeLine_54 hd  L34 p33.inR
  · refine z_go (fun Q hq => x_aload_n (dA d_Sm_takeLine 8 rfl) rfl rfl (x_getR (dA d_Sm_takeLine 9 rfl) f_Sm_56 (L34.sh (x := (10, 12)) rfl) (by decide) (by decide) rfl (L34.rf 92 rfl) (x_aload_n (dA d_Sm_takeLine 10 rfl) rfl rfl (x_getI (dA d_Sm_takeLine 11 rfl) f_Sm_78 (L34.sh (x := (10, 12)) rfl) (by decide) (by decide) rfl (x_iconst (dA d_Sm_takeLine 12 rfl) hq))))) ?_
    refine z_gd (fun g36 => ?_)
    refine z_go (fun Q hq => x_isub (dA d_Sm_takeLine 13 rfl) hq) ?_
    refine z_gd (fun g37 => ?_)
    refine z_go (fun Q hq => x_zald (dA d_Sm_takeLine 14 rfl) (L34.sh (x := (102, 6)) rfl) g37.1 g37.2 (by decide) hq) ?_
    refine z_brn (fun Q => x_if_ne (dA d_Sm_takeLine 15 rfl) rfl (L34.rg _ _)) (fun c38 => ?_) (fun c38 => ?_)
    · refine z_go (fun Q hq => x_iload_n (dA d_Sm_takeLine 16 rfl) rfl rfl hq) ?_
      refine z_br (fun Q => x_if_eq (dA d_Sm_takeLine 17 rfl) rfl p33.inR) (fun c39 => ?_) (fun c39 => ?_)
      · exact z_retv (dA d_Sm_takeLine 58 rfl) rfl
      · refine z_go (fun Q hq => x_aload_n (dA d_Sm_takeLine 18 rfl) rfl rfl (x_iconst (dA d_Sm_takeLine 19 rfl) hq)) ?_
        refine z_bnd (rest := []) (st1 := fun v => mI v :: []) (S_Sm_isWordAt (d := 1) (Nat.le_refl _) L34 (inR_lit (1 : Int) rfl)) (fun _ hx => absurd hx List.not_mem_nil) (fun _ => rfl) (fun Q' Q => x_callV (as := [mI (1 : Int)]) (rest := []) (k' := k_Sm_isWordAt) (dA d_Sm_takeLine 20 rfl) o_Sm_isWordAt lk_Sm_129 im_Sm_isWordAt se_Sm_isWordAt rfl (L34.sh (x := (10, 12)) rfl) (by decide) (Nat.le_of_ble_eq_true rfl) (Nat.le_trans (Nat.le_of_ble_eq_true rfl) hd) (Nat.le_of_ble_eq_true rfl)) (fun x42 h40 e41 p43 => ?_)
        have L44 := L34.ext e41
        refine z_br (fun Q => x_if_eq (dA d_Sm_takeLine 21 rfl) rfl p43.inR) (fun c45 => ?_) (fun c45 => ?_)
        · exact z_retv (dA d_Sm_takeLine 58 rfl) rfl
        · refine z_go (fun Q hq => x_aload_n (dA d_Sm_takeLine 22 rfl) rfl rfl (x_aload_n (dA d_Sm_takeLine 23 rfl) rfl rfl (x_getR (dA d_Sm_takeLine 24 rfl) f_Sm_52 (L44.sh (x := (10, 12)) rfl) (by decide) (by decide) rfl (L44.rf 91 rfl) (x_iconst (dA d_Sm_takeLine 25 rfl) hq)))) ?_
          refine z_gd (fun g46 => ?_)
          refine z_go (fun Q hq => x_lald (dA d_Sm_takeLine 26 rfl) (L44.sh (x := (103, 400)) rfl) g46.1 g46.2 (by decide) hq) ?_
          refine z_bnd (rest := []) (st1 := fun _ => []) (S_Sm_skipOrder (d := 6) (Nat.le_refl _) L44 ) (fun _ hx => absurd hx List.not_mem_nil) (fun _ => rfl) (fun Q' Q => x_callV (as := [mL (mGl h40 103 (1 : Int).toNat)]) (rest := []) (k' := k_Sm_skipOrder) (dA d_Sm_takeLine 27 rfl) o_Sm_skipOrder lk_Sm_133 im_Sm_skipOrder se_Sm_skipOrder rfl (L44.sh (x := (10, 12)) rfl) (by decide) (Nat.le_of_ble_eq_true rfl) (Nat.le_trans (Nat.le_of_ble_eq_true rfl) hd) (Nat.le_of_ble_eq_true rfl)) (fun x49 h47 e48 p50 => ?_)
          have L51 := L44.ext e48
          refine z_go (fun Q hq => x_goto (dA d_Sm_takeLine 28 rfl) rfl hq) ?_
          exact z_retv (dA d_Sm_takeLine 58 rfl) rfl
    · exact S_Sm_takeLine_54 hd  L34 p33.inR
/-! TwoMills$Tokens.begin(LTwoMills$Letters;)V -/
noncomputable def F_To_begin (a1 : Nat) (a1n : Nat) (h : MH) : RS Unit := gd (0 ≤ (0 : Int) ∧ 0 ≤ (0 : Int) ∧ 0 ≤ (mGi h a1 1) ∧ (0 : Int) + (mGi h a1 1) ≤ a1n ∧ (0 : Int) + (mGi h a1 1) ≤ 1302) (sto (mCpI h (a1 + 1) 88 (0 : Int).toNat (0 : Int).toNat (mGi h a1 1).toNat) fun h2 => gd (0 ≤ (400 : Int) ∧ (400 : Int) < 1302) (sto (mPi h2 88 (400 : Int).toNat (48 : Int)) fun h6 => gd (0 ≤ (401 : Int) ∧ (401 : Int) < 1302) (sto (mPi h6 88 (401 : Int).toNat (49 : Int)) fun h10 => sto (mPi h10 87 1 (0 : Int)) fun h13 => sto (mPi h13 87 2 (0 : Int)) fun h16 => some (.inl (), h16))))
theorem S_To_begin {d : Nat} (hd : 0 ≤ d) {a1 : Nat} {a1n : Nat} {h : MH} (L : LayC h) (oa1 : LeO h a1 a1n) : OK d k_To_begin 0 [mR 87, mR a1] [] h cV pT (F_To_begin  a1 a1n h) := by
  unfold F_To_begin
  refine z_go (fun Q hq => x_aload_n (dA d_To_begin 0 rfl) rfl rfl (x_getR (dA d_To_begin 1 rfl) f_To_15 oa1.1 (by decide) (by decide) rfl oa1.2.1 (x_iconst (dA d_To_begin 2 rfl) (x_aload_n (dA d_To_begin 3 rfl) rfl rfl (x_getR (dA d_To_begin 4 rfl) f_To_11 (L.sh (x := (11, 3)) rfl) (by decide) (by decide) rfl (L.rf 95 rfl) (x_iconst (dA d_To_begin 5 rfl) (x_aload_n (dA d_To_begin 6 rfl) rfl rfl (x_getI (dA d_To_begin 7 rfl) f_To_18 oa1.1 (by decide) (by decide) rfl hq)))))))) ?_
  refine z_gd (fun g1 => ?_)
  refine z_sto (Ext.cpI oa1.2.2.1 (L.sh (x := (101, 1302)) rfl)) (fun Q hq => x_copyCI (dA d_To_begin 8 rfl) lk_To_22 oa1.2.2.1 (L.sh (x := (101, 1302)) rfl) g1 oa1.2.2.2 (by decide) L.2.2.1 (Nat.le_of_ble_eq_true rfl) hq) (fun h2 e3 => ?_)
  have L4 := L.ext e3
  refine z_go (fun Q hq => x_aload_n (dA d_To_begin 9 rfl) rfl rfl (x_getR (dA d_To_begin 10 rfl) f_To_11 (L4.sh (x := (11, 3)) rfl) (by decide) (by decide) rfl (L4.rf 95 rfl) (x_sipush (dA d_To_begin 11 rfl) (by decide) (x_bipush (dA d_To_begin 12 rfl) (by decide) hq)))) ?_
  refine z_gd (fun g5 => ?_)
  refine z_sto (Ext.pc (ch_lit (48 : Int) rfl).1 (ch_lit (48 : Int) rfl).2) (fun Q hq => x_cast (dA d_To_begin 13 rfl) (L4.sh (x := (101, 1302)) rfl) g5.1 g5.2 (by decide) (ch_lit (48 : Int) rfl).1 (ch_lit (48 : Int) rfl).2 hq) (fun h6 e7 => ?_)
  have L8 := L4.ext e7
  refine z_go (fun Q hq => x_aload_n (dA d_To_begin 14 rfl) rfl rfl (x_getR (dA d_To_begin 15 rfl) f_To_11 (L8.sh (x := (11, 3)) rfl) (by decide) (by decide) rfl (L8.rf 95 rfl) (x_sipush (dA d_To_begin 16 rfl) (by decide) (x_bipush (dA d_To_begin 17 rfl) (by decide) hq)))) ?_
  refine z_gd (fun g9 => ?_)
  refine z_sto (Ext.pc (ch_lit (49 : Int) rfl).1 (ch_lit (49 : Int) rfl).2) (fun Q hq => x_cast (dA d_To_begin 18 rfl) (L8.sh (x := (101, 1302)) rfl) g9.1 g9.2 (by decide) (ch_lit (49 : Int) rfl).1 (ch_lit (49 : Int) rfl).2 hq) (fun h10 e11 => ?_)
  have L12 := L8.ext e11
  refine z_go (fun Q hq => x_aload_n (dA d_To_begin 19 rfl) rfl rfl (x_iconst (dA d_To_begin 20 rfl) hq)) ?_
  refine z_sto (Ext.pi (L12.sh (x := (11, 3)) rfl) (by decide) (inR_lit (0 : Int) rfl)) (fun Q hq => x_putI (dA d_To_begin 21 rfl) p_To_28 (L12.sh (x := (11, 3)) rfl) (by decide) cl_To rfl hq) (fun h13 e14 => ?_)
  have L15 := L12.ext e14
  refine z_go (fun Q hq => x_aload_n (dA d_To_begin 22 rfl) rfl rfl (x_iconst (dA d_To_begin 23 rfl) hq)) ?_
  refine z_sto (Ext.pi (L15.sh (x := (11, 3)) rfl) (by decide) (inR_lit (0 : Int) rfl)) (fun Q hq => x_putI (dA d_To_begin 24 rfl) p_To_31 (L15.sh (x := (11, 3)) rfl) (by decide) cl_To rfl hq) (fun h16 e17 => ?_)
  have L18 := L15.ext e17
  exact z_retv (dA d_To_begin 25 rfl) rfl
/-! TwoMills$SecondMill.mill(LTwoMills$Letters;)I -/
noncomputable def F_Sm_mill_119 (h : MH) : RS Int := some (.inl (mGi h 87 2), h)
theorem S_Sm_mill_119 {d : Nat} (hd : 93 ≤ d) {ex : Nat} {h : MH} (L : LayC h) : OK d k_Sm_mill 119 [mR 86, mN, mN, mN] [mR ex] h cI inR (F_Sm_mill_119   h) := by
  unfold F_Sm_mill_119
  refine z_go (fun Q hq => x_astore_n (dA d_Sm_mill 64 rfl) rfl (by decide) rfl (x_aload_n (dA d_Sm_mill 65 rfl) rfl rfl (x_getR (dA d_Sm_mill 66 rfl) f_Sm_12 (L.sh (x := (10, 12)) rfl) (by decide) (by decide) rfl (L.rf 86 rfl) (x_getI (dA d_Sm_mill 67 rfl) f_Sm_103 (L.sh (x := (11, 3)) rfl) (by decide) (by decide) rfl hq)))) ?_
  exact z_reti (dA d_Sm_mill 68 rfl) rfl (L.rg _ _)
noncomputable def F_Sm_mill_106 (G44 : Nat → Nat → Int → Int → MH → RS Int) (v1 : Nat) (v1n : Nat) (v2 : Int) (v3 : Int) (h : MH) : RS Int := gd (inR (v3 + (1 : Int))) (G44 v1 v1n v2 (v3 + (1 : Int)) h)
theorem S_Sm_mill_106 {d : Nat} (hd : 93 ≤ d) {G44 : Nat → Nat → Int → Int → MH → RS Int} (hG44 : ∀ (v1 : Nat) (v1n : Nat) (v2 : Int) (v3 : Int) (h : MH), LayC h → LeO h v1 v1n → inR v2 → inR v3 → OK d k_Sm_mill 44 [mR 86, mR v1, mI v2, mI v3] [] h cI inR (G44 v1 v1n v2 v3 h)) {v1 : Nat} {v1n : Nat} {v2 : Int} {v3 : Int} {h : MH} (L : LayC h) (ov1 : LeO h v1 v1n) (rv2 : inR v2) (rv3 : inR v3) : OK d k_Sm_mill 106 [mR 86, mR v1, mI v2, mI v3] [] h cI inR (F_Sm_mill_106 G44 v1 v1n v2 v3 h) := by
  unfold F_Sm_mill_106
  refine z_gd (fun g1 => ?_)
  refine z_go (fun Q hq => x_iinc (dA d_Sm_mill 59 rfl) rfl (by decide) rfl (x_goto (dA d_Sm_mill 60 rfl) rfl hq)) ?_
  exact hG44 v1 v1n v2 (v3 + (1 : Int)) h L ov1 rv2 g1
noncomputable def F_Sm_mill_82 (G44 : Nat → Nat → Int → Int → MH → RS Int) (v1 : Nat) (v1n : Nat) (v2 : Int) (v3 : Int) (h : MH) : RS Int := gd (inR ((mGi h 86 7) + (1 : Int))) (sto (mPi h 86 7 ((mGi h 86 7) + (1 : Int))) fun h3 => bndC (F_Sm_cutLine v2 v3 h3) (fun x8 h6 => bndC (F_Sm_takeLine h6) (fun x13 h11 => gd (inR (v3 + (1 : Int))) (F_Sm_mill_106 G44 v1 v1n (v3 + (1 : Int)) v3 h11)) (fun te hh => gd (te = 13) (F_Sm_mill_119   hh))) (fun te hh => gd (te = 13) (F_Sm_mill_119   hh)))
theorem S_Sm_mill_82 {d : Nat} (hd : 93 ≤ d) {G44 : Nat → Nat → Int → Int → MH → RS Int} (hG44 : ∀ (v1 : Nat) (v1n : Nat) (v2 : Int) (v3 : Int) (h : MH), LayC h → LeO h v1 v1n → inR v2 → inR v3 → OK d k_Sm_mill 44 [mR 86, mR v1, mI v2, mI v3] [] h cI inR (G44 v1 v1n v2 v3 h)) {v1 : Nat} {v1n : Nat} {v2 : Int} {v3 : Int} {h : MH} (L : LayC h) (ov1 : LeO h v1 v1n) (rv2 : inR v2) (rv3 : inR v3) : OK d k_Sm_mill 82 [mR 86, mR v1, mI v2, mI v3] [] h cI inR (F_Sm_mill_82 G44 v1 v1n v2 v3 h) := by
  unfold F_Sm_mill_82
  refine z_go (fun Q hq => x_aload_n (dA d_Sm_mill 43 rfl) rfl rfl (x_dup (dA d_Sm_mill 44 rfl) rfl (x_getI (dA d_Sm_mill 45 rfl) f_Sm_81 (L.sh (x := (10, 12)) rfl) (by decide) (by decide) rfl (x_iconst (dA d_Sm_mill 46 rfl) hq)))) ?_
  refine z_gd (fun g2 => ?_)
  refine z_go (fun Q hq => x_iadd (dA d_Sm_mill 47 rfl) hq) ?_
  refine z_sto (Ext.pi (L.sh (x := (10, 12)) rfl) (by decide) g2) (fun Q hq => x_putI (dA d_Sm_mill 48 rfl) p_Sm_81 (L.sh (x := (10, 12)) rfl) (by decide) cl_Sm rfl hq) (fun h3 e4 => ?_)
  have L5 := L.ext e4
  refine z_go (fun Q hq => x_aload_n (dA d_Sm_mill 49 rfl) rfl rfl (x_iload_n (dA d_Sm_mill 50 rfl) rfl rfl (x_iload_n (dA d_Sm_mill 51 rfl) rfl rfl hq))) ?_
  refine z_bndC (rest := []) (st1 := fun _ => []) (S_Sm_cutLine (d := 2) (Nat.le_refl _) L5 rv2 rv3) (fun _ => rfl) (fun Q' Q => x_callV (as := [mI v2, mI v3]) (rest := []) (k' := k_Sm_cutLine) (dA d_Sm_mill 52 rfl) o_Sm_cutLine lk_Sm_91 im_Sm_cutLine se_Sm_cutLine rfl (L5.sh (x := (10, 12)) rfl) (by decide) (Nat.le_of_ble_eq_true rfl) (Nat.le_trans (Nat.le_of_ble_eq_true rfl) hd) (Nat.le_of_ble_eq_true rfl)) (fun x8 h6 e7 p9 => ?_) (z_hand (te' := 13) (H := fun _ hh => F_Sm_mill_119   hh) rfl rfl (by decide) rfl (by decide) cl_Sm_101 (fun ex hh eh => z_fgt (ls' := [mR 86, mN, mN, mN]) ⟨.inr rfl, .inl rfl, .inl rfl, .inl rfl, trivial⟩ (S_Sm_mill_119 (ex := ex) hd  (L5.ext eh) )))
  have L10 := L5.ext e7
  refine z_go (fun Q hq => x_aload_n (dA d_Sm_mill 53 rfl) rfl rfl hq) ?_
  refine z_bndC (rest := []) (st1 := fun _ => []) (S_Sm_takeLine (d := 92) (Nat.le_refl _) L10 ) (fun _ => rfl) (fun Q' Q => x_callV (as := []) (rest := []) (k' := k_Sm_takeLine) (dA d_Sm_mill 54 rfl) o_Sm_takeLine lk_Sm_95 im_Sm_takeLine se_Sm_takeLine rfl (L10.sh (x := (10, 12)) rfl) (by decide) (Nat.le_of_ble_eq_true rfl) (Nat.le_trans (Nat.le_of_ble_eq_true rfl) hd) (Nat.le_of_ble_eq_true rfl)) (fun x13 h11 e12 p14 => ?_) (z_hand (te' := 13) (H := fun _ hh => F_Sm_mill_119   hh) rfl rfl (by decide) rfl (by decide) cl_Sm_101 (fun ex hh eh => z_fgt (ls' := [mR 86, mN, mN, mN]) ⟨.inr rfl, .inl rfl, .inl rfl, .inl rfl, trivial⟩ (S_Sm_mill_119 (ex := ex) hd  (L10.ext eh) )))
  have L15 := L10.ext e12
  refine z_go (fun Q hq => x_iload_n (dA d_Sm_mill 55 rfl) rfl rfl (x_iconst (dA d_Sm_mill 56 rfl) hq)) ?_
  refine z_gd (fun g16 => ?_)
  refine z_go (fun Q hq => x_iadd (dA d_Sm_mill 57 rfl) (x_istore_n (dA d_Sm_mill 58 rfl) rfl (by decide) rfl hq)) ?_
  exact S_Sm_mill_106 hd hG44 L15 (((ov1.ext e4).ext e7).ext e12) g16 rv3
noncomputable def F_Sm_mill_44_b (G44 : Nat → Nat → Int → Int → MH → RS Int) (v1 : Nat) (v1n : Nat) (v2 : Int) (v3 : Int) (h : MH) : RS Int := if (mGi h v1 1) < v3 then bndC (F_Sm_requireNoLevel h) (fun x20 h18 => some (.inl (0 : Int), h18)) (fun te hh => gd (te = 13) (F_Sm_mill_119   hh)) else if (mGi h v1 1) ≤ v3 then if v3 ≤ v2 then F_Sm_mill_106 G44 v1 v1n v2 v3 h else F_Sm_mill_82 G44 v1 v1n v2 v3 h else gd (0 ≤ v3 ∧ v3 < 1302) (if (mGi h 88 v3.toNat) = (10 : Int) then F_Sm_mill_82 G44 v1 v1n v2 v3 h else F_Sm_mill_106 G44 v1 v1n v2 v3 h)
theorem S_Sm_mill_44_b {d : Nat} (hd : 93 ≤ d) {G44 : Nat → Nat → Int → Int → MH → RS Int} (hG44 : ∀ (v1 : Nat) (v1n : Nat) (v2 : Int) (v3 : Int) (h : MH), LayC h → LeO h v1 v1n → inR v2 → inR v3 → OK d k_Sm_mill 44 [mR 86, mR v1, mI v2, mI v3] [] h cI inR (G44 v1 v1n v2 v3 h)) {v1 : Nat} {v1n : Nat} {v2 : Int} {v3 : Int} {h : MH} (L : LayC h) (ov1 : LeO h v1 v1n) (rv2 : inR v2) (rv3 : inR v3) : OK d k_Sm_mill 44 [mR 86, mR v1, mI v2, mI v3] [] h cI inR (F_Sm_mill_44_b G44 v1 v1n v2 v3 h) := by
  unfold F_Sm_mill_44_b
  refine z_go (fun Q hq => x_iload_n (dA d_Sm_mill 24 rfl) rfl rfl (x_aload_n (dA d_Sm_mill 25 rfl) rfl rfl (x_getI (dA d_Sm_mill 26 rfl) f_Sm_84 ov1.1 (by decide) (by decide) rfl hq))) ?_
  refine z_br (fun Q => x_icmp_gt (dA d_Sm_mill 27 rfl) rfl rv3 (L.rg _ _)) (fun c17 => ?_) (fun c17 => ?_)
  · refine z_go (fun Q hq => x_aload_n (dA d_Sm_mill 61 rfl) rfl rfl hq) ?_
    refine z_bndC (rest := []) (st1 := fun _ => []) (S_Sm_requireNoLevel (d := 1) (Nat.le_refl _) L ) (fun _ => rfl) (fun Q' Q => x_callV (as := []) (rest := []) (k' := k_Sm_requireNoLevel) (dA d_Sm_mill 62 rfl) o_Sm_requireNoLevel lk_Sm_98 im_Sm_requireNoLevel se_Sm_requireNoLevel rfl (L.sh (x := (10, 12)) rfl) (by decide) (Nat.le_of_ble_eq_true rfl) (Nat.le_trans (Nat.le_of_ble_eq_true rfl) hd) (Nat.le_of_ble_eq_true rfl)) (fun x20 h18 e19 p21 => ?_) (z_hand (te' := 13) (H := fun _ hh => F_Sm_mill_119   hh) rfl rfl (by decide) rfl (by decide) cl_Sm_101 (fun ex hh eh => z_fgt (ls' := [mR 86, mN, mN, mN]) ⟨.inr rfl, .inl rfl, .inl rfl, .inl rfl, trivial⟩ (S_Sm_mill_119 (ex := ex) hd  (L.ext eh) )))
    have L22 := L.ext e19
    refine z_go (fun Q hq => x_goto (dA d_Sm_mill 63 rfl) rfl (x_iconst (dA d_Sm_mill 69 rfl) hq)) ?_
    exact z_reti (dA d_Sm_mill 70 rfl) rfl (inR_lit (0 : Int) rfl)
  · refine z_go (fun Q hq => x_iload_n (dA d_Sm_mill 28 rfl) rfl rfl (x_aload_n (dA d_Sm_mill 29 rfl) rfl rfl (x_getI (dA d_Sm_mill 30 rfl) f_Sm_84 ov1.1 (by decide) (by decide) rfl hq))) ?_
    refine z_br (fun Q => x_icmp_ge (dA d_Sm_mill 31 rfl) rfl rv3 (L.rg _ _)) (fun c23 => ?_) (fun c23 => ?_)
    · refine z_go (fun Q hq => x_iload_n (dA d_Sm_mill 40 rfl) rfl rfl (x_iload_n (dA d_Sm_mill 41 rfl) rfl rfl hq)) ?_
      refine z_br (fun Q => x_icmp_ge (dA d_Sm_mill 42 rfl) rfl rv2 rv3) (fun c24 => ?_) (fun c24 => ?_)
      · exact S_Sm_mill_106 hd hG44 L ov1 rv2 rv3
      · exact S_Sm_mill_82 hd hG44 L ov1 rv2 rv3
    · refine z_go (fun Q hq => x_aload_n (dA d_Sm_mill 32 rfl) rfl rfl (x_getR (dA d_Sm_mill 33 rfl) f_Sm_12 (L.sh (x := (10, 12)) rfl) (by decide) (by decide) rfl (L.rf 86 rfl) (x_getR (dA d_Sm_mill 34 rfl) f_Sm_87 (L.sh (x := (11, 3)) rfl) (by decide) (by decide) rfl (L.rf 95 rfl) (x_iload_n (dA d_Sm_mill 35 rfl) rfl rfl hq)))) ?_
      refine z_gd (fun g25 => ?_)
      refine z_go (fun Q hq => x_cald (dA d_Sm_mill 36 rfl) (L.sh (x := (101, 1302)) rfl) g25.1 g25.2 (by decide) (x_bipush (dA d_Sm_mill 37 rfl) (by decide) hq)) ?_
      refine z_brn (fun Q => x_icmp_ne (dA d_Sm_mill 38 rfl) rfl (L.rg _ _) (inR_lit (10 : Int) rfl)) (fun c26 => ?_) (fun c26 => ?_)
      · refine z_go (fun Q hq => x_goto (dA d_Sm_mill 39 rfl) rfl hq) ?_
        exact S_Sm_mill_82 hd hG44 L ov1 rv2 rv3
      · exact S_Sm_mill_106 hd hG44 L ov1 rv2 rv3
noncomputable def F_Sm_mill_44 (v1 : Nat) (v1n : Nat) (v2 : Int) (v3 : Int) (h : MH) : RS Int := itr (fun self (q : Nat × Nat × Int × Int × MH) => F_Sm_mill_44_b (fun v1 v1n v2 v3 h => self (v1, v1n, v2, v3, h)) q.1 q.2.1 q.2.2.1 q.2.2.2.1 q.2.2.2.2) FU (v1, v1n, v2, v3, h)
theorem S_Sm_mill_44 {d : Nat} (hd : 93 ≤ d) {v1 : Nat} {v1n : Nat} {v2 : Int} {v3 : Int} {h : MH} (L : LayC h) (ov1 : LeO h v1 v1n) (rv2 : inR v2) (rv3 : inR v3) : OK d k_Sm_mill 44 [mR 86, mR v1, mI v2, mI v3] [] h cI inR (F_Sm_mill_44  v1 v1n v2 v3 h) := by
  unfold F_Sm_mill_44
  refine z_itr (P := fun q : Nat × Nat × Int × Int × MH => LayC q.2.2.2.2 ∧ LeO q.2.2.2.2 q.1 q.2.1 ∧ inR q.2.2.1 ∧ inR q.2.2.2.1 ∧ True) (ls := fun q : Nat × Nat × Int × Int × MH => [mR 86, mR q.1, mI q.2.2.1, mI q.2.2.2.1]) (hp := fun q : Nat × Nat × Int × Int × MH => q.2.2.2.2) (fun self hs q hq => ?_) FU (v1, v1n, v2, v3, h) ⟨L, ov1, rv2, rv3, trivial⟩
  exact S_Sm_mill_44_b hd (fun v1 v1n v2 v3 h L ov1 rv2 rv3 => hs (v1, v1n, v2, v3, h) ⟨L, ov1, rv2, rv3, trivial⟩) hq.1 hq.2.1 hq.2.2.1 hq.2.2.2.1
noncomputable def F_Sm_mill (a1 : Nat) (a1n : Nat) (h : MH) : RS Int := bnd (F_To_begin a1 a1n h) fun x29 h27 => bnd (F_Na_empty h27) fun x34 h32 => bnd (F_Le_empty 101 600 h32) fun x39 h37 => sto (mPi h37 95 3 (0 : Int)) fun h42 => sto (mPi h42 86 11 (0 : Int)) fun h45 => sto (mPi h45 86 7 (-1 : Int)) fun h48 => F_Sm_mill_44 a1 a1n (0 : Int) (0 : Int) h48
theorem S_Sm_mill {d : Nat} (hd : 93 ≤ d) {a1 : Nat} {a1n : Nat} {h : MH} (L : LayC h) (oa1 : LeO h a1 a1n) : OK d k_Sm_mill 0 [mR 86, mR a1, mN, mN] [] h cI inR (F_Sm_mill  a1 a1n h) := by
  unfold F_Sm_mill
  refine z_go (fun Q hq => x_aload_n (dA d_Sm_mill 0 rfl) rfl rfl (x_getR (dA d_Sm_mill 1 rfl) f_Sm_12 (L.sh (x := (10, 12)) rfl) (by decide) (by decide) rfl (L.rf 86 rfl) (x_aload_n (dA d_Sm_mill 2 rfl) rfl rfl hq))) ?_
  refine z_bnd (rest := []) (st1 := fun _ => []) (S_To_begin (d := 0) (Nat.le_refl _) L oa1) (by decide) (fun _ => rfl) (fun Q' Q => x_callV (as := [mR a1]) (rest := []) (k' := k_To_begin) (dA d_Sm_mill 3 rfl) o_To_begin lk_Sm_66 im_To_begin se_To_begin rfl (L.sh (x := (11, 3)) rfl) (by decide) (Nat.le_of_ble_eq_true rfl) (Nat.le_trans (Nat.le_of_ble_eq_true rfl) hd) (Nat.le_of_ble_eq_true rfl)) (fun x29 h27 e28 p30 => ?_)
  have L31 := L.ext e28
  refine z_go (fun Q hq => x_aload_n (dA d_Sm_mill 4 rfl) rfl rfl (x_getR (dA d_Sm_mill 5 rfl) f_Sm_21 (L31.sh (x := (10, 12)) rfl) (by decide) (by decide) rfl (L31.rf 87 rfl) hq)) ?_
  refine z_bnd (rest := []) (st1 := fun _ => []) (S_Na_empty (d := 0) (Nat.le_refl _) L31 ) (by decide) (fun _ => rfl) (fun Q' Q => x_callV (as := []) (rest := []) (k' := k_Na_empty) (dA d_Sm_mill 6 rfl) o_Na_empty lk_Sm_70 im_Na_empty se_Na_empty rfl (L31.sh (x := (8, 5)) rfl) (by decide) (Nat.le_of_ble_eq_true rfl) (Nat.le_trans (Nat.le_of_ble_eq_true rfl) hd) (Nat.le_of_ble_eq_true rfl)) (fun x34 h32 e33 p35 => ?_)
  have L36 := L31.ext e33
  refine z_go (fun Q hq => x_aload_n (dA d_Sm_mill 7 rfl) rfl rfl (x_getR (dA d_Sm_mill 8 rfl) f_Sm_48 (L36.sh (x := (10, 12)) rfl) (by decide) (by decide) rfl (L36.rf 90 rfl) hq)) ?_
  refine z_bnd (rest := []) (st1 := fun _ => []) (S_Le_empty (d := 0) (Nat.le_refl _) L36 (L36.le rfl 108 rfl rfl (by decide))) (by decide) (fun _ => rfl) (fun Q' Q => x_callV (as := []) (rest := []) (k' := k_Le_empty) (dA d_Sm_mill 9 rfl) o_Le_empty lk_Sm_73 im_Le_empty se_Le_empty rfl (L36.sh (x := (1, 3)) rfl) (by decide) (Nat.le_of_ble_eq_true rfl) (Nat.le_trans (Nat.le_of_ble_eq_true rfl) hd) (Nat.le_of_ble_eq_true rfl)) (fun x39 h37 e38 p40 => ?_)
  have L41 := L36.ext e38
  refine z_go (fun Q hq => x_aload_n (dA d_Sm_mill 10 rfl) rfl rfl (x_getR (dA d_Sm_mill 11 rfl) f_Sm_30 (L41.sh (x := (10, 12)) rfl) (by decide) (by decide) rfl (L41.rf 88 rfl) (x_iconst (dA d_Sm_mill 12 rfl) hq))) ?_
  refine z_sto (Ext.pi (L41.sh (x := (4, 4)) rfl) (by decide) (inR_lit (0 : Int) rfl)) (fun Q hq => x_putI (dA d_Sm_mill 13 rfl) p_Sm_74 (L41.sh (x := (4, 4)) rfl) (by decide) cl_Ex rfl hq) (fun h42 e43 => ?_)
  have L44 := L41.ext e43
  refine z_go (fun Q hq => x_aload_n (dA d_Sm_mill 14 rfl) rfl rfl (x_iconst (dA d_Sm_mill 15 rfl) hq)) ?_
  refine z_sto (Ext.pi (L44.sh (x := (10, 12)) rfl) (by decide) (inR_lit (0 : Int) rfl)) (fun Q hq => x_putI (dA d_Sm_mill 16 rfl) p_Sm_78 (L44.sh (x := (10, 12)) rfl) (by decide) cl_Sm rfl hq) (fun h45 e46 => ?_)
  have L47 := L44.ext e46
  refine z_go (fun Q hq => x_aload_n (dA d_Sm_mill 17 rfl) rfl rfl (x_iconst (dA d_Sm_mill 18 rfl) hq)) ?_
  refine z_sto (Ext.pi (L47.sh (x := (10, 12)) rfl) (by decide) (inR_lit (-1 : Int) rfl)) (fun Q hq => x_putI (dA d_Sm_mill 19 rfl) p_Sm_81 (L47.sh (x := (10, 12)) rfl) (by decide) cl_Sm rfl hq) (fun h48 e49 => ?_)
  have L50 := L47.ext e49
  refine z_go (fun Q hq => x_iconst (dA d_Sm_mill 20 rfl) (x_istore_n (dA d_Sm_mill 21 rfl) rfl (by decide) rfl (x_iconst (dA d_Sm_mill 22 rfl) (x_istore_n (dA d_Sm_mill 23 rfl) rfl (by decide) rfl hq)))) ?_
  exact S_Sm_mill_44 hd  L50 ((((((oa1.ext e28).ext e33).ext e38).ext e43).ext e46).ext e49) (inR_lit (0 : Int) rfl) (inR_lit (0 : Int) rfl)
/-! TwoMills.second()I -/
noncomputable def F_T_second_37 (s1 : Int) (h : MH) : RS Int := sto (mPi h 0 4 s1) fun h1 => if (mGi h1 0 3) = 0 then some (.inl (mGi h1 101 1), h1) else thr 13 h1
theorem S_T_second_37 {d : Nat} (hd : 94 ≤ d) {s1 : Int} {h : MH} (L : LayC h) (rs1 : inR s1) : OK d k_T_second 37 [mR 0] [mI s1, mR 0] h cI inR (F_T_second_37  s1 h) := by
  unfold F_T_second_37
  refine z_sto (Ext.pi (L.sh (x := (0, 5)) rfl) (by decide) rs1) (fun Q hq => x_putI (dA d_T_second 17 rfl) p_T_68 (L.sh (x := (0, 5)) rfl) (by decide) cl_T rfl hq) (fun h1 e2 => ?_)
  have L3 := L.ext e2
  refine z_go (fun Q hq => x_aload_n (dA d_T_second 18 rfl) rfl rfl (x_getI (dA d_T_second 19 rfl) f_T_65 (L3.sh (x := (0, 5)) rfl) (by decide) (by decide) rfl hq)) ?_
  refine z_br (fun Q => x_if_eq (dA d_T_second 20 rfl) rfl (L3.rg _ _)) (fun c4 => ?_) (fun c4 => ?_)
  · refine z_go (fun Q hq => x_aload_n (dA d_T_second 25 rfl) rfl rfl (x_getR (dA d_T_second 26 rfl) f_T_28 (L3.sh (x := (0, 5)) rfl) (by decide) (by decide) rfl (L3.rf 2 rfl) (x_getR (dA d_T_second 27 rfl) f_T_81 (L3.sh (x := (10, 12)) rfl) (by decide) (by decide) rfl (L3.rf 90 rfl) (x_getI (dA d_T_second 28 rfl) f_T_54 (L3.sh (x := (1, 3)) rfl) (by decide) (by decide) rfl hq)))) ?_
    exact z_reti (dA d_T_second 29 rfl) rfl (L3.rg _ _)
  · exact z_thr (dA d_T_second 21 rfl) (dA d_T_second 22 rfl) (dA d_T_second 23 rfl) (dA d_T_second 24 rfl) e_T_71 (fun _ hx => absurd hx List.not_mem_nil) (Nat.le_of_ble_eq_true rfl)
noncomputable def F_T_second (h : MH) : RS Int := bnd (F_Sm_mill 4 400 h) fun x7 h5 => sto (mPi h5 0 3 x7) fun h10 => if (mGi h10 0 3) = 0 then F_T_second_37 (0 : Int) h10 else F_T_second_37 (mGi h10 86 7) h10
theorem S_T_second {d : Nat} (hd : 94 ≤ d) {h : MH} (L : LayC h) : OK d k_T_second 0 [mR 0] [] h cI inR (F_T_second   h) := by
  unfold F_T_second
  refine z_go (fun Q hq => x_aload_n (dA d_T_second 0 rfl) rfl rfl (x_aload_n (dA d_T_second 1 rfl) rfl rfl (x_getR (dA d_T_second 2 rfl) f_T_28 (L.sh (x := (0, 5)) rfl) (by decide) (by decide) rfl (L.rf 2 rfl) (x_aload_n (dA d_T_second 3 rfl) rfl rfl (x_getR (dA d_T_second 4 rfl) f_T_21 (L.sh (x := (0, 5)) rfl) (by decide) (by decide) rfl (L.rf 1 rfl) (x_getR (dA d_T_second 5 rfl) f_T_74 (L.sh (x := (6, 7)) rfl) (by decide) (by decide) rfl (L.rf 4 rfl) hq)))))) ?_
  refine z_bnd (rest := [mR 0]) (st1 := fun v => mI v :: [mR 0]) (S_Sm_mill (d := 93) (Nat.le_refl _) L (L.le rfl 9 rfl rfl (by decide))) (fun _ hx => absurd hx List.not_mem_nil) (fun _ => rfl) (fun Q' Q => x_callV (as := [mR 4]) (rest := [mR 0]) (k' := k_Sm_mill) (dA d_T_second 6 rfl) o_Sm_mill lk_T_77 im_Sm_mill se_Sm_mill rfl (L.sh (x := (10, 12)) rfl) (by decide) (Nat.le_of_ble_eq_true rfl) (Nat.le_trans (Nat.le_of_ble_eq_true rfl) hd) (Nat.le_of_ble_eq_true rfl)) (fun x7 h5 e6 p8 => ?_)
  have L9 := L.ext e6
  refine z_sto (Ext.pi (L9.sh (x := (0, 5)) rfl) (by decide) p8) (fun Q hq => x_putI (dA d_T_second 7 rfl) p_T_65 (L9.sh (x := (0, 5)) rfl) (by decide) cl_T rfl hq) (fun h10 e11 => ?_)
  have L12 := L9.ext e11
  refine z_go (fun Q hq => x_aload_n (dA d_T_second 8 rfl) rfl rfl (x_aload_n (dA d_T_second 9 rfl) rfl rfl (x_getI (dA d_T_second 10 rfl) f_T_65 (L12.sh (x := (0, 5)) rfl) (by decide) (by decide) rfl hq))) ?_
  refine z_brn (fun Q => x_if_ne (dA d_T_second 11 rfl) rfl (L12.rg _ _)) (fun c13 => ?_) (fun c13 => ?_)
  · refine z_go (fun Q hq => x_iconst (dA d_T_second 12 rfl) (x_goto (dA d_T_second 13 rfl) rfl hq)) ?_
    exact S_T_second_37 hd  L12 (inR_lit (0 : Int) rfl)
  · refine z_go (fun Q hq => x_aload_n (dA d_T_second 14 rfl) rfl rfl (x_getR (dA d_T_second 15 rfl) f_T_28 (L12.sh (x := (0, 5)) rfl) (by decide) (by decide) rfl (L12.rf 2 rfl) (x_getI (dA d_T_second 16 rfl) f_T_78 (L12.sh (x := (10, 12)) rfl) (by decide) (by decide) rfl hq))) ?_
    exact S_T_second_37 hd  L12 (L12.rg _ _)
/-! TwoMills$Names.count()I -/
noncomputable def F_Na_count_27 (G4 : Int → Int → MH → RS Int) (v2 : Int) (s0 : Int) (s1 : Int) (h : MH) : RS Int := gd (inR (s0 + s1)) (gd (inR (v2 + (1 : Int))) (G4 (s0 + s1) (v2 + (1 : Int)) h))
theorem S_Na_count_27 {d : Nat} (hd : 0 ≤ d) {G4 : Int → Int → MH → RS Int} (hG4 : ∀ (v1 : Int) (v2 : Int) (h : MH), LayC h → inR v1 → inR v2 → OK d k_Na_count 4 [mR 89, mI v1, mI v2] [] h cI inR (G4 v1 v2 h)) {v2 : Int} {s0 : Int} {s1 : Int} {h : MH} (L : LayC h) (rv2 : inR v2) (rs0 : inR s0) (rs1 : inR s1) : OK d k_Na_count 27 [mR 89, mN, mI v2] [mI s1, mI s0] h cI inR (F_Na_count_27 G4 v2 s0 s1 h) := by
  unfold F_Na_count_27
  refine z_gd (fun g1 => ?_)
  refine z_go (fun Q hq => x_iadd (dA d_Na_count 18 rfl) (x_istore_n (dA d_Na_count 19 rfl) rfl (by decide) rfl hq)) ?_
  refine z_gd (fun g2 => ?_)
  refine z_go (fun Q hq => x_iinc (dA d_Na_count 20 rfl) rfl (by decide) rfl (x_goto (dA d_Na_count 21 rfl) rfl hq)) ?_
  exact hG4 (s0 + s1) (v2 + (1 : Int)) h L g1 g2
noncomputable def F_Na_count_4_b (G4 : Int → Int → MH → RS Int) (v1 : Int) (v2 : Int) (h : MH) : RS Int := if (8 : Int) ≤ v2 then some (.inl v1, h) else gd (0 ≤ v2 ∧ v2 < 8) (if (lgI (mGl h 90 v2.toNat) (0 : Int64)) = 0 then F_Na_count_27 G4 v2 v1 (0 : Int) h else F_Na_count_27 G4 v2 v1 (1 : Int) h)
theorem S_Na_count_4_b {d : Nat} (hd : 0 ≤ d) {G4 : Int → Int → MH → RS Int} (hG4 : ∀ (v1 : Int) (v2 : Int) (h : MH), LayC h → inR v1 → inR v2 → OK d k_Na_count 4 [mR 89, mI v1, mI v2] [] h cI inR (G4 v1 v2 h)) {v1 : Int} {v2 : Int} {h : MH} (L : LayC h) (rv1 : inR v1) (rv2 : inR v2) : OK d k_Na_count 4 [mR 89, mI v1, mI v2] [] h cI inR (F_Na_count_4_b G4 v1 v2 h) := by
  unfold F_Na_count_4_b
  refine z_go (fun Q hq => x_iload_n (dA d_Na_count 4 rfl) rfl rfl (x_bipush (dA d_Na_count 5 rfl) (by decide) hq)) ?_
  refine z_br (fun Q => x_icmp_ge (dA d_Na_count 6 rfl) rfl rv2 (inR_lit (8 : Int) rfl)) (fun c3 => ?_) (fun c3 => ?_)
  · refine z_go (fun Q hq => x_iload_n (dA d_Na_count 22 rfl) rfl rfl hq) ?_
    exact z_reti (dA d_Na_count 23 rfl) rfl rv1
  · refine z_go (fun Q hq => x_iload_n (dA d_Na_count 7 rfl) rfl rfl (x_aload_n (dA d_Na_count 8 rfl) rfl rfl (x_getR (dA d_Na_count 9 rfl) f_Na_9 (L.sh (x := (8, 5)) rfl) (by decide) (by decide) rfl (L.rf 96 rfl) (x_iload_n (dA d_Na_count 10 rfl) rfl rfl hq)))) ?_
    refine z_gd (fun g4 => ?_)
    refine z_go (fun Q hq => x_lald (dA d_Na_count 11 rfl) (L.sh (x := (103, 8)) rfl) g4.1 g4.2 (by decide) (x_lconst (v := 0) (dA d_Na_count 12 rfl) rfl (x_lcmp (dA d_Na_count 13 rfl) hq))) ?_
    refine z_br (fun Q => x_if_eq (dA d_Na_count 14 rfl) rfl (inR_lgI _ _)) (fun c5 => ?_) (fun c5 => ?_)
    · refine z_go (fun Q hq => x_iconst (dA d_Na_count 17 rfl) hq) ?_
      refine z_fgt (ls' := [mR 89, mN, mI v2]) ⟨.inr rfl, .inl rfl, .inr rfl, trivial⟩ ?_
      exact S_Na_count_27 hd hG4 L rv2 rv1 (inR_lit (0 : Int) rfl)
    · refine z_go (fun Q hq => x_iconst (dA d_Na_count 15 rfl) (x_goto (dA d_Na_count 16 rfl) rfl hq)) ?_
      refine z_fgt (ls' := [mR 89, mN, mI v2]) ⟨.inr rfl, .inl rfl, .inr rfl, trivial⟩ ?_
      exact S_Na_count_27 hd hG4 L rv2 rv1 (inR_lit (1 : Int) rfl)
noncomputable def F_Na_count_4 (v1 : Int) (v2 : Int) (h : MH) : RS Int := itr (fun self (q : Int × Int × MH) => F_Na_count_4_b (fun v1 v2 h => self (v1, v2, h)) q.1 q.2.1 q.2.2) FU (v1, v2, h)
theorem S_Na_count_4 {d : Nat} (hd : 0 ≤ d) {v1 : Int} {v2 : Int} {h : MH} (L : LayC h) (rv1 : inR v1) (rv2 : inR v2) : OK d k_Na_count 4 [mR 89, mI v1, mI v2] [] h cI inR (F_Na_count_4  v1 v2 h) := by
  unfold F_Na_count_4
  refine z_itr (P := fun q : Int × Int × MH => LayC q.2.2 ∧ inR q.1 ∧ inR q.2.1 ∧ True) (ls := fun q : Int × Int × MH => [mR 89, mI q.1, mI q.2.1]) (hp := fun q : Int × Int × MH => q.2.2) (fun self hs q hq => ?_) FU (v1, v2, h) ⟨L, rv1, rv2, trivial⟩
  exact S_Na_count_4_b hd (fun v1 v2 h L rv1 rv2 => hs (v1, v2, h) ⟨L, rv1, rv2, trivial⟩) hq.1 hq.2.1 hq.2.2.1
noncomputable def F_Na_count (h : MH) : RS Int := F_Na_count_4 (0 : Int) (0 : Int) h
theorem S_Na_count {d : Nat} (hd : 0 ≤ d) {h : MH} (L : LayC h) : OK d k_Na_count 0 [mR 89, mN, mN] [] h cI inR (F_Na_count   h) := by
  unfold F_Na_count
  refine z_go (fun Q hq => x_iconst (dA d_Na_count 0 rfl) (x_istore_n (dA d_Na_count 1 rfl) rfl (by decide) rfl (x_iconst (dA d_Na_count 2 rfl) (x_istore_n (dA d_Na_count 3 rfl) rfl (by decide) rfl hq)))) ?_
  exact S_Na_count_4 hd  L (inR_lit (0 : Int) rfl) (inR_lit (0 : Int) rfl)
/-! TwoMills.state(I)I -/
noncomputable def F_T_state (a1 : Int) (h : MH) : RS Int := if a1 = (0 : Int) then some (.inl (mGi h 0 3), h) else if a1 = (1 : Int) then some (.inl (mGi h 0 4), h) else if a1 = (2 : Int) then some (.inl (mGi h 3 5), h) else if a1 = (3 : Int) then some (.inl (mGi h 95 3), h) else if a1 = (4 : Int) then some (.inl (mGi h 6 4), h) else if a1 = (5 : Int) then bnd (F_Na_count h) fun x9 h7 => some (.inl x9, h7) else if a1 = (6 : Int) then some (.inl (mGi h 4 1), h) else if a1 = (7 : Int) then some (.inl (mGi h 101 1), h) else some (.inl (-1 : Int), h)
theorem S_T_state {d : Nat} (hd : 1 ≤ d) {a1 : Int} {h : MH} (L : LayC h) (ra1 : inR a1) : OK d k_T_state 0 [mR 0, mI a1] [] h cI inR (F_T_state  a1 h) := by
  unfold F_T_state
  refine z_go (fun Q hq => x_iload_n (dA d_T_state 0 rfl) rfl rfl hq) ?_
  refine z_ite (fun c1 => ?_) (fun c1 => ?_)
  · refine z_go (fun Q hq => x_tableIn (dA d_T_state 1 rfl) ra1 (by rw [c1] <;> decide) (by rw [c1] <;> decide) (by rw [c1] <;> rfl) rfl hq) ?_
    refine z_go (fun Q hq => x_aload_n (dA d_T_state 2 rfl) rfl rfl (x_getI (dA d_T_state 3 rfl) f_T_65 (L.sh (x := (0, 5)) rfl) (by decide) (by decide) rfl hq)) ?_
    exact z_reti (dA d_T_state 4 rfl) rfl (L.rg _ _)
  refine z_ite (fun c2 => ?_) (fun c2 => ?_)
  · refine z_go (fun Q hq => x_tableIn (dA d_T_state 1 rfl) ra1 (by rw [c2] <;> decide) (by rw [c2] <;> decide) (by rw [c2] <;> rfl) rfl hq) ?_
    refine z_go (fun Q hq => x_aload_n (dA d_T_state 5 rfl) rfl rfl (x_getI (dA d_T_state 6 rfl) f_T_68 (L.sh (x := (0, 5)) rfl) (by decide) (by decide) rfl hq)) ?_
    exact z_reti (dA d_T_state 7 rfl) rfl (L.rg _ _)
  refine z_ite (fun c3 => ?_) (fun c3 => ?_)
  · refine z_go (fun Q hq => x_tableIn (dA d_T_state 1 rfl) ra1 (by rw [c3] <;> decide) (by rw [c3] <;> decide) (by rw [c3] <;> rfl) rfl hq) ?_
    refine z_go (fun Q hq => x_aload_n (dA d_T_state 8 rfl) rfl rfl (x_getR (dA d_T_state 9 rfl) f_T_21 (L.sh (x := (0, 5)) rfl) (by decide) (by decide) rfl (L.rf 1 rfl) (x_getI (dA d_T_state 10 rfl) f_T_84 (L.sh (x := (6, 7)) rfl) (by decide) (by decide) rfl hq))) ?_
    exact z_reti (dA d_T_state 11 rfl) rfl (L.rg _ _)
  refine z_ite (fun c4 => ?_) (fun c4 => ?_)
  · refine z_go (fun Q hq => x_tableIn (dA d_T_state 1 rfl) ra1 (by rw [c4] <;> decide) (by rw [c4] <;> decide) (by rw [c4] <;> rfl) rfl hq) ?_
    refine z_go (fun Q hq => x_aload_n (dA d_T_state 12 rfl) rfl rfl (x_getR (dA d_T_state 13 rfl) f_T_28 (L.sh (x := (0, 5)) rfl) (by decide) (by decide) rfl (L.rf 2 rfl) (x_getR (dA d_T_state 14 rfl) f_T_87 (L.sh (x := (10, 12)) rfl) (by decide) (by decide) rfl (L.rf 88 rfl) (x_getI (dA d_T_state 15 rfl) f_T_91 (L.sh (x := (4, 4)) rfl) (by decide) (by decide) rfl hq)))) ?_
    exact z_reti (dA d_T_state 16 rfl) rfl (L.rg _ _)
  refine z_ite (fun c5 => ?_) (fun c5 => ?_)
  · refine z_go (fun Q hq => x_tableIn (dA d_T_state 1 rfl) ra1 (by rw [c5] <;> decide) (by rw [c5] <;> decide) (by rw [c5] <;> rfl) rfl hq) ?_
    refine z_go (fun Q hq => x_aload_n (dA d_T_state 17 rfl) rfl rfl (x_getR (dA d_T_state 18 rfl) f_T_21 (L.sh (x := (0, 5)) rfl) (by decide) (by decide) rfl (L.rf 1 rfl) (x_getR (dA d_T_state 19 rfl) f_T_96 (L.sh (x := (6, 7)) rfl) (by decide) (by decide) rfl (L.rf 5 rfl) (x_getI (dA d_T_state 20 rfl) f_T_100 (L.sh (x := (3, 5)) rfl) (by decide) (by decide) rfl hq)))) ?_
    exact z_reti (dA d_T_state 21 rfl) rfl (L.rg _ _)
  refine z_ite (fun c6 => ?_) (fun c6 => ?_)
  · refine z_go (fun Q hq => x_tableIn (dA d_T_state 1 rfl) ra1 (by rw [c6] <;> decide) (by rw [c6] <;> decide) (by rw [c6] <;> rfl) rfl hq) ?_
    refine z_go (fun Q hq => x_aload_n (dA d_T_state 22 rfl) rfl rfl (x_getR (dA d_T_state 23 rfl) f_T_28 (L.sh (x := (0, 5)) rfl) (by decide) (by decide) rfl (L.rf 2 rfl) (x_getR (dA d_T_state 24 rfl) f_T_105 (L.sh (x := (10, 12)) rfl) (by decide) (by decide) rfl (L.rf 87 rfl) hq))) ?_
    refine z_bnd (rest := []) (st1 := fun v => mI v :: []) (S_Na_count (d := 0) (Nat.le_refl _) L ) (fun _ hx => absurd hx List.not_mem_nil) (fun _ => rfl) (fun Q' Q => x_callV (as := []) (rest := []) (k' := k_Na_count) (dA d_T_state 25 rfl) o_Na_count lk_T_109 im_Na_count se_Na_count rfl (L.sh (x := (8, 5)) rfl) (by decide) (Nat.le_of_ble_eq_true rfl) (Nat.le_trans (Nat.le_of_ble_eq_true rfl) hd) (Nat.le_of_ble_eq_true rfl)) (fun x9 h7 e8 p10 => ?_)
    have L11 := L.ext e8
    exact z_reti (dA d_T_state 26 rfl) rfl p10
  refine z_ite (fun c12 => ?_) (fun c12 => ?_)
  · refine z_go (fun Q hq => x_tableIn (dA d_T_state 1 rfl) ra1 (by rw [c12] <;> decide) (by rw [c12] <;> decide) (by rw [c12] <;> rfl) rfl hq) ?_
    refine z_go (fun Q hq => x_aload_n (dA d_T_state 27 rfl) rfl rfl (x_getR (dA d_T_state 28 rfl) f_T_21 (L.sh (x := (0, 5)) rfl) (by decide) (by decide) rfl (L.rf 1 rfl) (x_getR (dA d_T_state 29 rfl) f_T_74 (L.sh (x := (6, 7)) rfl) (by decide) (by decide) rfl (L.rf 4 rfl) (x_getI (dA d_T_state 30 rfl) f_T_54 (L.sh (x := (1, 3)) rfl) (by decide) (by decide) rfl hq)))) ?_
    exact z_reti (dA d_T_state 31 rfl) rfl (L.rg _ _)
  refine z_ite (fun c13 => ?_) (fun c13 => ?_)
  · refine z_go (fun Q hq => x_tableIn (dA d_T_state 1 rfl) ra1 (by rw [c13] <;> decide) (by rw [c13] <;> decide) (by rw [c13] <;> rfl) rfl hq) ?_
    refine z_go (fun Q hq => x_aload_n (dA d_T_state 32 rfl) rfl rfl (x_getR (dA d_T_state 33 rfl) f_T_28 (L.sh (x := (0, 5)) rfl) (by decide) (by decide) rfl (L.rf 2 rfl) (x_getR (dA d_T_state 34 rfl) f_T_81 (L.sh (x := (10, 12)) rfl) (by decide) (by decide) rfl (L.rf 90 rfl) (x_getI (dA d_T_state 35 rfl) f_T_54 (L.sh (x := (1, 3)) rfl) (by decide) (by decide) rfl hq)))) ?_
    exact z_reti (dA d_T_state 36 rfl) rfl (L.rg _ _)
  refine z_go (fun Q hq => x_tableOut (dA d_T_state 1 rfl) ra1 (by omega) rfl hq) ?_
  refine z_go (fun Q hq => x_iconst (dA d_T_state 37 rfl) hq) ?_
  exact z_reti (dA d_T_state 38 rfl) rfl (inR_lit (-1 : Int) rfl)
/-! TwoMills.character(II)I -/
noncomputable def F_T_character (a1 : Int) (a2 : Int) (h : MH) : RS Int := if a1 = 0 then bnd (F_Le_at 4 400 a2 h) fun x4 h2 => some (.inl x4, h2) else if a1 = (1 : Int) then bnd (F_Le_at 101 600 a2 h) fun x10 h8 => some (.inl x10, h8) else some (.inl (-1 : Int), h)
theorem S_T_character {d : Nat} (hd : 1 ≤ d) {a1 : Int} {a2 : Int} {h : MH} (L : LayC h) (ra1 : inR a1) (ra2 : inR a2) : OK d k_T_character 0 [mR 0, mI a1, mI a2] [] h cI inR (F_T_character  a1 a2 h) := by
  unfold F_T_character
  refine z_go (fun Q hq => x_iload_n (dA d_T_character 0 rfl) rfl rfl hq) ?_
  refine z_brn (fun Q => x_if_ne (dA d_T_character 1 rfl) rfl ra1) (fun c1 => ?_) (fun c1 => ?_)
  · refine z_go (fun Q hq => x_aload_n (dA d_T_character 2 rfl) rfl rfl (x_getR (dA d_T_character 3 rfl) f_T_21 (L.sh (x := (0, 5)) rfl) (by decide) (by decide) rfl (L.rf 1 rfl) (x_getR (dA d_T_character 4 rfl) f_T_74 (L.sh (x := (6, 7)) rfl) (by decide) (by decide) rfl (L.rf 4 rfl) (x_iload_n (dA d_T_character 5 rfl) rfl rfl hq)))) ?_
    refine z_bnd (rest := []) (st1 := fun v => mI v :: []) (S_Le_at (d := 0) (Nat.le_refl _) L (L.le rfl 9 rfl rfl (by decide)) ra2) (fun _ hx => absurd hx List.not_mem_nil) (fun _ => rfl) (fun Q' Q => x_callV (as := [mI a2]) (rest := []) (k' := k_Le_at) (dA d_T_character 6 rfl) o_Le_at lk_T_114 im_Le_at se_Le_at rfl (L.sh (x := (1, 3)) rfl) (by decide) (Nat.le_of_ble_eq_true rfl) (Nat.le_trans (Nat.le_of_ble_eq_true rfl) hd) (Nat.le_of_ble_eq_true rfl)) (fun x4 h2 e3 p5 => ?_)
    have L6 := L.ext e3
    exact z_reti (dA d_T_character 7 rfl) rfl p5
  · refine z_go (fun Q hq => x_iload_n (dA d_T_character 8 rfl) rfl rfl (x_iconst (dA d_T_character 9 rfl) hq)) ?_
    refine z_brn (fun Q => x_icmp_ne (dA d_T_character 10 rfl) rfl ra1 (inR_lit (1 : Int) rfl)) (fun c7 => ?_) (fun c7 => ?_)
    · refine z_go (fun Q hq => x_aload_n (dA d_T_character 11 rfl) rfl rfl (x_getR (dA d_T_character 12 rfl) f_T_28 (L.sh (x := (0, 5)) rfl) (by decide) (by decide) rfl (L.rf 2 rfl) (x_getR (dA d_T_character 13 rfl) f_T_81 (L.sh (x := (10, 12)) rfl) (by decide) (by decide) rfl (L.rf 90 rfl) (x_iload_n (dA d_T_character 14 rfl) rfl rfl hq)))) ?_
      refine z_bnd (rest := []) (st1 := fun v => mI v :: []) (S_Le_at (d := 0) (Nat.le_refl _) L (L.le rfl 108 rfl rfl (by decide)) ra2) (fun _ hx => absurd hx List.not_mem_nil) (fun _ => rfl) (fun Q' Q => x_callV (as := [mI a2]) (rest := []) (k' := k_Le_at) (dA d_T_character 15 rfl) o_Le_at lk_T_114 im_Le_at se_Le_at rfl (L.sh (x := (1, 3)) rfl) (by decide) (Nat.le_of_ble_eq_true rfl) (Nat.le_trans (Nat.le_of_ble_eq_true rfl) hd) (Nat.le_of_ble_eq_true rfl)) (fun x10 h8 e9 p11 => ?_)
      have L12 := L.ext e9
      refine z_go (fun Q hq => x_goto (dA d_T_character 16 rfl) rfl hq) ?_
      exact z_reti (dA d_T_character 18 rfl) rfl p11
    · refine z_go (fun Q hq => x_iconst (dA d_T_character 17 rfl) hq) ?_
      exact z_reti (dA d_T_character 18 rfl) rfl (inR_lit (-1 : Int) rfl)
/-! TwoMillsModel.thrown()I -/
noncomputable def F_M_thrown (h : MH) : RS Int := some (.inl (mGi h 107 0), h)
theorem S_M_thrown {d : Nat} (hd : 0 ≤ d) {h : MH} (L : LayC h) : OK d k_M_thrown 0 [mR 107] [] h cI inR (F_M_thrown   h) := by
  unfold F_M_thrown
  refine z_go (fun Q hq => x_aload_n (dA d_M_thrown 0 rfl) rfl rfl (x_getI (dA d_M_thrown 1 rfl) f_M_136 (L.sh (x := (12, 66)) rfl) (by decide) (by decide) rfl hq)) ?_
  exact z_reti (dA d_M_thrown 2 rfl) rfl (L.rg _ _)
/-! TwoMillsModel.refuse(I)I -/
noncomputable def F_M_refuse (a1 : Int) (h : MH) : RS Int := sto (mPi h 107 0 a1) fun h1 => some (.inl (0 : Int), h1)
theorem S_M_refuse {d : Nat} (hd : 0 ≤ d) {a1 : Int} {h : MH} (L : LayC h) (ra1 : inR a1) : OK d k_M_refuse 0 [mR 107, mI a1] [] h cI inR (F_M_refuse  a1 h) := by
  unfold F_M_refuse
  refine z_go (fun Q hq => x_aload_n (dA d_M_refuse 0 rfl) rfl rfl (x_iload_n (dA d_M_refuse 1 rfl) rfl rfl hq)) ?_
  refine z_sto (Ext.pi (L.sh (x := (12, 66)) rfl) (by decide) ra1) (fun Q hq => x_putI (dA d_M_refuse 2 rfl) p_M_136 (L.sh (x := (12, 66)) rfl) (by decide) cl_M rfl hq) (fun h1 e2 => ?_)
  have L3 := L.ext e2
  refine z_go (fun Q hq => x_iconst (dA d_M_refuse 3 rfl) hq) ?_
  exact z_reti (dA d_M_refuse 4 rfl) rfl (inR_lit (0 : Int) rfl)
/-! TwoMillsModel.start()V -/
noncomputable def F_M_start (h : MH) : RS Unit := sto (mPi h 107 0 (0 : Int)) fun h1 => sto (mPi h1 107 1 (0 : Int)) fun h4 => sto (mPi h4 107 27 (0 : Int)) fun h7 => some (.inl (), h7)
theorem S_M_start {d : Nat} (hd : 0 ≤ d) {h : MH} (L : LayC h) : OK d k_M_start 0 [mR 107] [] h cV pT (F_M_start   h) := by
  unfold F_M_start
  refine z_go (fun Q hq => x_aload_n (dA d_M_start 0 rfl) rfl rfl (x_iconst (dA d_M_start 1 rfl) hq)) ?_
  refine z_sto (Ext.pi (L.sh (x := (12, 66)) rfl) (by decide) (inR_lit (0 : Int) rfl)) (fun Q hq => x_putI (dA d_M_start 2 rfl) p_M_136 (L.sh (x := (12, 66)) rfl) (by decide) cl_M rfl hq) (fun h1 e2 => ?_)
  have L3 := L.ext e2
  refine z_go (fun Q hq => x_aload_n (dA d_M_start 3 rfl) rfl rfl (x_iconst (dA d_M_start 4 rfl) hq)) ?_
  refine z_sto (Ext.pi (L3.sh (x := (12, 66)) rfl) (by decide) (inR_lit (0 : Int) rfl)) (fun Q hq => x_putI (dA d_M_start 5 rfl) p_M_140 (L3.sh (x := (12, 66)) rfl) (by decide) cl_M rfl hq) (fun h4 e5 => ?_)
  have L6 := L3.ext e5
  refine z_go (fun Q hq => x_aload_n (dA d_M_start 6 rfl) rfl rfl (x_iconst (dA d_M_start 7 rfl) hq)) ?_
  refine z_sto (Ext.pi (L6.sh (x := (12, 66)) rfl) (by decide) (inR_lit (0 : Int) rfl)) (fun Q hq => x_putI (dA d_M_start 8 rfl) p_M_143 (L6.sh (x := (12, 66)) rfl) (by decide) cl_M rfl hq) (fun h7 e8 => ?_)
  have L9 := L6.ext e8
  exact z_retv (dA d_M_start 9 rfl) rfl
/-! TwoMillsModel.fail(I)V -/
noncomputable def F_M_fail_16 (s1 : Int) (h : MH) : RS Unit := sto (mPi h 107 1 s1) fun h1 => some (.inl (), h1)
theorem S_M_fail_16 {d : Nat} (hd : 0 ≤ d) {s1 : Int} {h : MH} (L : LayC h) (rs1 : inR s1) : OK d k_M_fail 16 [mN, mN] [mI s1, mR 107] h cV pT (F_M_fail_16  s1 h) := by
  unfold F_M_fail_16
  refine z_sto (Ext.pi (L.sh (x := (12, 66)) rfl) (by decide) rs1) (fun Q hq => x_putI (dA d_M_fail 8 rfl) p_M_140 (L.sh (x := (12, 66)) rfl) (by decide) cl_M rfl hq) (fun h1 e2 => ?_)
  have L3 := L.ext e2
  exact z_retv (dA d_M_fail 9 rfl) rfl
noncomputable def F_M_fail (a1 : Int) (h : MH) : RS Unit := if (mGi h 107 1) = 0 then F_M_fail_16 a1 h else F_M_fail_16 (mGi h 107 1) h
theorem S_M_fail {d : Nat} (hd : 0 ≤ d) {a1 : Int} {h : MH} (L : LayC h) (ra1 : inR a1) : OK d k_M_fail 0 [mR 107, mI a1] [] h cV pT (F_M_fail  a1 h) := by
  unfold F_M_fail
  refine z_go (fun Q hq => x_aload_n (dA d_M_fail 0 rfl) rfl rfl (x_aload_n (dA d_M_fail 1 rfl) rfl rfl (x_getI (dA d_M_fail 2 rfl) f_M_140 (L.sh (x := (12, 66)) rfl) (by decide) (by decide) rfl hq))) ?_
  refine z_brn (fun Q => x_if_ne (dA d_M_fail 3 rfl) rfl (L.rg _ _)) (fun c4 => ?_) (fun c4 => ?_)
  · refine z_go (fun Q hq => x_iload_n (dA d_M_fail 4 rfl) rfl rfl (x_goto (dA d_M_fail 5 rfl) rfl hq)) ?_
    refine z_fgt (ls' := [mN, mN]) ⟨.inl rfl, .inl rfl, trivial⟩ ?_
    exact S_M_fail_16 hd  L ra1
  · refine z_go (fun Q hq => x_aload_n (dA d_M_fail 6 rfl) rfl rfl (x_getI (dA d_M_fail 7 rfl) f_M_140 (L.sh (x := (12, 66)) rfl) (by decide) (by decide) rfl hq)) ?_
    refine z_fgt (ls' := [mN, mN]) ⟨.inl rfl, .inl rfl, trivial⟩ ?_
    exact S_M_fail_16 hd  L (L.rg _ _)
/-! TwoMillsModel.need(ZI)Z -/
noncomputable def F_M_need_9 (h : MH) : RS Int := if (mGi h 107 1) = 0 then some (.inl (1 : Int), h) else some (.inl (0 : Int), h)
theorem S_M_need_9 {d : Nat} (hd : 1 ≤ d) {h : MH} (L : LayC h) : OK d k_M_need 9 [mR 107, mN, mN] [] h cI p01 (F_M_need_9   h) := by
  unfold F_M_need_9
  refine z_go (fun Q hq => x_aload_n (dA d_M_need 5 rfl) rfl rfl (x_getI (dA d_M_need 6 rfl) f_M_140 (L.sh (x := (12, 66)) rfl) (by decide) (by decide) rfl hq)) ?_
  refine z_brn (fun Q => x_if_ne (dA d_M_need 7 rfl) rfl (L.rg _ _)) (fun c1 => ?_) (fun c1 => ?_)
  · refine z_go (fun Q hq => x_iconst (dA d_M_need 8 rfl) (x_goto (dA d_M_need 9 rfl) rfl hq)) ?_
    exact z_retz (dA d_M_need 11 rfl) rfl (.inr rfl)
  · refine z_go (fun Q hq => x_iconst (dA d_M_need 10 rfl) hq) ?_
    exact z_retz (dA d_M_need 11 rfl) rfl (.inl rfl)
noncomputable def F_M_need (a1 : Int) (a2 : Int) (h : MH) : RS Int := if a1 = 0 then bnd (F_M_fail a2 h) fun x5 h3 => F_M_need_9  h3 else F_M_need_9  h
theorem S_M_need {d : Nat} (hd : 1 ≤ d) {a1 : Int} {a2 : Int} {h : MH} (L : LayC h) (ra1 : p01 a1) (ra2 : inR a2) : OK d k_M_need 0 [mR 107, mI a1, mI a2] [] h cI p01 (F_M_need  a1 a2 h) := by
  unfold F_M_need
  refine z_go (fun Q hq => x_iload_n (dA d_M_need 0 rfl) rfl rfl hq) ?_
  refine z_brn (fun Q => x_if_ne (dA d_M_need 1 rfl) rfl ra1.inR) (fun c2 => ?_) (fun c2 => ?_)
  · refine z_go (fun Q hq => x_aload_n (dA d_M_need 2 rfl) rfl rfl (x_iload_n (dA d_M_need 3 rfl) rfl rfl hq)) ?_
    refine z_bnd (rest := []) (st1 := fun _ => []) (S_M_fail (d := 0) (Nat.le_refl _) L ra2) (fun _ hx => absurd hx List.not_mem_nil) (fun _ => rfl) (fun Q' Q => x_callV (as := [mI a2]) (rest := []) (k' := k_M_fail) (dA d_M_need 4 rfl) o_M_fail lk_M_146 im_M_fail se_M_fail rfl (L.sh (x := (12, 66)) rfl) (by decide) (Nat.le_of_ble_eq_true rfl) (Nat.le_trans (Nat.le_of_ble_eq_true rfl) hd) (Nat.le_of_ble_eq_true rfl)) (fun x5 h3 e4 p6 => ?_)
    have L7 := L.ext e4
    refine z_fgt (ls' := [mR 107, mN, mN]) ⟨.inr rfl, .inl rfl, .inl rfl, trivial⟩ ?_
    exact S_M_need_9 hd  L7 
  · refine z_fgt (ls' := [mR 107, mN, mN]) ⟨.inr rfl, .inl rfl, .inl rfl, trivial⟩ ?_
    exact S_M_need_9 hd  L 
/-! TwoMillsModel.isLetter(I)Z -/
noncomputable def F_M_isLetter_30 (h : MH) : RS Int := some (.inl (1 : Int), h)
theorem S_M_isLetter_30 {d : Nat} (hd : 0 ≤ d) {h : MH} (L : LayC h) : OK d k_M_isLetter 30 [mN] [] h cI p01 (F_M_isLetter_30   h) := by
  unfold F_M_isLetter_30
  refine z_go (fun Q hq => x_iconst (dA d_M_isLetter 15 rfl) (x_goto (dA d_M_isLetter 16 rfl) rfl hq)) ?_
  exact z_retz (dA d_M_isLetter 18 rfl) rfl (.inr rfl)
noncomputable def F_M_isLetter_24 (v0 : Int) (h : MH) : RS Int := if v0 = (95 : Int) then F_M_isLetter_30  h else some (.inl (0 : Int), h)
theorem S_M_isLetter_24 {d : Nat} (hd : 0 ≤ d) {v0 : Int} {h : MH} (L : LayC h) (rv0 : inR v0) : OK d k_M_isLetter 24 [mI v0] [] h cI p01 (F_M_isLetter_24  v0 h) := by
  unfold F_M_isLetter_24
  refine z_go (fun Q hq => x_iload_n (dA d_M_isLetter 12 rfl) rfl rfl (x_bipush (dA d_M_isLetter 13 rfl) (by decide) hq)) ?_
  refine z_brn (fun Q => x_icmp_ne (dA d_M_isLetter 14 rfl) rfl rv0 (inR_lit (95 : Int) rfl)) (fun c1 => ?_) (fun c1 => ?_)
  · refine z_fgt (ls' := [mN]) ⟨.inl rfl, trivial⟩ ?_
    exact S_M_isLetter_30 hd  L 
  · refine z_go (fun Q hq => x_iconst (dA d_M_isLetter 17 rfl) hq) ?_
    exact z_retz (dA d_M_isLetter 18 rfl) rfl (.inl rfl)
noncomputable def F_M_isLetter_12 (v0 : Int) (h : MH) : RS Int := if v0 < (65 : Int) then F_M_isLetter_24 v0 h else if v0 ≤ (90 : Int) then F_M_isLetter_30  h else F_M_isLetter_24 v0 h
theorem S_M_isLetter_12 {d : Nat} (hd : 0 ≤ d) {v0 : Int} {h : MH} (L : LayC h) (rv0 : inR v0) : OK d k_M_isLetter 12 [mI v0] [] h cI p01 (F_M_isLetter_12  v0 h) := by
  unfold F_M_isLetter_12
  refine z_go (fun Q hq => x_iload_n (dA d_M_isLetter 6 rfl) rfl rfl (x_bipush (dA d_M_isLetter 7 rfl) (by decide) hq)) ?_
  refine z_br (fun Q => x_icmp_lt (dA d_M_isLetter 8 rfl) rfl rv0 (inR_lit (65 : Int) rfl)) (fun c2 => ?_) (fun c2 => ?_)
  · exact S_M_isLetter_24 hd  L rv0
  · refine z_go (fun Q hq => x_iload_n (dA d_M_isLetter 9 rfl) rfl rfl (x_bipush (dA d_M_isLetter 10 rfl) (by decide) hq)) ?_
    refine z_br (fun Q => x_icmp_le (dA d_M_isLetter 11 rfl) rfl rv0 (inR_lit (90 : Int) rfl)) (fun c3 => ?_) (fun c3 => ?_)
    · refine z_fgt (ls' := [mN]) ⟨.inl rfl, trivial⟩ ?_
      exact S_M_isLetter_30 hd  L 
    · exact S_M_isLetter_24 hd  L rv0
noncomputable def F_M_isLetter (a1 : Int) (h : MH) : RS Int := if a1 < (97 : Int) then F_M_isLetter_12 a1 h else if a1 ≤ (122 : Int) then F_M_isLetter_30  h else F_M_isLetter_12 a1 h
theorem S_M_isLetter {d : Nat} (hd : 0 ≤ d) {a1 : Int} {h : MH} (L : LayC h) (ra1 : inR a1) : OK d k_M_isLetter 0 [mI a1] [] h cI p01 (F_M_isLetter  a1 h) := by
  unfold F_M_isLetter
  refine z_go (fun Q hq => x_iload_n (dA d_M_isLetter 0 rfl) rfl rfl (x_bipush (dA d_M_isLetter 1 rfl) (by decide) hq)) ?_
  refine z_br (fun Q => x_icmp_lt (dA d_M_isLetter 2 rfl) rfl ra1 (inR_lit (97 : Int) rfl)) (fun c4 => ?_) (fun c4 => ?_)
  · exact S_M_isLetter_12 hd  L ra1
  · refine z_go (fun Q hq => x_iload_n (dA d_M_isLetter 3 rfl) rfl rfl (x_bipush (dA d_M_isLetter 4 rfl) (by decide) hq)) ?_
    refine z_br (fun Q => x_icmp_le (dA d_M_isLetter 5 rfl) rfl ra1 (inR_lit (122 : Int) rfl)) (fun c5 => ?_) (fun c5 => ?_)
    · refine z_fgt (ls' := [mN]) ⟨.inl rfl, trivial⟩ ?_
      exact S_M_isLetter_30 hd  L 
    · exact S_M_isLetter_12 hd  L ra1
/-! TwoMillsModel.isDigit(I)Z -/
noncomputable def F_M_isDigit_16 (h : MH) : RS Int := some (.inl (0 : Int), h)
theorem S_M_isDigit_16 {d : Nat} (hd : 0 ≤ d) {h : MH} (L : LayC h) : OK d k_M_isDigit 16 [mN] [] h cI p01 (F_M_isDigit_16   h) := by
  unfold F_M_isDigit_16
  refine z_go (fun Q hq => x_iconst (dA d_M_isDigit 8 rfl) hq) ?_
  exact z_retz (dA d_M_isDigit 9 rfl) rfl (.inl rfl)
noncomputable def F_M_isDigit (a1 : Int) (h : MH) : RS Int := if a1 < (48 : Int) then F_M_isDigit_16  h else if (57 : Int) < a1 then F_M_isDigit_16  h else some (.inl (1 : Int), h)
theorem S_M_isDigit {d : Nat} (hd : 0 ≤ d) {a1 : Int} {h : MH} (L : LayC h) (ra1 : inR a1) : OK d k_M_isDigit 0 [mI a1] [] h cI p01 (F_M_isDigit  a1 h) := by
  unfold F_M_isDigit
  refine z_go (fun Q hq => x_iload_n (dA d_M_isDigit 0 rfl) rfl rfl (x_bipush (dA d_M_isDigit 1 rfl) (by decide) hq)) ?_
  refine z_br (fun Q => x_icmp_lt (dA d_M_isDigit 2 rfl) rfl ra1 (inR_lit (48 : Int) rfl)) (fun c1 => ?_) (fun c1 => ?_)
  · refine z_fgt (ls' := [mN]) ⟨.inl rfl, trivial⟩ ?_
    exact S_M_isDigit_16 hd  L 
  · refine z_go (fun Q hq => x_iload_n (dA d_M_isDigit 3 rfl) rfl rfl (x_bipush (dA d_M_isDigit 4 rfl) (by decide) hq)) ?_
    refine z_br (fun Q => x_icmp_gt (dA d_M_isDigit 5 rfl) rfl ra1 (inR_lit (57 : Int) rfl)) (fun c2 => ?_) (fun c2 => ?_)
    · refine z_fgt (ls' := [mN]) ⟨.inl rfl, trivial⟩ ?_
      exact S_M_isDigit_16 hd  L 
    · refine z_go (fun Q hq => x_iconst (dA d_M_isDigit 6 rfl) (x_goto (dA d_M_isDigit 7 rfl) rfl hq)) ?_
      exact z_retz (dA d_M_isDigit 9 rfl) rfl (.inr rfl)
/-! TwoMillsModel.isPart(I)Z -/
noncomputable def F_M_isPart_14 (h : MH) : RS Int := some (.inl (1 : Int), h)
theorem S_M_isPart_14 {d : Nat} (hd : 1 ≤ d) {h : MH} (L : LayC h) : OK d k_M_isPart 14 [mN] [] h cI p01 (F_M_isPart_14   h) := by
  unfold F_M_isPart_14
  refine z_go (fun Q hq => x_iconst (dA d_M_isPart 6 rfl) (x_goto (dA d_M_isPart 7 rfl) rfl hq)) ?_
  exact z_retz (dA d_M_isPart 9 rfl) rfl (.inr rfl)
noncomputable def F_M_isPart (a1 : Int) (h : MH) : RS Int := bnd (F_M_isLetter a1 h) fun x3 h1 => if x3 = 0 then bnd (F_M_isDigit a1 h1) fun x9 h7 => if x9 = 0 then some (.inl (0 : Int), h7) else F_M_isPart_14  h7 else F_M_isPart_14  h1
theorem S_M_isPart {d : Nat} (hd : 1 ≤ d) {a1 : Int} {h : MH} (L : LayC h) (ra1 : inR a1) : OK d k_M_isPart 0 [mI a1] [] h cI p01 (F_M_isPart  a1 h) := by
  unfold F_M_isPart
  refine z_go (fun Q hq => x_iload_n (dA d_M_isPart 0 rfl) rfl rfl hq) ?_
  refine z_bnd (rest := []) (st1 := fun v => mI v :: []) (S_M_isLetter (d := 0) (Nat.le_refl _) L ra1) (fun _ hx => absurd hx List.not_mem_nil) (fun _ => rfl) (fun Q' Q => x_callS (as := [mI a1]) (rest := []) (k' := k_M_isLetter) (dA d_M_isPart 1 rfl) o_M_isLetter lk_M_150 st_M_isLetter (Nat.le_of_ble_eq_true rfl) (Nat.le_trans (Nat.le_of_ble_eq_true rfl) hd) (Nat.le_of_ble_eq_true rfl)) (fun x3 h1 e2 p4 => ?_)
  have L5 := L.ext e2
  refine z_brn (fun Q => x_if_ne (dA d_M_isPart 2 rfl) rfl p4.inR) (fun c6 => ?_) (fun c6 => ?_)
  · refine z_go (fun Q hq => x_iload_n (dA d_M_isPart 3 rfl) rfl rfl hq) ?_
    refine z_bnd (rest := []) (st1 := fun v => mI v :: []) (S_M_isDigit (d := 0) (Nat.le_refl _) L5 ra1) (fun _ hx => absurd hx List.not_mem_nil) (fun _ => rfl) (fun Q' Q => x_callS (as := [mI a1]) (rest := []) (k' := k_M_isDigit) (dA d_M_isPart 4 rfl) o_M_isDigit lk_M_154 st_M_isDigit (Nat.le_of_ble_eq_true rfl) (Nat.le_trans (Nat.le_of_ble_eq_true rfl) hd) (Nat.le_of_ble_eq_true rfl)) (fun x9 h7 e8 p10 => ?_)
    have L11 := L5.ext e8
    refine z_br (fun Q => x_if_eq (dA d_M_isPart 5 rfl) rfl p10.inR) (fun c12 => ?_) (fun c12 => ?_)
    · refine z_go (fun Q hq => x_iconst (dA d_M_isPart 8 rfl) hq) ?_
      exact z_retz (dA d_M_isPart 9 rfl) rfl (.inl rfl)
    · refine z_fgt (ls' := [mN]) ⟨.inl rfl, trivial⟩ ?_
      exact S_M_isPart_14 hd  L11 
  · refine z_fgt (ls' := [mN]) ⟨.inl rfl, trivial⟩ ?_
    exact S_M_isPart_14 hd  L5 
/-! TwoMillsModel.isCharacter(J)Z -/
noncomputable def F_M_isCharacter_28 (h : MH) : RS Int := some (.inl (0 : Int), h)
theorem S_M_isCharacter_28 {d : Nat} (hd : 0 ≤ d) {h : MH} (L : LayC h) : OK d k_M_isCharacter 28 [mN, mN] [] h cI p01 (F_M_isCharacter_28   h) := by
  unfold F_M_isCharacter_28
  refine z_go (fun Q hq => x_iconst (dA d_M_isCharacter 14 rfl) hq) ?_
  exact z_retz (dA d_M_isCharacter 15 rfl) rfl (.inl rfl)
noncomputable def F_M_isCharacter_24 (h : MH) : RS Int := some (.inl (1 : Int), h)
theorem S_M_isCharacter_24 {d : Nat} (hd : 0 ≤ d) {h : MH} (L : LayC h) : OK d k_M_isCharacter 24 [mN, mN] [] h cI p01 (F_M_isCharacter_24   h) := by
  unfold F_M_isCharacter_24
  refine z_go (fun Q hq => x_iconst (dA d_M_isCharacter 12 rfl) (x_goto (dA d_M_isCharacter 13 rfl) rfl hq)) ?_
  exact z_retz (dA d_M_isCharacter 15 rfl) rfl (.inr rfl)
noncomputable def F_M_isCharacter (a1 : Int64) (h : MH) : RS Int := if (lgI a1 (10 : Int64)) = 0 then F_M_isCharacter_24  h else if (lgI a1 (32 : Int64)) < 0 then F_M_isCharacter_28  h else if 0 < (lgI a1 (126 : Int64)) then F_M_isCharacter_28  h else F_M_isCharacter_24  h
theorem S_M_isCharacter {d : Nat} (hd : 0 ≤ d) {a1 : Int64} {h : MH} (L : LayC h) : OK d k_M_isCharacter 0 [mL a1, mN] [] h cI p01 (F_M_isCharacter  a1 h) := by
  unfold F_M_isCharacter
  refine z_go (fun Q hq => x_lload_n (dA d_M_isCharacter 0 rfl) rfl rfl (x_ldc2 (dA d_M_isCharacter 1 rfl) kl_M_157 (x_lcmp (dA d_M_isCharacter 2 rfl) hq))) ?_
  refine z_br (fun Q => x_if_eq (dA d_M_isCharacter 3 rfl) rfl (inR_lgI _ _)) (fun c1 => ?_) (fun c1 => ?_)
  · refine z_fgt (ls' := [mN, mN]) ⟨.inl rfl, .inl rfl, trivial⟩ ?_
    exact S_M_isCharacter_24 hd  L 
  · refine z_go (fun Q hq => x_lload_n (dA d_M_isCharacter 4 rfl) rfl rfl (x_ldc2 (dA d_M_isCharacter 5 rfl) kl_M_159 (x_lcmp (dA d_M_isCharacter 6 rfl) hq))) ?_
    refine z_br (fun Q => x_if_lt (dA d_M_isCharacter 7 rfl) rfl (inR_lgI _ _)) (fun c2 => ?_) (fun c2 => ?_)
    · refine z_fgt (ls' := [mN, mN]) ⟨.inl rfl, .inl rfl, trivial⟩ ?_
      exact S_M_isCharacter_28 hd  L 
    · refine z_go (fun Q hq => x_lload_n (dA d_M_isCharacter 8 rfl) rfl rfl (x_ldc2 (dA d_M_isCharacter 9 rfl) kl_M_161 (x_lcmp (dA d_M_isCharacter 10 rfl) hq))) ?_
      refine z_br (fun Q => x_if_gt (dA d_M_isCharacter 11 rfl) rfl (inR_lgI _ _)) (fun c3 => ?_) (fun c3 => ?_)
      · refine z_fgt (ls' := [mN, mN]) ⟨.inl rfl, .inl rfl, trivial⟩ ?_
        exact S_M_isCharacter_28 hd  L 
      · refine z_fgt (ls' := [mN, mN]) ⟨.inl rfl, .inl rfl, trivial⟩ ?_
        exact S_M_isCharacter_24 hd  L 
/-! TwoMillsModel.type(JI)I -/
noncomputable def F_M_type_148 (s1 : Int) (s2 : Int) (h : MH) : RS Int := gd (inR (s1 + s2)) (sto (mPi h 107 2 (s1 + s2)) fun h2 => if (mGi h2 107 0) = 0 then some (.inl (mGi h2 107 2), h2) else some (.inl (0 : Int), h2))
theorem S_M_type_148 {d : Nat} (hd : 1 ≤ d) {s1 : Int} {s2 : Int} {h : MH} (L : LayC h) (rs1 : inR s1) (rs2 : inR s2) : OK d k_M_type 148 [mR 107, mN, mN, mN, mN, mN] [mI s2, mI s1, mR 107] h cI inR (F_M_type_148  s1 s2 h) := by
  unfold F_M_type_148
  refine z_gd (fun g1 => ?_)
  refine z_go (fun Q hq => x_iadd (dA d_M_type 78 rfl) hq) ?_
  refine z_sto (Ext.pi (L.sh (x := (12, 66)) rfl) (by decide) g1) (fun Q hq => x_putI (dA d_M_type 79 rfl) p_M_169 (L.sh (x := (12, 66)) rfl) (by decide) cl_M rfl hq) (fun h2 e3 => ?_)
  have L4 := L.ext e3
  refine z_go (fun Q hq => x_aload_n (dA d_M_type 80 rfl) rfl rfl (x_getI (dA d_M_type 81 rfl) f_M_136 (L4.sh (x := (12, 66)) rfl) (by decide) (by decide) rfl hq)) ?_
  refine z_brn (fun Q => x_if_ne (dA d_M_type 82 rfl) rfl (L4.rg _ _)) (fun c5 => ?_) (fun c5 => ?_)
  · refine z_go (fun Q hq => x_aload_n (dA d_M_type 83 rfl) rfl rfl (x_getI (dA d_M_type 84 rfl) f_M_169 (L4.sh (x := (12, 66)) rfl) (by decide) (by decide) rfl (x_goto (dA d_M_type 85 rfl) rfl hq))) ?_
    exact z_reti (dA d_M_type 87 rfl) rfl (L4.rg _ _)
  · refine z_go (fun Q hq => x_iconst (dA d_M_type 86 rfl) hq) ?_
    exact z_reti (dA d_M_type 87 rfl) rfl (inR_lit (0 : Int) rfl)
noncomputable def F_M_type_131 (v3 : Int) (h : MH) : RS Int := if (mGi h 107 0) = 0 then F_M_type_148 (mGi h 107 2) v3 h else F_M_type_148 (mGi h 107 2) (0 : Int) h
theorem S_M_type_131 {d : Nat} (hd : 1 ≤ d) {v3 : Int} {h : MH} (L : LayC h) (rv3 : inR v3) : OK d k_M_type 131 [mR 107, mN, mN, mI v3, mN, mN] [] h cI inR (F_M_type_131  v3 h) := by
  unfold F_M_type_131
  refine z_go (fun Q hq => x_aload_n (dA d_M_type 69 rfl) rfl rfl (x_dup (dA d_M_type 70 rfl) rfl (x_getI (dA d_M_type 71 rfl) f_M_169 (L.sh (x := (12, 66)) rfl) (by decide) (by decide) rfl (x_aload_n (dA d_M_type 72 rfl) rfl rfl (x_getI (dA d_M_type 73 rfl) f_M_136 (L.sh (x := (12, 66)) rfl) (by decide) (by decide) rfl hq))))) ?_
  refine z_brn (fun Q => x_if_ne (dA d_M_type 74 rfl) rfl (L.rg _ _)) (fun c6 => ?_) (fun c6 => ?_)
  · refine z_go (fun Q hq => x_iload_n (dA d_M_type 75 rfl) rfl rfl (x_goto (dA d_M_type 76 rfl) rfl hq)) ?_
    refine z_fgt (ls' := [mR 107, mN, mN, mN, mN, mN]) ⟨.inr rfl, .inl rfl, .inl rfl, .inl rfl, .inl rfl, .inl rfl, trivial⟩ ?_
    exact S_M_type_148 hd  L (L.rg _ _) rv3
  · refine z_go (fun Q hq => x_iconst (dA d_M_type 77 rfl) hq) ?_
    refine z_fgt (ls' := [mR 107, mN, mN, mN, mN, mN]) ⟨.inr rfl, .inl rfl, .inl rfl, .inl rfl, .inl rfl, .inl rfl, trivial⟩ ?_
    exact S_M_type_148 hd  L (L.rg _ _) (inR_lit (0 : Int) rfl)
noncomputable def F_M_type_87_b (G87 : Int64 → Int → Int → MH → RS Int) (v1 : Int64) (v3 : Int) (v5 : Int) (h : MH) : RS Int := if v3 ≤ v5 then F_M_type_131 v3 h else if (mGi h 107 0) = 0 then gd (inR ((mGi h 107 2) + v5)) (gd (inR ((8 : Int) * v5)) (gd (0 ≤ (((v1 >>> ((Int32.ofInt ((8 : Int) * v5)).toInt64 &&& 63)) &&& (255 : Int64)).toInt32.toInt) ∧ (((v1 >>> ((Int32.ofInt ((8 : Int) * v5)).toInt64 &&& 63)) &&& (255 : Int64)).toInt32.toInt) < 65536) (gd (0 ≤ ((mGi h 107 2) + v5) ∧ ((mGi h 107 2) + v5) < 400) (sto (mPi h 108 ((mGi h 107 2) + v5).toNat (((v1 >>> ((Int32.ofInt ((8 : Int) * v5)).toInt64 &&& 63)) &&& (255 : Int64)).toInt32.toInt)) fun h13 => gd (inR (v5 + (1 : Int))) (G87 v1 v3 (v5 + (1 : Int)) h13))))) else F_M_type_131 v3 h
theorem S_M_type_87_b {d : Nat} (hd : 1 ≤ d) {G87 : Int64 → Int → Int → MH → RS Int} (hG87 : ∀ (v1 : Int64) (v3 : Int) (v5 : Int) (h : MH), LayC h → inR v3 → inR v5 → OK d k_M_type 87 [mR 107, mL v1, mN, mI v3, mN, mI v5] [] h cI inR (G87 v1 v3 v5 h)) {v1 : Int64} {v3 : Int} {v5 : Int} {h : MH} (L : LayC h) (rv3 : inR v3) (rv5 : inR v5) : OK d k_M_type 87 [mR 107, mL v1, mN, mI v3, mN, mI v5] [] h cI inR (F_M_type_87_b G87 v1 v3 v5 h) := by
  unfold F_M_type_87_b
  refine z_go (fun Q hq => x_iload (dA d_M_type 45 rfl) rfl (x_iload_n (dA d_M_type 46 rfl) rfl rfl hq)) ?_
  refine z_br (fun Q => x_icmp_ge (dA d_M_type 47 rfl) rfl rv5 rv3) (fun c7 => ?_) (fun c7 => ?_)
  · refine z_fgt (ls' := [mR 107, mN, mN, mI v3, mN, mN]) ⟨.inr rfl, .inl rfl, .inl rfl, .inr rfl, .inl rfl, .inl rfl, trivial⟩ ?_
    exact S_M_type_131 hd  L rv3
  · refine z_go (fun Q hq => x_aload_n (dA d_M_type 48 rfl) rfl rfl (x_getI (dA d_M_type 49 rfl) f_M_136 (L.sh (x := (12, 66)) rfl) (by decide) (by decide) rfl hq)) ?_
    refine z_brn (fun Q => x_if_ne (dA d_M_type 50 rfl) rfl (L.rg _ _)) (fun c8 => ?_) (fun c8 => ?_)
    · refine z_go (fun Q hq => x_aload_n (dA d_M_type 51 rfl) rfl rfl (x_getR (dA d_M_type 52 rfl) f_M_7 (L.sh (x := (12, 66)) rfl) (by decide) (by decide) rfl (L.rf 109 rfl) (x_aload_n (dA d_M_type 53 rfl) rfl rfl (x_getI (dA d_M_type 54 rfl) f_M_169 (L.sh (x := (12, 66)) rfl) (by decide) (by decide) rfl (x_iload (dA d_M_type 55 rfl) rfl hq))))) ?_
      refine z_gd (fun g9 => ?_)
      refine z_go (fun Q hq => x_iadd (dA d_M_type 56 rfl) (x_lload_n (dA d_M_type 57 rfl) rfl rfl (x_bipush (dA d_M_type 58 rfl) (by decide) (x_iload (dA d_M_type 59 rfl) rfl hq)))) ?_
      refine z_gd (fun g10 => ?_)
      refine z_go (fun Q hq => x_imul (dA d_M_type 60 rfl) (x_lshr (dA d_M_type 61 rfl) (x_ldc2 (dA d_M_type 62 rfl) kl_M_163 (x_land (dA d_M_type 63 rfl) (x_l2i (dA d_M_type 64 rfl) hq))))) ?_
      refine z_gd (fun g11 => ?_)
      refine z_go (fun Q hq => x_i2c (dA d_M_type 65 rfl) g11.1 g11.2 hq) ?_
      refine z_gd (fun g12 => ?_)
      refine z_sto (Ext.pc g11.1 g11.2) (fun Q hq => x_cast (dA d_M_type 66 rfl) (L.sh (x := (101, 400)) rfl) g12.1 g12.2 (by decide) g11.1 g11.2 hq) (fun h13 e14 => ?_)
      have L15 := L.ext e14
      refine z_gd (fun g16 => ?_)
      refine z_go (fun Q hq => x_iinc (dA d_M_type 67 rfl) rfl (by decide) rfl (x_goto (dA d_M_type 68 rfl) rfl hq)) ?_
      exact hG87 v1 v3 (v5 + (1 : Int)) h13 L15 rv3 g16
    · refine z_fgt (ls' := [mR 107, mN, mN, mI v3, mN, mN]) ⟨.inr rfl, .inl rfl, .inl rfl, .inr rfl, .inl rfl, .inl rfl, trivial⟩ ?_
      exact S_M_type_131 hd  L rv3
noncomputable def F_M_type_87 (v1 : Int64) (v3 : Int) (v5 : Int) (h : MH) : RS Int := itr (fun self (q : Int64 × Int × Int × MH) => F_M_type_87_b (fun v1 v3 v5 h => self (v1, v3, v5, h)) q.1 q.2.1 q.2.2.1 q.2.2.2) FU (v1, v3, v5, h)
theorem S_M_type_87 {d : Nat} (hd : 1 ≤ d) {v1 : Int64} {v3 : Int} {v5 : Int} {h : MH} (L : LayC h) (rv3 : inR v3) (rv5 : inR v5) : OK d k_M_type 87 [mR 107, mL v1, mN, mI v3, mN, mI v5] [] h cI inR (F_M_type_87  v1 v3 v5 h) := by
  unfold F_M_type_87
  refine z_itr (P := fun q : Int64 × Int × Int × MH => LayC q.2.2.2 ∧ inR q.2.1 ∧ inR q.2.2.1 ∧ True) (ls := fun q : Int64 × Int × Int × MH => [mR 107, mL q.1, mN, mI q.2.1, mN, mI q.2.2.1]) (hp := fun q : Int64 × Int × Int × MH => q.2.2.2) (fun self hs q hq => ?_) FU (v1, v3, v5, h) ⟨L, rv3, rv5, trivial⟩
  exact S_M_type_87_b hd (fun v1 v3 v5 h L rv3 rv5 => hs (v1, v3, v5, h) ⟨L, rv3, rv5, trivial⟩) hq.1 hq.2.1 hq.2.2.1
noncomputable def F_M_type_81 (v1 : Int64) (v3 : Int) (s1 : Int) (h : MH) : RS Int := sto (mPi h 107 0 s1) fun h17 => F_M_type_87 v1 v3 (0 : Int) h17
theorem S_M_type_81 {d : Nat} (hd : 1 ≤ d) {v1 : Int64} {v3 : Int} {s1 : Int} {h : MH} (L : LayC h) (rv3 : inR v3) (rs1 : inR s1) : OK d k_M_type 81 [mR 107, mL v1, mN, mI v3, mN, mN] [mI s1, mR 107] h cI inR (F_M_type_81  v1 v3 s1 h) := by
  unfold F_M_type_81
  refine z_sto (Ext.pi (L.sh (x := (12, 66)) rfl) (by decide) rs1) (fun Q hq => x_putI (dA d_M_type 42 rfl) p_M_136 (L.sh (x := (12, 66)) rfl) (by decide) cl_M rfl hq) (fun h17 e18 => ?_)
  have L19 := L.ext e18
  refine z_go (fun Q hq => x_iconst (dA d_M_type 43 rfl) (x_istore (dA d_M_type 44 rfl) (by decide) rfl hq)) ?_
  exact S_M_type_87 hd  L19 rv3 (inR_lit (0 : Int) rfl)
noncomputable def F_M_type_54 (v1 : Int64) (v3 : Int) (v4 : Int) (h : MH) : RS Int := if v4 = 0 then F_M_type_81 v1 v3 (1 : Int) h else gd (inR ((mGi h 107 2) + v3)) (if ((mGi h 107 2) + v3) ≤ (400 : Int) then F_M_type_81 v1 v3 (0 : Int) h else F_M_type_81 v1 v3 (2 : Int) h)
theorem S_M_type_54 {d : Nat} (hd : 1 ≤ d) {v1 : Int64} {v3 : Int} {v4 : Int} {h : MH} (L : LayC h) (rv3 : inR v3) (rv4 : inR v4) : OK d k_M_type 54 [mR 107, mL v1, mN, mI v3, mI v4, mN] [] h cI inR (F_M_type_54  v1 v3 v4 h) := by
  unfold F_M_type_54
  refine z_go (fun Q hq => x_aload_n (dA d_M_type 28 rfl) rfl rfl (x_iload (dA d_M_type 29 rfl) rfl hq)) ?_
  refine z_brn (fun Q => x_if_ne (dA d_M_type 30 rfl) rfl rv4) (fun c20 => ?_) (fun c20 => ?_)
  · refine z_go (fun Q hq => x_iconst (dA d_M_type 31 rfl) (x_goto (dA d_M_type 32 rfl) rfl hq)) ?_
    refine z_fgt (ls' := [mR 107, mL v1, mN, mI v3, mN, mN]) ⟨.inr rfl, .inr rfl, .inl rfl, .inr rfl, .inl rfl, .inl rfl, trivial⟩ ?_
    exact S_M_type_81 hd  L rv3 (inR_lit (1 : Int) rfl)
  · refine z_go (fun Q hq => x_aload_n (dA d_M_type 33 rfl) rfl rfl (x_getI (dA d_M_type 34 rfl) f_M_169 (L.sh (x := (12, 66)) rfl) (by decide) (by decide) rfl (x_iload_n (dA d_M_type 35 rfl) rfl rfl hq))) ?_
    refine z_gd (fun g21 => ?_)
    refine z_go (fun Q hq => x_iadd (dA d_M_type 36 rfl) (x_sipush (dA d_M_type 37 rfl) (by decide) hq)) ?_
    refine z_br (fun Q => x_icmp_le (dA d_M_type 38 rfl) rfl g21 (inR_lit (400 : Int) rfl)) (fun c22 => ?_) (fun c22 => ?_)
    · refine z_go (fun Q hq => x_iconst (dA d_M_type 41 rfl) hq) ?_
      refine z_fgt (ls' := [mR 107, mL v1, mN, mI v3, mN, mN]) ⟨.inr rfl, .inr rfl, .inl rfl, .inr rfl, .inl rfl, .inl rfl, trivial⟩ ?_
      exact S_M_type_81 hd  L rv3 (inR_lit (0 : Int) rfl)
    · refine z_go (fun Q hq => x_iconst (dA d_M_type 39 rfl) (x_goto (dA d_M_type 40 rfl) rfl hq)) ?_
      refine z_fgt (ls' := [mR 107, mL v1, mN, mI v3, mN, mN]) ⟨.inr rfl, .inr rfl, .inl rfl, .inr rfl, .inl rfl, .inl rfl, trivial⟩ ?_
      exact S_M_type_81 hd  L rv3 (inR_lit (2 : Int) rfl)
noncomputable def F_M_type_21_b (G21 : Int64 → Int → Int → Int → MH → RS Int) (v1 : Int64) (v3 : Int) (v4 : Int) (v5 : Int) (h : MH) : RS Int := if v3 ≤ v5 then F_M_type_54 v1 v3 v4 h else if v4 = 0 then F_M_type_54 v1 v3 v4 h else gd (inR ((8 : Int) * v5)) (bnd (F_M_isCharacter ((v1 >>> ((Int32.ofInt ((8 : Int) * v5)).toInt64 &&& 63)) &&& (255 : Int64)) h) fun x28 h26 => gd (inR (v5 + (1 : Int))) (G21 v1 v3 x28 (v5 + (1 : Int)) h26))
theorem S_M_type_21_b {d : Nat} (hd : 1 ≤ d) {G21 : Int64 → Int → Int → Int → MH → RS Int} (hG21 : ∀ (v1 : Int64) (v3 : Int) (v4 : Int) (v5 : Int) (h : MH), LayC h → inR v3 → inR v4 → inR v5 → OK d k_M_type 21 [mR 107, mL v1, mN, mI v3, mI v4, mI v5] [] h cI inR (G21 v1 v3 v4 v5 h)) {v1 : Int64} {v3 : Int} {v4 : Int} {v5 : Int} {h : MH} (L : LayC h) (rv3 : inR v3) (rv4 : inR v4) (rv5 : inR v5) : OK d k_M_type 21 [mR 107, mL v1, mN, mI v3, mI v4, mI v5] [] h cI inR (F_M_type_21_b G21 v1 v3 v4 v5 h) := by
  unfold F_M_type_21_b
  refine z_go (fun Q hq => x_iload (dA d_M_type 12 rfl) rfl (x_iload_n (dA d_M_type 13 rfl) rfl rfl hq)) ?_
  refine z_br (fun Q => x_icmp_ge (dA d_M_type 14 rfl) rfl rv5 rv3) (fun c23 => ?_) (fun c23 => ?_)
  · refine z_fgt (ls' := [mR 107, mL v1, mN, mI v3, mI v4, mN]) ⟨.inr rfl, .inr rfl, .inl rfl, .inr rfl, .inr rfl, .inl rfl, trivial⟩ ?_
    exact S_M_type_54 hd  L rv3 rv4
  · refine z_go (fun Q hq => x_iload (dA d_M_type 15 rfl) rfl hq) ?_
    refine z_br (fun Q => x_if_eq (dA d_M_type 16 rfl) rfl rv4) (fun c24 => ?_) (fun c24 => ?_)
    · refine z_fgt (ls' := [mR 107, mL v1, mN, mI v3, mI v4, mN]) ⟨.inr rfl, .inr rfl, .inl rfl, .inr rfl, .inr rfl, .inl rfl, trivial⟩ ?_
      exact S_M_type_54 hd  L rv3 rv4
    · refine z_go (fun Q hq => x_lload_n (dA d_M_type 17 rfl) rfl rfl (x_bipush (dA d_M_type 18 rfl) (by decide) (x_iload (dA d_M_type 19 rfl) rfl hq))) ?_
      refine z_gd (fun g25 => ?_)
      refine z_go (fun Q hq => x_imul (dA d_M_type 20 rfl) (x_lshr (dA d_M_type 21 rfl) (x_ldc2 (dA d_M_type 22 rfl) kl_M_163 (x_land (dA d_M_type 23 rfl) hq)))) ?_
      refine z_bnd (rest := []) (st1 := fun v => mI v :: []) (S_M_isCharacter (d := 0) (Nat.le_refl _) L ) (fun _ hx => absurd hx List.not_mem_nil) (fun _ => rfl) (fun Q' Q => x_callS (as := [mL ((v1 >>> ((Int32.ofInt ((8 : Int) * v5)).toInt64 &&& 63)) &&& (255 : Int64))]) (rest := []) (k' := k_M_isCharacter) (dA d_M_type 24 rfl) o_M_isCharacter lk_M_165 st_M_isCharacter (Nat.le_of_ble_eq_true rfl) (Nat.le_trans (Nat.le_of_ble_eq_true rfl) hd) (Nat.le_of_ble_eq_true rfl)) (fun x28 h26 e27 p29 => ?_)
      have L30 := L.ext e27
      refine z_go (fun Q hq => x_istore (dA d_M_type 25 rfl) (by decide) rfl hq) ?_
      refine z_gd (fun g31 => ?_)
      refine z_go (fun Q hq => x_iinc (dA d_M_type 26 rfl) rfl (by decide) rfl (x_goto (dA d_M_type 27 rfl) rfl hq)) ?_
      exact hG21 v1 v3 x28 (v5 + (1 : Int)) h26 L30 rv3 p29.inR g31
noncomputable def F_M_type_21 (v1 : Int64) (v3 : Int) (v4 : Int) (v5 : Int) (h : MH) : RS Int := itr (fun self (q : Int64 × Int × Int × Int × MH) => F_M_type_21_b (fun v1 v3 v4 v5 h => self (v1, v3, v4, v5, h)) q.1 q.2.1 q.2.2.1 q.2.2.2.1 q.2.2.2.2) FU (v1, v3, v4, v5, h)
theorem S_M_type_21 {d : Nat} (hd : 1 ≤ d) {v1 : Int64} {v3 : Int} {v4 : Int} {v5 : Int} {h : MH} (L : LayC h) (rv3 : inR v3) (rv4 : inR v4) (rv5 : inR v5) : OK d k_M_type 21 [mR 107, mL v1, mN, mI v3, mI v4, mI v5] [] h cI inR (F_M_type_21  v1 v3 v4 v5 h) := by
  unfold F_M_type_21
  refine z_itr (P := fun q : Int64 × Int × Int × Int × MH => LayC q.2.2.2.2 ∧ inR q.2.1 ∧ inR q.2.2.1 ∧ inR q.2.2.2.1 ∧ True) (ls := fun q : Int64 × Int × Int × Int × MH => [mR 107, mL q.1, mN, mI q.2.1, mI q.2.2.1, mI q.2.2.2.1]) (hp := fun q : Int64 × Int × Int × Int × MH => q.2.2.2.2) (fun self hs q hq => ?_) FU (v1, v3, v4, v5, h) ⟨L, rv3, rv4, rv5, trivial⟩
  exact S_M_type_21_b hd (fun v1 v3 v4 v5 h L rv3 rv4 rv5 => hs (v1, v3, v4, v5, h) ⟨L, rv3, rv4, rv5, trivial⟩) hq.1 hq.2.1 hq.2.2.1 hq.2.2.2.1
noncomputable def F_M_type_16 (v1 : Int64) (v3 : Int) (s0 : Int) (h : MH) : RS Int := F_M_type_21 v1 v3 s0 (0 : Int) h
theorem S_M_type_16 {d : Nat} (hd : 1 ≤ d) {v1 : Int64} {v3 : Int} {s0 : Int} {h : MH} (L : LayC h) (rv3 : inR v3) (rs0 : inR s0) : OK d k_M_type 16 [mR 107, mL v1, mN, mI v3, mN, mN] [mI s0] h cI inR (F_M_type_16  v1 v3 s0 h) := by
  unfold F_M_type_16
  refine z_go (fun Q hq => x_istore (dA d_M_type 9 rfl) (by decide) rfl (x_iconst (dA d_M_type 10 rfl) (x_istore (dA d_M_type 11 rfl) (by decide) rfl hq))) ?_
  exact S_M_type_21 hd  L rv3 rs0 (inR_lit (0 : Int) rfl)
noncomputable def F_M_type_15 (v1 : Int64) (v3 : Int) (h : MH) : RS Int := F_M_type_16 v1 v3 (0 : Int) h
theorem S_M_type_15 {d : Nat} (hd : 1 ≤ d) {v1 : Int64} {v3 : Int} {h : MH} (L : LayC h) (rv3 : inR v3) : OK d k_M_type 15 [mR 107, mL v1, mN, mI v3, mN, mN] [] h cI inR (F_M_type_15  v1 v3 h) := by
  unfold F_M_type_15
  refine z_go (fun Q hq => x_iconst (dA d_M_type 8 rfl) hq) ?_
  exact S_M_type_16 hd  L rv3 (inR_lit (0 : Int) rfl)
noncomputable def F_M_type (a1 : Int64) (a2 : Int) (h : MH) : RS Int := if a2 < (1 : Int) then F_M_type_15 a1 a2 h else if (8 : Int) < a2 then F_M_type_15 a1 a2 h else F_M_type_16 a1 a2 (1 : Int) h
theorem S_M_type {d : Nat} (hd : 1 ≤ d) {a1 : Int64} {a2 : Int} {h : MH} (L : LayC h) (ra2 : inR a2) : OK d k_M_type 0 [mR 107, mL a1, mN, mI a2, mN, mN] [] h cI inR (F_M_type  a1 a2 h) := by
  unfold F_M_type
  refine z_go (fun Q hq => x_iload_n (dA d_M_type 0 rfl) rfl rfl (x_iconst (dA d_M_type 1 rfl) hq)) ?_
  refine z_br (fun Q => x_icmp_lt (dA d_M_type 2 rfl) rfl ra2 (inR_lit (1 : Int) rfl)) (fun c32 => ?_) (fun c32 => ?_)
  · exact S_M_type_15 hd  L ra2
  · refine z_go (fun Q hq => x_iload_n (dA d_M_type 3 rfl) rfl rfl (x_bipush (dA d_M_type 4 rfl) (by decide) hq)) ?_
    refine z_br (fun Q => x_icmp_gt (dA d_M_type 5 rfl) rfl ra2 (inR_lit (8 : Int) rfl)) (fun c33 => ?_) (fun c33 => ?_)
    · exact S_M_type_15 hd  L ra2
    · refine z_go (fun Q hq => x_iconst (dA d_M_type 6 rfl) (x_goto (dA d_M_type 7 rfl) rfl hq)) ?_
      exact S_M_type_16 hd  L ra2 (inR_lit (1 : Int) rfl)
/-! TwoMillsModel.clear()I -/
noncomputable def F_M_clear (h : MH) : RS Int := sto (mPi h 107 0 (0 : Int)) fun h1 => sto (mPi h1 107 2 (0 : Int)) fun h4 => some (.inl (mGi h1 107 2), h4)
theorem S_M_clear {d : Nat} (hd : 0 ≤ d) {h : MH} (L : LayC h) : OK d k_M_clear 0 [mR 107, mN] [] h cI inR (F_M_clear   h) := by
  unfold F_M_clear
  refine z_go (fun Q hq => x_aload_n (dA d_M_clear 0 rfl) rfl rfl (x_iconst (dA d_M_clear 1 rfl) hq)) ?_
  refine z_sto (Ext.pi (L.sh (x := (12, 66)) rfl) (by decide) (inR_lit (0 : Int) rfl)) (fun Q hq => x_putI (dA d_M_clear 2 rfl) p_M_136 (L.sh (x := (12, 66)) rfl) (by decide) cl_M rfl hq) (fun h1 e2 => ?_)
  have L3 := L.ext e2
  refine z_go (fun Q hq => x_aload_n (dA d_M_clear 3 rfl) rfl rfl (x_getI (dA d_M_clear 4 rfl) f_M_169 (L3.sh (x := (12, 66)) rfl) (by decide) (by decide) rfl (x_istore_n (dA d_M_clear 5 rfl) rfl (by decide) rfl (x_aload_n (dA d_M_clear 6 rfl) rfl rfl (x_iconst (dA d_M_clear 7 rfl) hq))))) ?_
  refine z_sto (Ext.pi (L3.sh (x := (12, 66)) rfl) (by decide) (inR_lit (0 : Int) rfl)) (fun Q hq => x_putI (dA d_M_clear 8 rfl) p_M_169 (L3.sh (x := (12, 66)) rfl) (by decide) cl_M rfl hq) (fun h4 e5 => ?_)
  have L6 := L3.ext e5
  refine z_go (fun Q hq => x_iload_n (dA d_M_clear 9 rfl) rfl rfl hq) ?_
  exact z_reti (dA d_M_clear 10 rfl) rfl (L3.rg _ _)
/-! TwoMillsModel.put(I)V -/
noncomputable def F_M_put_119 (s1 : Int) (s2 : Int) (h : MH) : RS Unit := gd (inR (s1 + s2)) (sto (mPi h 107 5 (s1 + s2)) fun h2 => some (.inl (), h2))
theorem S_M_put_119 {d : Nat} (hd : 2 ≤ d) {s1 : Int} {s2 : Int} {h : MH} (L : LayC h) (rs1 : inR s1) (rs2 : inR s2) : OK d k_M_put 119 [mN, mN] [mI s2, mI s1, mR 107] h cV pT (F_M_put_119  s1 s2 h) := by
  unfold F_M_put_119
  refine z_gd (fun g1 => ?_)
  refine z_go (fun Q hq => x_iadd (dA d_M_put 61 rfl) hq) ?_
  refine z_sto (Ext.pi (L.sh (x := (12, 66)) rfl) (by decide) g1) (fun Q hq => x_putI (dA d_M_put 62 rfl) p_M_178 (L.sh (x := (12, 66)) rfl) (by decide) cl_M rfl hq) (fun h2 e3 => ?_)
  have L4 := L.ext e3
  exact z_retv (dA d_M_put 63 rfl) rfl
noncomputable def F_M_put_98 (s1 : Int) (s2 : Int) (h : MH) : RS Unit := gd (inR (s1 + s2)) (sto (mPi h 107 8 (s1 + s2)) fun h6 => if (mGi h6 107 7) ≤ 0 then F_M_put_119 (mGi h6 107 5) (1 : Int) h6 else F_M_put_119 (mGi h6 107 5) (0 : Int) h6)
theorem S_M_put_98 {d : Nat} (hd : 2 ≤ d) {s1 : Int} {s2 : Int} {h : MH} (L : LayC h) (rs1 : inR s1) (rs2 : inR s2) : OK d k_M_put 98 [mR 107, mN] [mI s2, mI s1, mR 107] h cV pT (F_M_put_98  s1 s2 h) := by
  unfold F_M_put_98
  refine z_gd (fun g5 => ?_)
  refine z_go (fun Q hq => x_iadd (dA d_M_put 50 rfl) hq) ?_
  refine z_sto (Ext.pi (L.sh (x := (12, 66)) rfl) (by decide) g5) (fun Q hq => x_putI (dA d_M_put 51 rfl) p_M_175 (L.sh (x := (12, 66)) rfl) (by decide) cl_M rfl hq) (fun h6 e7 => ?_)
  have L8 := L.ext e7
  refine z_go (fun Q hq => x_aload_n (dA d_M_put 52 rfl) rfl rfl (x_dup (dA d_M_put 53 rfl) rfl (x_getI (dA d_M_put 54 rfl) f_M_178 (L8.sh (x := (12, 66)) rfl) (by decide) (by decide) rfl (x_aload_n (dA d_M_put 55 rfl) rfl rfl (x_getI (dA d_M_put 56 rfl) f_M_172 (L8.sh (x := (12, 66)) rfl) (by decide) (by decide) rfl hq))))) ?_
  refine z_br (fun Q => x_if_le (dA d_M_put 57 rfl) rfl (L8.rg _ _)) (fun c9 => ?_) (fun c9 => ?_)
  · refine z_go (fun Q hq => x_iconst (dA d_M_put 60 rfl) hq) ?_
    refine z_fgt (ls' := [mN, mN]) ⟨.inl rfl, .inl rfl, trivial⟩ ?_
    exact S_M_put_119 hd  L8 (L8.rg _ _) (inR_lit (1 : Int) rfl)
  · refine z_go (fun Q hq => x_iconst (dA d_M_put 58 rfl) (x_goto (dA d_M_put 59 rfl) rfl hq)) ?_
    refine z_fgt (ls' := [mN, mN]) ⟨.inl rfl, .inl rfl, trivial⟩ ?_
    exact S_M_put_119 hd  L8 (L8.rg _ _) (inR_lit (0 : Int) rfl)
noncomputable def F_M_put_81 (h : MH) : RS Unit := if (mGi h 107 7) ≤ 0 then F_M_put_98 (mGi h 107 8) (0 : Int) h else F_M_put_98 (mGi h 107 8) (1 : Int) h
theorem S_M_put_81 {d : Nat} (hd : 2 ≤ d) {h : MH} (L : LayC h) : OK d k_M_put 81 [mR 107, mN] [] h cV pT (F_M_put_81   h) := by
  unfold F_M_put_81
  refine z_go (fun Q hq => x_aload_n (dA d_M_put 41 rfl) rfl rfl (x_dup (dA d_M_put 42 rfl) rfl (x_getI (dA d_M_put 43 rfl) f_M_175 (L.sh (x := (12, 66)) rfl) (by decide) (by decide) rfl (x_aload_n (dA d_M_put 44 rfl) rfl rfl (x_getI (dA d_M_put 45 rfl) f_M_172 (L.sh (x := (12, 66)) rfl) (by decide) (by decide) rfl hq))))) ?_
  refine z_br (fun Q => x_if_le (dA d_M_put 46 rfl) rfl (L.rg _ _)) (fun c10 => ?_) (fun c10 => ?_)
  · refine z_go (fun Q hq => x_iconst (dA d_M_put 49 rfl) hq) ?_
    exact S_M_put_98 hd  L (L.rg _ _) (inR_lit (0 : Int) rfl)
  · refine z_go (fun Q hq => x_iconst (dA d_M_put 47 rfl) (x_goto (dA d_M_put 48 rfl) rfl hq)) ?_
    exact S_M_put_98 hd  L (L.rg _ _) (inR_lit (1 : Int) rfl)
noncomputable def F_M_put_41 (v1 : Int) (s1 : Int) (h : MH) : RS Unit := gd (p01 s1) (bnd (F_M_need s1 (1 : Int) h) fun x14 h12 => if x14 = 0 then some (.inl (), h12) else if (mGi h12 107 7) ≤ 0 then gd (0 ≤ v1 ∧ v1 < 65536) (gd (0 ≤ (mGi h12 107 5) ∧ (mGi h12 107 5) < 400) (sto (mPi h12 110 (mGi h12 107 5).toNat v1) fun h21 => F_M_put_81  h21)) else gd (0 ≤ v1 ∧ v1 < 65536) (gd (0 ≤ (mGi h12 107 8) ∧ (mGi h12 107 8) < 200) (sto (mPi h12 112 (mGi h12 107 8).toNat v1) fun h26 => F_M_put_81  h26)))
theorem S_M_put_41 {d : Nat} (hd : 2 ≤ d) {v1 : Int} {s1 : Int} {h : MH} (L : LayC h) (rv1 : inR v1) (rs1 : inR s1) : OK d k_M_put 41 [mR 107, mI v1] [mI s1, mR 107] h cV pT (F_M_put_41  v1 s1 h) := by
  unfold F_M_put_41
  refine z_go (fun Q hq => x_iconst (dA d_M_put 19 rfl) hq) ?_
  refine z_gd (fun g11 => ?_)
  refine z_bnd (rest := []) (st1 := fun v => mI v :: []) (S_M_need (d := 1) (Nat.le_refl _) L g11 (inR_lit (1 : Int) rfl)) (fun _ hx => absurd hx List.not_mem_nil) (fun _ => rfl) (fun Q' Q => x_callV (as := [mI s1, mI (1 : Int)]) (rest := []) (k' := k_M_need) (dA d_M_put 20 rfl) o_M_need lk_M_181 im_M_need se_M_need rfl (L.sh (x := (12, 66)) rfl) (by decide) (Nat.le_of_ble_eq_true rfl) (Nat.le_trans (Nat.le_of_ble_eq_true rfl) hd) (Nat.le_of_ble_eq_true rfl)) (fun x14 h12 e13 p15 => ?_)
  have L16 := L.ext e13
  refine z_brn (fun Q => x_if_ne (dA d_M_put 21 rfl) rfl p15.inR) (fun c17 => ?_) (fun c17 => ?_)
  · exact z_retv (dA d_M_put 22 rfl) rfl
  · refine z_go (fun Q hq => x_aload_n (dA d_M_put 23 rfl) rfl rfl (x_getI (dA d_M_put 24 rfl) f_M_172 (L16.sh (x := (12, 66)) rfl) (by decide) (by decide) rfl hq)) ?_
    refine z_br (fun Q => x_if_le (dA d_M_put 25 rfl) rfl (L16.rg _ _)) (fun c18 => ?_) (fun c18 => ?_)
    · refine z_go (fun Q hq => x_aload_n (dA d_M_put 34 rfl) rfl rfl (x_getR (dA d_M_put 35 rfl) f_M_16 (L16.sh (x := (12, 66)) rfl) (by decide) (by decide) rfl (L16.rf 111 rfl) (x_aload_n (dA d_M_put 36 rfl) rfl rfl (x_getI (dA d_M_put 37 rfl) f_M_178 (L16.sh (x := (12, 66)) rfl) (by decide) (by decide) rfl (x_iload_n (dA d_M_put 38 rfl) rfl rfl hq))))) ?_
      refine z_gd (fun g19 => ?_)
      refine z_go (fun Q hq => x_i2c (dA d_M_put 39 rfl) g19.1 g19.2 hq) ?_
      refine z_gd (fun g20 => ?_)
      refine z_sto (Ext.pc g19.1 g19.2) (fun Q hq => x_cast (dA d_M_put 40 rfl) (L16.sh (x := (101, 400)) rfl) g20.1 g20.2 (by decide) g19.1 g19.2 hq) (fun h21 e22 => ?_)
      have L23 := L16.ext e22
      refine z_fgt (ls' := [mR 107, mN]) ⟨.inr rfl, .inl rfl, trivial⟩ ?_
      exact S_M_put_81 hd  L23 
    · refine z_go (fun Q hq => x_aload_n (dA d_M_put 26 rfl) rfl rfl (x_getR (dA d_M_put 27 rfl) f_M_22 (L16.sh (x := (12, 66)) rfl) (by decide) (by decide) rfl (L16.rf 113 rfl) (x_aload_n (dA d_M_put 28 rfl) rfl rfl (x_getI (dA d_M_put 29 rfl) f_M_175 (L16.sh (x := (12, 66)) rfl) (by decide) (by decide) rfl (x_iload_n (dA d_M_put 30 rfl) rfl rfl hq))))) ?_
      refine z_gd (fun g24 => ?_)
      refine z_go (fun Q hq => x_i2c (dA d_M_put 31 rfl) g24.1 g24.2 hq) ?_
      refine z_gd (fun g25 => ?_)
      refine z_sto (Ext.pc g24.1 g24.2) (fun Q hq => x_cast (dA d_M_put 32 rfl) (L16.sh (x := (101, 200)) rfl) g25.1 g25.2 (by decide) g24.1 g24.2 hq) (fun h26 e27 => ?_)
      have L28 := L16.ext e27
      refine z_go (fun Q hq => x_goto (dA d_M_put 33 rfl) rfl hq) ?_
      refine z_fgt (ls' := [mR 107, mN]) ⟨.inr rfl, .inl rfl, trivial⟩ ?_
      exact S_M_put_81 hd  L28 
noncomputable def F_M_put (a1 : Int) (h : MH) : RS Unit := if (mGi h 107 7) ≤ 0 then if (400 : Int) ≤ (mGi h 107 5) then F_M_put_41 a1 (0 : Int) h else F_M_put_41 a1 (1 : Int) h else if (200 : Int) ≤ (mGi h 107 8) then F_M_put_41 a1 (0 : Int) h else F_M_put_41 a1 (1 : Int) h
theorem S_M_put {d : Nat} (hd : 2 ≤ d) {a1 : Int} {h : MH} (L : LayC h) (ra1 : inR a1) : OK d k_M_put 0 [mR 107, mI a1] [] h cV pT (F_M_put  a1 h) := by
  unfold F_M_put
  refine z_go (fun Q hq => x_aload_n (dA d_M_put 0 rfl) rfl rfl (x_aload_n (dA d_M_put 1 rfl) rfl rfl (x_getI (dA d_M_put 2 rfl) f_M_172 (L.sh (x := (12, 66)) rfl) (by decide) (by decide) rfl hq))) ?_
  refine z_br (fun Q => x_if_le (dA d_M_put 3 rfl) rfl (L.rg _ _)) (fun c29 => ?_) (fun c29 => ?_)
  · refine z_go (fun Q hq => x_aload_n (dA d_M_put 12 rfl) rfl rfl (x_getI (dA d_M_put 13 rfl) f_M_178 (L.sh (x := (12, 66)) rfl) (by decide) (by decide) rfl (x_sipush (dA d_M_put 14 rfl) (by decide) hq))) ?_
    refine z_br (fun Q => x_icmp_ge (dA d_M_put 15 rfl) rfl (L.rg _ _) (inR_lit (400 : Int) rfl)) (fun c30 => ?_) (fun c30 => ?_)
    · refine z_go (fun Q hq => x_iconst (dA d_M_put 18 rfl) hq) ?_
      exact S_M_put_41 hd  L ra1 (inR_lit (0 : Int) rfl)
    · refine z_go (fun Q hq => x_iconst (dA d_M_put 16 rfl) (x_goto (dA d_M_put 17 rfl) rfl hq)) ?_
      exact S_M_put_41 hd  L ra1 (inR_lit (1 : Int) rfl)
  · refine z_go (fun Q hq => x_aload_n (dA d_M_put 4 rfl) rfl rfl (x_getI (dA d_M_put 5 rfl) f_M_175 (L.sh (x := (12, 66)) rfl) (by decide) (by decide) rfl (x_sipush (dA d_M_put 6 rfl) (by decide) hq))) ?_
    refine z_br (fun Q => x_icmp_ge (dA d_M_put 7 rfl) rfl (L.rg _ _) (inR_lit (200 : Int) rfl)) (fun c31 => ?_) (fun c31 => ?_)
    · refine z_go (fun Q hq => x_iconst (dA d_M_put 10 rfl) (x_goto (dA d_M_put 11 rfl) rfl hq)) ?_
      exact S_M_put_41 hd  L ra1 (inR_lit (0 : Int) rfl)
    · refine z_go (fun Q hq => x_iconst (dA d_M_put 8 rfl) (x_goto (dA d_M_put 9 rfl) rfl hq)) ?_
      exact S_M_put_41 hd  L ra1 (inR_lit (1 : Int) rfl)
/-! TwoMillsModel.come(I)V -/
noncomputable def F_M_come_28 (v1 : Int) (s1 : Int) (h : MH) : RS Unit := gd (p01 s1) (sto (mPi h 107 10 s1) fun h2 => if (mGi h2 107 10) = 0 then gd (0 ≤ v1 ∧ v1 < 65536) (gd (0 ≤ (mGi h2 107 9) ∧ (mGi h2 107 9) < 500) (sto (mPi h2 113 (mGi h2 107 9).toNat v1) fun h8 => gd (inR ((mGi h8 107 9) + (1 : Int))) (sto (mPi h8 107 9 ((mGi h8 107 9) + (1 : Int))) fun h12 => some (.inl (), h12)))) else some (.inl (), h2))
theorem S_M_come_28 {d : Nat} (hd : 0 ≤ d) {v1 : Int} {s1 : Int} {h : MH} (L : LayC h) (rv1 : inR v1) (rs1 : inR s1) : OK d k_M_come 28 [mR 107, mI v1] [mI s1, mR 107] h cV pT (F_M_come_28  v1 s1 h) := by
  unfold F_M_come_28
  refine z_gd (fun g1 => ?_)
  refine z_sto (Ext.pi (L.sh (x := (12, 66)) rfl) (by decide) rs1) (fun Q hq => x_putZ (dA d_M_come 14 rfl) p_M_185 (L.sh (x := (12, 66)) rfl) (by decide) cl_M rfl g1 hq) (fun h2 e3 => ?_)
  have L4 := L.ext e3
  refine z_go (fun Q hq => x_aload_n (dA d_M_come 15 rfl) rfl rfl (x_getI (dA d_M_come 16 rfl) f_M_185 (L4.sh (x := (12, 66)) rfl) (by decide) (by decide) rfl hq)) ?_
  refine z_br (fun Q => x_if_eq (dA d_M_come 17 rfl) rfl (L4.rg _ _)) (fun c5 => ?_) (fun c5 => ?_)
  · refine z_go (fun Q hq => x_aload_n (dA d_M_come 19 rfl) rfl rfl (x_getR (dA d_M_come 20 rfl) f_M_25 (L4.sh (x := (12, 66)) rfl) (by decide) (by decide) rfl (L4.rf 114 rfl) (x_aload_n (dA d_M_come 21 rfl) rfl rfl (x_getI (dA d_M_come 22 rfl) f_M_189 (L4.sh (x := (12, 66)) rfl) (by decide) (by decide) rfl (x_iload_n (dA d_M_come 23 rfl) rfl rfl hq))))) ?_
    refine z_gd (fun g6 => ?_)
    refine z_go (fun Q hq => x_i2c (dA d_M_come 24 rfl) g6.1 g6.2 hq) ?_
    refine z_gd (fun g7 => ?_)
    refine z_sto (Ext.pc g6.1 g6.2) (fun Q hq => x_cast (dA d_M_come 25 rfl) (L4.sh (x := (101, 500)) rfl) g7.1 g7.2 (by decide) g6.1 g6.2 hq) (fun h8 e9 => ?_)
    have L10 := L4.ext e9
    refine z_go (fun Q hq => x_aload_n (dA d_M_come 26 rfl) rfl rfl (x_dup (dA d_M_come 27 rfl) rfl (x_getI (dA d_M_come 28 rfl) f_M_189 (L10.sh (x := (12, 66)) rfl) (by decide) (by decide) rfl (x_iconst (dA d_M_come 29 rfl) hq)))) ?_
    refine z_gd (fun g11 => ?_)
    refine z_go (fun Q hq => x_iadd (dA d_M_come 30 rfl) hq) ?_
    refine z_sto (Ext.pi (L10.sh (x := (12, 66)) rfl) (by decide) g11) (fun Q hq => x_putI (dA d_M_come 31 rfl) p_M_189 (L10.sh (x := (12, 66)) rfl) (by decide) cl_M rfl hq) (fun h12 e13 => ?_)
    have L14 := L10.ext e13
    exact z_retv (dA d_M_come 32 rfl) rfl
  · exact z_retv (dA d_M_come 18 rfl) rfl
noncomputable def F_M_come_23 (v1 : Int) (h : MH) : RS Unit := F_M_come_28 v1 (1 : Int) h
theorem S_M_come_23 {d : Nat} (hd : 0 ≤ d) {v1 : Int} {h : MH} (L : LayC h) (rv1 : inR v1) : OK d k_M_come 23 [mR 107, mI v1] [mR 107] h cV pT (F_M_come_23  v1 h) := by
  unfold F_M_come_23
  refine z_go (fun Q hq => x_iconst (dA d_M_come 11 rfl) (x_goto (dA d_M_come 12 rfl) rfl hq)) ?_
  exact S_M_come_28 hd  L rv1 (inR_lit (1 : Int) rfl)
noncomputable def F_M_come (a1 : Int) (h : MH) : RS Unit := if (mGi h 107 10) = 0 then gd (inR ((mGi h 107 9) + (mGi h 107 3))) (if ((mGi h 107 9) + (mGi h 107 3)) < (500 : Int) then F_M_come_28 a1 (0 : Int) h else F_M_come_23 a1 h) else F_M_come_23 a1 h
theorem S_M_come {d : Nat} (hd : 0 ≤ d) {a1 : Int} {h : MH} (L : LayC h) (ra1 : inR a1) : OK d k_M_come 0 [mR 107, mI a1] [] h cV pT (F_M_come  a1 h) := by
  unfold F_M_come
  refine z_go (fun Q hq => x_aload_n (dA d_M_come 0 rfl) rfl rfl (x_aload_n (dA d_M_come 1 rfl) rfl rfl (x_getI (dA d_M_come 2 rfl) f_M_185 (L.sh (x := (12, 66)) rfl) (by decide) (by decide) rfl hq))) ?_
  refine z_brn (fun Q => x_if_ne (dA d_M_come 3 rfl) rfl (L.rg _ _)) (fun c15 => ?_) (fun c15 => ?_)
  · refine z_go (fun Q hq => x_aload_n (dA d_M_come 4 rfl) rfl rfl (x_getI (dA d_M_come 5 rfl) f_M_189 (L.sh (x := (12, 66)) rfl) (by decide) (by decide) rfl (x_aload_n (dA d_M_come 6 rfl) rfl rfl (x_getI (dA d_M_come 7 rfl) f_M_192 (L.sh (x := (12, 66)) rfl) (by decide) (by decide) rfl hq)))) ?_
    refine z_gd (fun g16 => ?_)
    refine z_go (fun Q hq => x_iadd (dA d_M_come 8 rfl) (x_sipush (dA d_M_come 9 rfl) (by decide) hq)) ?_
    refine z_br (fun Q => x_icmp_lt (dA d_M_come 10 rfl) rfl g16 (inR_lit (500 : Int) rfl)) (fun c17 => ?_) (fun c17 => ?_)
    · refine z_go (fun Q hq => x_iconst (dA d_M_come 13 rfl) hq) ?_
      exact S_M_come_28 hd  L ra1 (inR_lit (0 : Int) rfl)
    · exact S_M_come_23 hd  L ra1
  · exact S_M_come_23 hd  L ra1
/-! TwoMillsModel.comeNumber(I)V -/
noncomputable def F_M_comeNumber_42_b (G42 : Int → Int → MH → RS Unit) (v2 : Int) (v4 : Int) (h : MH) : RS Unit := if v4 ≤ 0 then some (.inl (), h) else gd (0 ≤ v2) (gd (0 < v4) (gd (0 ≤ (v2 / v4)) (gd (inR ((48 : Int) + ((v2 / v4) % (10 : Int)))) (bnd (F_M_come ((48 : Int) + ((v2 / v4) % (10 : Int))) h) fun x8 h6 => gd (0 ≤ v4) (G42 v2 (v4 / (10 : Int)) h6)))))
theorem S_M_comeNumber_42_b {d : Nat} (hd : 1 ≤ d) {G42 : Int → Int → MH → RS Unit} (hG42 : ∀ (v2 : Int) (v4 : Int) (h : MH), LayC h → inR v2 → inR v4 → OK d k_M_comeNumber 42 [mR 107, mN, mI v2, mN, mI v4] [] h cV pT (G42 v2 v4 h)) {v2 : Int} {v4 : Int} {h : MH} (L : LayC h) (rv2 : inR v2) (rv4 : inR v4) : OK d k_M_comeNumber 42 [mR 107, mN, mI v2, mN, mI v4] [] h cV pT (F_M_comeNumber_42_b G42 v2 v4 h) := by
  unfold F_M_comeNumber_42_b
  refine z_go (fun Q hq => x_iload (dA d_M_comeNumber 26 rfl) rfl hq) ?_
  refine z_br (fun Q => x_if_le (dA d_M_comeNumber 27 rfl) rfl rv4) (fun c1 => ?_) (fun c1 => ?_)
  · exact z_retv (dA d_M_comeNumber 42 rfl) rfl
  · refine z_go (fun Q hq => x_aload_n (dA d_M_comeNumber 28 rfl) rfl rfl (x_bipush (dA d_M_comeNumber 29 rfl) (by decide) (x_iload_n (dA d_M_comeNumber 30 rfl) rfl rfl (x_iload (dA d_M_comeNumber 31 rfl) rfl hq)))) ?_
    refine z_gd (fun g2 => ?_)
    refine z_gd (fun g3 => ?_)
    refine z_go (fun Q hq => x_idiv (dA d_M_comeNumber 32 rfl) rv2 rv4 g2 g3 (x_bipush (dA d_M_comeNumber 33 rfl) (by decide) hq)) ?_
    refine z_gd (fun g4 => ?_)
    refine z_go (fun Q hq => x_irem (dA d_M_comeNumber 34 rfl) (inR_div rv2 g2 g3) (inR_lit (10 : Int) rfl) g4 (by decide) hq) ?_
    refine z_gd (fun g5 => ?_)
    refine z_go (fun Q hq => x_iadd (dA d_M_comeNumber 35 rfl) hq) ?_
    refine z_bnd (rest := []) (st1 := fun _ => []) (S_M_come (d := 0) (Nat.le_refl _) L g5) (fun _ hx => absurd hx List.not_mem_nil) (fun _ => rfl) (fun Q' Q => x_callV (as := [mI ((48 : Int) + ((v2 / v4) % (10 : Int)))]) (rest := []) (k' := k_M_come) (dA d_M_comeNumber 36 rfl) o_M_come lk_M_195 im_M_come se_M_come rfl (L.sh (x := (12, 66)) rfl) (by decide) (Nat.le_of_ble_eq_true rfl) (Nat.le_trans (Nat.le_of_ble_eq_true rfl) hd) (Nat.le_of_ble_eq_true rfl)) (fun x8 h6 e7 p9 => ?_)
    have L10 := L.ext e7
    refine z_go (fun Q hq => x_iload (dA d_M_comeNumber 37 rfl) rfl (x_bipush (dA d_M_comeNumber 38 rfl) (by decide) hq)) ?_
    refine z_gd (fun g11 => ?_)
    refine z_go (fun Q hq => x_idiv (dA d_M_comeNumber 39 rfl) rv4 (inR_lit (10 : Int) rfl) g11 (by decide) (x_istore (dA d_M_comeNumber 40 rfl) (by decide) rfl (x_goto (dA d_M_comeNumber 41 rfl) rfl hq))) ?_
    exact hG42 v2 (v4 / (10 : Int)) h6 L10 rv2 (inR_div rv4 g11 (by decide))
noncomputable def F_M_comeNumber_42 (v2 : Int) (v4 : Int) (h : MH) : RS Unit := itr (fun self (q : Int × Int × MH) => F_M_comeNumber_42_b (fun v2 v4 h => self (v2, v4, h)) q.1 q.2.1 q.2.2) FU (v2, v4, h)
theorem S_M_comeNumber_42 {d : Nat} (hd : 1 ≤ d) {v2 : Int} {v4 : Int} {h : MH} (L : LayC h) (rv2 : inR v2) (rv4 : inR v4) : OK d k_M_comeNumber 42 [mR 107, mN, mI v2, mN, mI v4] [] h cV pT (F_M_comeNumber_42  v2 v4 h) := by
  unfold F_M_comeNumber_42
  refine z_itr (P := fun q : Int × Int × MH => LayC q.2.2 ∧ inR q.1 ∧ inR q.2.1 ∧ True) (ls := fun q : Int × Int × MH => [mR 107, mN, mI q.1, mN, mI q.2.1]) (hp := fun q : Int × Int × MH => q.2.2) (fun self hs q hq => ?_) FU (v2, v4, h) ⟨L, rv2, rv4, trivial⟩
  exact S_M_comeNumber_42_b hd (fun v2 v4 h L rv2 rv4 => hs (v2, v4, h) ⟨L, rv2, rv4, trivial⟩) hq.1 hq.2.1 hq.2.2.1
noncomputable def F_M_comeNumber_23_b (G23 : Int → Int → MH → RS Unit) (v2 : Int) (v3 : Int) (h : MH) : RS Unit := gd (0 ≤ v2) (gd (0 < v3) (if (v2 / v3) ≤ (9 : Int) then F_M_comeNumber_42 v2 v3 h else gd (inR (v3 * (10 : Int))) (G23 v2 (v3 * (10 : Int)) h)))
theorem S_M_comeNumber_23_b {d : Nat} (hd : 1 ≤ d) {G23 : Int → Int → MH → RS Unit} (hG23 : ∀ (v2 : Int) (v3 : Int) (h : MH), LayC h → inR v2 → inR v3 → OK d k_M_comeNumber 23 [mR 107, mN, mI v2, mI v3, mN] [] h cV pT (G23 v2 v3 h)) {v2 : Int} {v3 : Int} {h : MH} (L : LayC h) (rv2 : inR v2) (rv3 : inR v3) : OK d k_M_comeNumber 23 [mR 107, mN, mI v2, mI v3, mN] [] h cV pT (F_M_comeNumber_23_b G23 v2 v3 h) := by
  unfold F_M_comeNumber_23_b
  refine z_go (fun Q hq => x_iload_n (dA d_M_comeNumber 14 rfl) rfl rfl (x_iload_n (dA d_M_comeNumber 15 rfl) rfl rfl hq)) ?_
  refine z_gd (fun g12 => ?_)
  refine z_gd (fun g13 => ?_)
  refine z_go (fun Q hq => x_idiv (dA d_M_comeNumber 16 rfl) rv2 rv3 g12 g13 (x_bipush (dA d_M_comeNumber 17 rfl) (by decide) hq)) ?_
  refine z_br (fun Q => x_icmp_le (dA d_M_comeNumber 18 rfl) rfl (inR_div rv2 g12 g13) (inR_lit (9 : Int) rfl)) (fun c14 => ?_) (fun c14 => ?_)
  · refine z_go (fun Q hq => x_iload_n (dA d_M_comeNumber 24 rfl) rfl rfl (x_istore (dA d_M_comeNumber 25 rfl) (by decide) rfl hq)) ?_
    refine z_fgt (ls' := [mR 107, mN, mI v2, mN, mI v3]) ⟨.inr rfl, .inl rfl, .inr rfl, .inl rfl, .inr rfl, trivial⟩ ?_
    exact S_M_comeNumber_42 hd  L rv2 rv3
  · refine z_go (fun Q hq => x_iload_n (dA d_M_comeNumber 19 rfl) rfl rfl (x_bipush (dA d_M_comeNumber 20 rfl) (by decide) hq)) ?_
    refine z_gd (fun g15 => ?_)
    refine z_go (fun Q hq => x_imul (dA d_M_comeNumber 21 rfl) (x_istore_n (dA d_M_comeNumber 22 rfl) rfl (by decide) rfl (x_goto (dA d_M_comeNumber 23 rfl) rfl hq))) ?_
    exact hG23 v2 (v3 * (10 : Int)) h L rv2 g15
noncomputable def F_M_comeNumber_23 (v2 : Int) (v3 : Int) (h : MH) : RS Unit := itr (fun self (q : Int × Int × MH) => F_M_comeNumber_23_b (fun v2 v3 h => self (v2, v3, h)) q.1 q.2.1 q.2.2) FU (v2, v3, h)
theorem S_M_comeNumber_23 {d : Nat} (hd : 1 ≤ d) {v2 : Int} {v3 : Int} {h : MH} (L : LayC h) (rv2 : inR v2) (rv3 : inR v3) : OK d k_M_comeNumber 23 [mR 107, mN, mI v2, mI v3, mN] [] h cV pT (F_M_comeNumber_23  v2 v3 h) := by
  unfold F_M_comeNumber_23
  refine z_itr (P := fun q : Int × Int × MH => LayC q.2.2 ∧ inR q.1 ∧ inR q.2.1 ∧ True) (ls := fun q : Int × Int × MH => [mR 107, mN, mI q.1, mI q.2.1, mN]) (hp := fun q : Int × Int × MH => q.2.2) (fun self hs q hq => ?_) FU (v2, v3, h) ⟨L, rv2, rv3, trivial⟩
  exact S_M_comeNumber_23_b hd (fun v2 v3 h L rv2 rv3 => hs (v2, v3, h) ⟨L, rv2, rv3, trivial⟩) hq.1 hq.2.1 hq.2.2.1
noncomputable def F_M_comeNumber_20 (s0 : Int) (h : MH) : RS Unit := F_M_comeNumber_23 s0 (1 : Int) h
theorem S_M_comeNumber_20 {d : Nat} (hd : 1 ≤ d) {s0 : Int} {h : MH} (L : LayC h) (rs0 : inR s0) : OK d k_M_comeNumber 20 [mR 107, mN, mN, mN, mN] [mI s0] h cV pT (F_M_comeNumber_20  s0 h) := by
  unfold F_M_comeNumber_20
  refine z_go (fun Q hq => x_istore_n (dA d_M_comeNumber 11 rfl) rfl (by decide) rfl (x_iconst (dA d_M_comeNumber 12 rfl) (x_istore_n (dA d_M_comeNumber 13 rfl) rfl (by decide) rfl hq))) ?_
  exact S_M_comeNumber_23 hd  L rs0 (inR_lit (1 : Int) rfl)
noncomputable def F_M_comeNumber_10 (v1 : Int) (h : MH) : RS Unit := if 0 ≤ v1 then F_M_comeNumber_20 v1 h else gd (inR (-v1)) (F_M_comeNumber_20 (-v1) h)
theorem S_M_comeNumber_10 {d : Nat} (hd : 1 ≤ d) {v1 : Int} {h : MH} (L : LayC h) (rv1 : inR v1) : OK d k_M_comeNumber 10 [mR 107, mI v1, mN, mN, mN] [] h cV pT (F_M_comeNumber_10  v1 h) := by
  unfold F_M_comeNumber_10
  refine z_go (fun Q hq => x_iload_n (dA d_M_comeNumber 5 rfl) rfl rfl hq) ?_
  refine z_br (fun Q => x_if_ge (dA d_M_comeNumber 6 rfl) rfl rv1) (fun c16 => ?_) (fun c16 => ?_)
  · refine z_go (fun Q hq => x_iload_n (dA d_M_comeNumber 10 rfl) rfl rfl hq) ?_
    refine z_fgt (ls' := [mR 107, mN, mN, mN, mN]) ⟨.inr rfl, .inl rfl, .inl rfl, .inl rfl, .inl rfl, trivial⟩ ?_
    exact S_M_comeNumber_20 hd  L rv1
  · refine z_go (fun Q hq => x_iload_n (dA d_M_comeNumber 7 rfl) rfl rfl hq) ?_
    refine z_gd (fun g17 => ?_)
    refine z_go (fun Q hq => x_ineg (dA d_M_comeNumber 8 rfl) (x_goto (dA d_M_comeNumber 9 rfl) rfl hq)) ?_
    refine z_fgt (ls' := [mR 107, mN, mN, mN, mN]) ⟨.inr rfl, .inl rfl, .inl rfl, .inl rfl, .inl rfl, trivial⟩ ?_
    exact S_M_comeNumber_20 hd  L g17
noncomputable def F_M_comeNumber (a1 : Int) (h : MH) : RS Unit := if 0 ≤ a1 then F_M_comeNumber_10 a1 h else bnd (F_M_come (45 : Int) h) fun x21 h19 => F_M_comeNumber_10 a1 h19
theorem S_M_comeNumber {d : Nat} (hd : 1 ≤ d) {a1 : Int} {h : MH} (L : LayC h) (ra1 : inR a1) : OK d k_M_comeNumber 0 [mR 107, mI a1, mN, mN, mN] [] h cV pT (F_M_comeNumber  a1 h) := by
  unfold F_M_comeNumber
  refine z_go (fun Q hq => x_iload_n (dA d_M_comeNumber 0 rfl) rfl rfl hq) ?_
  refine z_br (fun Q => x_if_ge (dA d_M_comeNumber 1 rfl) rfl ra1) (fun c18 => ?_) (fun c18 => ?_)
  · exact S_M_comeNumber_10 hd  L ra1
  · refine z_go (fun Q hq => x_aload_n (dA d_M_comeNumber 2 rfl) rfl rfl (x_bipush (dA d_M_comeNumber 3 rfl) (by decide) hq)) ?_
    refine z_bnd (rest := []) (st1 := fun _ => []) (S_M_come (d := 0) (Nat.le_refl _) L (inR_lit (45 : Int) rfl)) (fun _ hx => absurd hx List.not_mem_nil) (fun _ => rfl) (fun Q' Q => x_callV (as := [mI (45 : Int)]) (rest := []) (k' := k_M_come) (dA d_M_comeNumber 4 rfl) o_M_come lk_M_195 im_M_come se_M_come rfl (L.sh (x := (12, 66)) rfl) (by decide) (Nat.le_of_ble_eq_true rfl) (Nat.le_trans (Nat.le_of_ble_eq_true rfl) hd) (Nat.le_of_ble_eq_true rfl)) (fun x21 h19 e20 p22 => ?_)
    have L23 := L.ext e20
    exact S_M_comeNumber_10 hd  L23 ra1
/-! TwoMillsModel.from(II)I -/
noncomputable def F_M_from_28 (h : MH) : RS Int := some (.inl (0 : Int), h)
theorem S_M_from_28 {d : Nat} (hd : 0 ≤ d) {h : MH} (L : LayC h) : OK d k_M_from 28 [mN, mN, mN] [] h cI inR (F_M_from_28   h) := by
  unfold F_M_from_28
  refine z_go (fun Q hq => x_iconst (dA d_M_from 17 rfl) hq) ?_
  exact z_reti (dA d_M_from 18 rfl) rfl (inR_lit (0 : Int) rfl)
noncomputable def F_M_from (a1 : Int) (a2 : Int) (h : MH) : RS Int := if a1 < 0 then F_M_from_28  h else gd (0 ≤ a1 ∧ a1 < 6) (if (mGi h 118 a1.toNat) ≤ a2 then F_M_from_28  h else gd (inR ((6 : Int) * a1)) (gd (inR (((6 : Int) * a1) + a2)) (gd (0 ≤ (((6 : Int) * a1) + a2) ∧ (((6 : Int) * a1) + a2) < 36) (some (.inl (mGi h 119 (((6 : Int) * a1) + a2).toNat), h)))))
theorem S_M_from {d : Nat} (hd : 0 ≤ d) {a1 : Int} {a2 : Int} {h : MH} (L : LayC h) (ra1 : inR a1) (ra2 : inR a2) : OK d k_M_from 0 [mR 107, mI a1, mI a2] [] h cI inR (F_M_from  a1 a2 h) := by
  unfold F_M_from
  refine z_go (fun Q hq => x_iload_n (dA d_M_from 0 rfl) rfl rfl hq) ?_
  refine z_br (fun Q => x_if_lt (dA d_M_from 1 rfl) rfl ra1) (fun c1 => ?_) (fun c1 => ?_)
  · refine z_fgt (ls' := [mN, mN, mN]) ⟨.inl rfl, .inl rfl, .inl rfl, trivial⟩ ?_
    exact S_M_from_28 hd  L 
  · refine z_go (fun Q hq => x_iload_n (dA d_M_from 2 rfl) rfl rfl (x_aload_n (dA d_M_from 3 rfl) rfl rfl (x_getR (dA d_M_from 4 rfl) f_M_42 (L.sh (x := (12, 66)) rfl) (by decide) (by decide) rfl (L.rf 119 rfl) (x_iload_n (dA d_M_from 5 rfl) rfl rfl hq)))) ?_
    refine z_gd (fun g2 => ?_)
    refine z_go (fun Q hq => x_iald (dA d_M_from 6 rfl) (L.sh (x := (100, 6)) rfl) g2.1 g2.2 (by decide) hq) ?_
    refine z_br (fun Q => x_icmp_ge (dA d_M_from 7 rfl) rfl ra2 (L.rg _ _)) (fun c3 => ?_) (fun c3 => ?_)
    · refine z_fgt (ls' := [mN, mN, mN]) ⟨.inl rfl, .inl rfl, .inl rfl, trivial⟩ ?_
      exact S_M_from_28 hd  L 
    · refine z_go (fun Q hq => x_aload_n (dA d_M_from 8 rfl) rfl rfl (x_getR (dA d_M_from 9 rfl) f_M_45 (L.sh (x := (12, 66)) rfl) (by decide) (by decide) rfl (L.rf 120 rfl) (x_bipush (dA d_M_from 10 rfl) (by decide) (x_iload_n (dA d_M_from 11 rfl) rfl rfl hq)))) ?_
      refine z_gd (fun g4 => ?_)
      refine z_go (fun Q hq => x_imul (dA d_M_from 12 rfl) (x_iload_n (dA d_M_from 13 rfl) rfl rfl hq)) ?_
      refine z_gd (fun g5 => ?_)
      refine z_go (fun Q hq => x_iadd (dA d_M_from 14 rfl) hq) ?_
      refine z_gd (fun g6 => ?_)
      refine z_go (fun Q hq => x_iald (dA d_M_from 15 rfl) (L.sh (x := (100, 36)) rfl) g6.1 g6.2 (by decide) (x_goto (dA d_M_from 16 rfl) rfl hq)) ?_
      exact z_reti (dA d_M_from 18 rfl) rfl (L.rg _ _)
/-! TwoMillsModel.to(II)I -/
noncomputable def F_M_to_14 (h : MH) : RS Int := some (.inl (0 : Int), h)
theorem S_M_to_14 {d : Nat} (hd : 0 ≤ d) {h : MH} (L : LayC h) : OK d k_M_to 14 [mN, mN, mN] [] h cI inR (F_M_to_14   h) := by
  unfold F_M_to_14
  refine z_go (fun Q hq => x_iconst (dA d_M_to 8 rfl) (x_goto (dA d_M_to 9 rfl) rfl hq)) ?_
  exact z_reti (dA d_M_to 31 rfl) rfl (inR_lit (0 : Int) rfl)
noncomputable def F_M_to (a1 : Int) (a2 : Int) (h : MH) : RS Int := if a1 < 0 then F_M_to_14  h else gd (0 ≤ a1 ∧ a1 < 6) (if a2 < (mGi h 118 a1.toNat) then gd (inR (a2 + (1 : Int))) (if (mGi h 118 a1.toNat) ≤ (a2 + (1 : Int)) then some (.inl (mGi h 107 8), h) else gd (inR ((6 : Int) * a1)) (gd (inR (((6 : Int) * a1) + a2)) (gd (inR ((((6 : Int) * a1) + a2) + (1 : Int))) (gd (0 ≤ ((((6 : Int) * a1) + a2) + (1 : Int)) ∧ ((((6 : Int) * a1) + a2) + (1 : Int)) < 36) (some (.inl (mGi h 119 ((((6 : Int) * a1) + a2) + (1 : Int)).toNat), h)))))) else F_M_to_14  h)
theorem S_M_to {d : Nat} (hd : 0 ≤ d) {a1 : Int} {a2 : Int} {h : MH} (L : LayC h) (ra1 : inR a1) (ra2 : inR a2) : OK d k_M_to 0 [mR 107, mI a1, mI a2] [] h cI inR (F_M_to  a1 a2 h) := by
  unfold F_M_to
  refine z_go (fun Q hq => x_iload_n (dA d_M_to 0 rfl) rfl rfl hq) ?_
  refine z_br (fun Q => x_if_lt (dA d_M_to 1 rfl) rfl ra1) (fun c1 => ?_) (fun c1 => ?_)
  · refine z_fgt (ls' := [mN, mN, mN]) ⟨.inl rfl, .inl rfl, .inl rfl, trivial⟩ ?_
    exact S_M_to_14 hd  L 
  · refine z_go (fun Q hq => x_iload_n (dA d_M_to 2 rfl) rfl rfl (x_aload_n (dA d_M_to 3 rfl) rfl rfl (x_getR (dA d_M_to 4 rfl) f_M_42 (L.sh (x := (12, 66)) rfl) (by decide) (by decide) rfl (L.rf 119 rfl) (x_iload_n (dA d_M_to 5 rfl) rfl rfl hq)))) ?_
    refine z_gd (fun g2 => ?_)
    refine z_go (fun Q hq => x_iald (dA d_M_to 6 rfl) (L.sh (x := (100, 6)) rfl) g2.1 g2.2 (by decide) hq) ?_
    refine z_br (fun Q => x_icmp_lt (dA d_M_to 7 rfl) rfl ra2 (L.rg _ _)) (fun c3 => ?_) (fun c3 => ?_)
    · refine z_go (fun Q hq => x_iload_n (dA d_M_to 10 rfl) rfl rfl (x_iconst (dA d_M_to 11 rfl) hq)) ?_
      refine z_gd (fun g4 => ?_)
      refine z_go (fun Q hq => x_iadd (dA d_M_to 12 rfl) (x_aload_n (dA d_M_to 13 rfl) rfl rfl (x_getR (dA d_M_to 14 rfl) f_M_42 (L.sh (x := (12, 66)) rfl) (by decide) (by decide) rfl (L.rf 119 rfl) (x_iload_n (dA d_M_to 15 rfl) rfl rfl (x_iald (dA d_M_to 16 rfl) (L.sh (x := (100, 6)) rfl) g2.1 g2.2 (by decide) hq))))) ?_
      refine z_br (fun Q => x_icmp_ge (dA d_M_to 17 rfl) rfl g4 (L.rg _ _)) (fun c5 => ?_) (fun c5 => ?_)
      · refine z_go (fun Q hq => x_aload_n (dA d_M_to 29 rfl) rfl rfl (x_getI (dA d_M_to 30 rfl) f_M_175 (L.sh (x := (12, 66)) rfl) (by decide) (by decide) rfl hq)) ?_
        exact z_reti (dA d_M_to 31 rfl) rfl (L.rg _ _)
      · refine z_go (fun Q hq => x_aload_n (dA d_M_to 18 rfl) rfl rfl (x_getR (dA d_M_to 19 rfl) f_M_45 (L.sh (x := (12, 66)) rfl) (by decide) (by decide) rfl (L.rf 120 rfl) (x_bipush (dA d_M_to 20 rfl) (by decide) (x_iload_n (dA d_M_to 21 rfl) rfl rfl hq)))) ?_
        refine z_gd (fun g6 => ?_)
        refine z_go (fun Q hq => x_imul (dA d_M_to 22 rfl) (x_iload_n (dA d_M_to 23 rfl) rfl rfl hq)) ?_
        refine z_gd (fun g7 => ?_)
        refine z_go (fun Q hq => x_iadd (dA d_M_to 24 rfl) (x_iconst (dA d_M_to 25 rfl) hq)) ?_
        refine z_gd (fun g8 => ?_)
        refine z_go (fun Q hq => x_iadd (dA d_M_to 26 rfl) hq) ?_
        refine z_gd (fun g9 => ?_)
        refine z_go (fun Q hq => x_iald (dA d_M_to 27 rfl) (L.sh (x := (100, 36)) rfl) g9.1 g9.2 (by decide) (x_goto (dA d_M_to 28 rfl) rfl hq)) ?_
        exact z_reti (dA d_M_to 31 rfl) rfl (L.rg _ _)
    · refine z_fgt (ls' := [mN, mN, mN]) ⟨.inl rfl, .inl rfl, .inl rfl, trivial⟩ ?_
      exact S_M_to_14 hd  L 
/-! TwoMillsModel.size(II)I -/
noncomputable def F_M_size (a1 : Int) (a2 : Int) (h : MH) : RS Int := bnd (F_M_to a1 a2 h) fun x3 h1 => bnd (F_M_from a1 a2 h1) fun x8 h6 => gd (inR (x3 - x8)) (some (.inl (x3 - x8), h6))
theorem S_M_size {d : Nat} (hd : 1 ≤ d) {a1 : Int} {a2 : Int} {h : MH} (L : LayC h) (ra1 : inR a1) (ra2 : inR a2) : OK d k_M_size 0 [mR 107, mI a1, mI a2] [] h cI inR (F_M_size  a1 a2 h) := by
  unfold F_M_size
  refine z_go (fun Q hq => x_aload_n (dA d_M_size 0 rfl) rfl rfl (x_iload_n (dA d_M_size 1 rfl) rfl rfl (x_iload_n (dA d_M_size 2 rfl) rfl rfl hq))) ?_
  refine z_bnd (rest := []) (st1 := fun v => mI v :: []) (S_M_to (d := 0) (Nat.le_refl _) L ra1 ra2) (fun _ hx => absurd hx List.not_mem_nil) (fun _ => rfl) (fun Q' Q => x_callV (as := [mI a1, mI a2]) (rest := []) (k' := k_M_to) (dA d_M_size 3 rfl) o_M_to lk_M_198 im_M_to se_M_to rfl (L.sh (x := (12, 66)) rfl) (by decide) (Nat.le_of_ble_eq_true rfl) (Nat.le_trans (Nat.le_of_ble_eq_true rfl) hd) (Nat.le_of_ble_eq_true rfl)) (fun x3 h1 e2 p4 => ?_)
  have L5 := L.ext e2
  refine z_go (fun Q hq => x_aload_n (dA d_M_size 4 rfl) rfl rfl (x_iload_n (dA d_M_size 5 rfl) rfl rfl (x_iload_n (dA d_M_size 6 rfl) rfl rfl hq))) ?_
  refine z_bnd (rest := [mI x3]) (st1 := fun v => mI v :: [mI x3]) (S_M_from (d := 0) (Nat.le_refl _) L5 ra1 ra2) (fun _ hx => absurd hx List.not_mem_nil) (fun _ => rfl) (fun Q' Q => x_callV (as := [mI a1, mI a2]) (rest := [mI x3]) (k' := k_M_from) (dA d_M_size 7 rfl) o_M_from lk_M_202 im_M_from se_M_from rfl (L5.sh (x := (12, 66)) rfl) (by decide) (Nat.le_of_ble_eq_true rfl) (Nat.le_trans (Nat.le_of_ble_eq_true rfl) hd) (Nat.le_of_ble_eq_true rfl)) (fun x8 h6 e7 p9 => ?_)
  have L10 := L5.ext e7
  refine z_gd (fun g11 => ?_)
  refine z_go (fun Q hq => x_isub (dA d_M_size 8 rfl) hq) ?_
  exact z_reti (dA d_M_size 9 rfl) rfl g11
/-! TwoMillsModel.comeArgument(II)V -/
noncomputable def F_M_comeArgument_7_b (G7 : Int → Int → Int → MH → RS Unit) (v1 : Int) (v2 : Int) (v3 : Int) (h : MH) : RS Unit := bnd (F_M_to v1 v2 h) fun x3 h1 => if x3 ≤ v3 then some (.inl (), h1) else gd (0 ≤ v3 ∧ v3 < 200) (bnd (F_M_come (mGi h1 112 v3.toNat) h1) fun x10 h8 => gd (inR (v3 + (1 : Int))) (G7 v1 v2 (v3 + (1 : Int)) h8))
theorem S_M_comeArgument_7_b {d : Nat} (hd : 1 ≤ d) {G7 : Int → Int → Int → MH → RS Unit} (hG7 : ∀ (v1 : Int) (v2 : Int) (v3 : Int) (h : MH), LayC h → inR v1 → inR v2 → inR v3 → OK d k_M_comeArgument 7 [mR 107, mI v1, mI v2, mI v3] [] h cV pT (G7 v1 v2 v3 h)) {v1 : Int} {v2 : Int} {v3 : Int} {h : MH} (L : LayC h) (rv1 : inR v1) (rv2 : inR v2) (rv3 : inR v3) : OK d k_M_comeArgument 7 [mR 107, mI v1, mI v2, mI v3] [] h cV pT (F_M_comeArgument_7_b G7 v1 v2 v3 h) := by
  unfold F_M_comeArgument_7_b
  refine z_go (fun Q hq => x_iload_n (dA d_M_comeArgument 5 rfl) rfl rfl (x_aload_n (dA d_M_comeArgument 6 rfl) rfl rfl (x_iload_n (dA d_M_comeArgument 7 rfl) rfl rfl (x_iload_n (dA d_M_comeArgument 8 rfl) rfl rfl hq)))) ?_
  refine z_bnd (rest := [mI v3]) (st1 := fun v => mI v :: [mI v3]) (S_M_to (d := 0) (Nat.le_refl _) L rv1 rv2) (fun _ hx => absurd hx List.not_mem_nil) (fun _ => rfl) (fun Q' Q => x_callV (as := [mI v1, mI v2]) (rest := [mI v3]) (k' := k_M_to) (dA d_M_comeArgument 9 rfl) o_M_to lk_M_198 im_M_to se_M_to rfl (L.sh (x := (12, 66)) rfl) (by decide) (Nat.le_of_ble_eq_true rfl) (Nat.le_trans (Nat.le_of_ble_eq_true rfl) hd) (Nat.le_of_ble_eq_true rfl)) (fun x3 h1 e2 p4 => ?_)
  have L5 := L.ext e2
  refine z_br (fun Q => x_icmp_ge (dA d_M_comeArgument 10 rfl) rfl rv3 p4) (fun c6 => ?_) (fun c6 => ?_)
  · exact z_retv (dA d_M_comeArgument 19 rfl) rfl
  · refine z_go (fun Q hq => x_aload_n (dA d_M_comeArgument 11 rfl) rfl rfl (x_aload_n (dA d_M_comeArgument 12 rfl) rfl rfl (x_getR (dA d_M_comeArgument 13 rfl) f_M_22 (L5.sh (x := (12, 66)) rfl) (by decide) (by decide) rfl (L5.rf 113 rfl) (x_iload_n (dA d_M_comeArgument 14 rfl) rfl rfl hq)))) ?_
    refine z_gd (fun g7 => ?_)
    refine z_go (fun Q hq => x_cald (dA d_M_comeArgument 15 rfl) (L5.sh (x := (101, 200)) rfl) g7.1 g7.2 (by decide) hq) ?_
    refine z_bnd (rest := []) (st1 := fun _ => []) (S_M_come (d := 0) (Nat.le_refl _) L5 (L5.rg _ _)) (fun _ hx => absurd hx List.not_mem_nil) (fun _ => rfl) (fun Q' Q => x_callV (as := [mI (mGi h1 112 v3.toNat)]) (rest := []) (k' := k_M_come) (dA d_M_comeArgument 16 rfl) o_M_come lk_M_195 im_M_come se_M_come rfl (L5.sh (x := (12, 66)) rfl) (by decide) (Nat.le_of_ble_eq_true rfl) (Nat.le_trans (Nat.le_of_ble_eq_true rfl) hd) (Nat.le_of_ble_eq_true rfl)) (fun x10 h8 e9 p11 => ?_)
    have L12 := L5.ext e9
    refine z_gd (fun g13 => ?_)
    refine z_go (fun Q hq => x_iinc (dA d_M_comeArgument 17 rfl) rfl (by decide) rfl (x_goto (dA d_M_comeArgument 18 rfl) rfl hq)) ?_
    exact hG7 v1 v2 (v3 + (1 : Int)) h8 L12 rv1 rv2 g13
noncomputable def F_M_comeArgument_7 (v1 : Int) (v2 : Int) (v3 : Int) (h : MH) : RS Unit := itr (fun self (q : Int × Int × Int × MH) => F_M_comeArgument_7_b (fun v1 v2 v3 h => self (v1, v2, v3, h)) q.1 q.2.1 q.2.2.1 q.2.2.2) FU (v1, v2, v3, h)
theorem S_M_comeArgument_7 {d : Nat} (hd : 1 ≤ d) {v1 : Int} {v2 : Int} {v3 : Int} {h : MH} (L : LayC h) (rv1 : inR v1) (rv2 : inR v2) (rv3 : inR v3) : OK d k_M_comeArgument 7 [mR 107, mI v1, mI v2, mI v3] [] h cV pT (F_M_comeArgument_7  v1 v2 v3 h) := by
  unfold F_M_comeArgument_7
  refine z_itr (P := fun q : Int × Int × Int × MH => LayC q.2.2.2 ∧ inR q.1 ∧ inR q.2.1 ∧ inR q.2.2.1 ∧ True) (ls := fun q : Int × Int × Int × MH => [mR 107, mI q.1, mI q.2.1, mI q.2.2.1]) (hp := fun q : Int × Int × Int × MH => q.2.2.2) (fun self hs q hq => ?_) FU (v1, v2, v3, h) ⟨L, rv1, rv2, rv3, trivial⟩
  exact S_M_comeArgument_7_b hd (fun v1 v2 v3 h L rv1 rv2 rv3 => hs (v1, v2, v3, h) ⟨L, rv1, rv2, rv3, trivial⟩) hq.1 hq.2.1 hq.2.2.1 hq.2.2.2.1
noncomputable def F_M_comeArgument (a1 : Int) (a2 : Int) (h : MH) : RS Unit := bnd (F_M_from a1 a2 h) fun x16 h14 => F_M_comeArgument_7 a1 a2 x16 h14
theorem S_M_comeArgument {d : Nat} (hd : 1 ≤ d) {a1 : Int} {a2 : Int} {h : MH} (L : LayC h) (ra1 : inR a1) (ra2 : inR a2) : OK d k_M_comeArgument 0 [mR 107, mI a1, mI a2, mN] [] h cV pT (F_M_comeArgument  a1 a2 h) := by
  unfold F_M_comeArgument
  refine z_go (fun Q hq => x_aload_n (dA d_M_comeArgument 0 rfl) rfl rfl (x_iload_n (dA d_M_comeArgument 1 rfl) rfl rfl (x_iload_n (dA d_M_comeArgument 2 rfl) rfl rfl hq))) ?_
  refine z_bnd (rest := []) (st1 := fun v => mI v :: []) (S_M_from (d := 0) (Nat.le_refl _) L ra1 ra2) (fun _ hx => absurd hx List.not_mem_nil) (fun _ => rfl) (fun Q' Q => x_callV (as := [mI a1, mI a2]) (rest := []) (k' := k_M_from) (dA d_M_comeArgument 3 rfl) o_M_from lk_M_202 im_M_from se_M_from rfl (L.sh (x := (12, 66)) rfl) (by decide) (Nat.le_of_ble_eq_true rfl) (Nat.le_trans (Nat.le_of_ble_eq_true rfl) hd) (Nat.le_of_ble_eq_true rfl)) (fun x16 h14 e15 p17 => ?_)
  have L18 := L.ext e15
  refine z_go (fun Q hq => x_istore_n (dA d_M_comeArgument 4 rfl) rfl (by decide) rfl hq) ?_
  exact S_M_comeArgument_7 hd  L18 ra1 ra2 p17
end Fns
