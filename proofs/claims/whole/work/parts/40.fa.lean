section Fns
/-! TwoMills$Letters.add(C)V -/
noncomputable def F_Le_add (a : Nat) (an : Nat) (a1 : Int) (h : MH) : RS Unit := if ((an : Nat) : Int) ≤ (mGi h a 1) then sto (mPi h a 2 (1 : Int)) fun h2 => some (.inl (), h2) else gd (0 ≤ (mGi h a 1) ∧ (mGi h a 1) < an) (sto (mPi h (a + 1) (mGi h a 1).toNat a1) fun h6 => gd (inR ((mGi h6 a 1) + (1 : Int))) (sto (mPi h6 a 1 ((mGi h6 a 1) + (1 : Int))) fun h10 => some (.inl (), h10)))
theorem S_Le_add {d : Nat} (hd : 0 ≤ d) {a : Nat} {an : Nat} {a1 : Int} {h : MH} (L : LayC h) (oa : LeO h a an) (ra1 : 0 ≤ a1 ∧ a1 < 65536) : OK d k_Le_add 0 [mR a, mI a1] [] h cV pT (F_Le_add  a an a1 h) := by
  unfold F_Le_add
  refine z_go (fun Q hq => x_aload_n (dA d_Le_add 0 rfl) rfl rfl (x_getI (dA d_Le_add 1 rfl) f_Le_13 oa.1 (by decide) (by decide) rfl (x_aload_n (dA d_Le_add 2 rfl) rfl rfl (x_getR (dA d_Le_add 3 rfl) f_Le_7 oa.1 (by decide) (by decide) rfl oa.2.1 (x_alen (dA d_Le_add 4 rfl) oa.2.2.1 (by decide) hq))))) ?_
  refine z_br (fun Q => x_icmp_ge (dA d_Le_add 5 rfl) rfl (L.rg _ _) (inR_nat oa.2.2.2)) (fun c1 => ?_) (fun c1 => ?_)
  · refine z_go (fun Q hq => x_aload_n (dA d_Le_add 19 rfl) rfl rfl (x_iconst (dA d_Le_add 20 rfl) hq)) ?_
    refine z_sto (Ext.pi oa.1 (by decide) (inR_lit (1 : Int) rfl)) (fun Q hq => x_putZ (dA d_Le_add 21 rfl) p_Le_17 oa.1 (by decide) cl_Le rfl (.inr rfl) hq) (fun h2 e3 => ?_)
    have L4 := L.ext e3
    exact z_retv (dA d_Le_add 22 rfl) rfl
  · refine z_go (fun Q hq => x_aload_n (dA d_Le_add 6 rfl) rfl rfl (x_getR (dA d_Le_add 7 rfl) f_Le_7 oa.1 (by decide) (by decide) rfl oa.2.1 (x_aload_n (dA d_Le_add 8 rfl) rfl rfl (x_getI (dA d_Le_add 9 rfl) f_Le_13 oa.1 (by decide) (by decide) rfl (x_iload_n (dA d_Le_add 10 rfl) rfl rfl hq))))) ?_
    refine z_gd (fun g5 => ?_)
    refine z_sto (Ext.pc ra1.1 ra1.2) (fun Q hq => x_cast (dA d_Le_add 11 rfl) oa.2.2.1 g5.1 g5.2 oa.2.2.2 ra1.1 ra1.2 hq) (fun h6 e7 => ?_)
    have L8 := L.ext e7
    refine z_go (fun Q hq => x_aload_n (dA d_Le_add 12 rfl) rfl rfl (x_dup (dA d_Le_add 13 rfl) rfl (x_getI (dA d_Le_add 14 rfl) f_Le_13 (oa.ext e7).1 (by decide) (by decide) rfl (x_iconst (dA d_Le_add 15 rfl) hq)))) ?_
    refine z_gd (fun g9 => ?_)
    refine z_go (fun Q hq => x_iadd (dA d_Le_add 16 rfl) hq) ?_
    refine z_sto (Ext.pi (oa.ext e7).1 (by decide) g9) (fun Q hq => x_putI (dA d_Le_add 17 rfl) p_Le_13 (oa.ext e7).1 (by decide) cl_Le rfl hq) (fun h10 e11 => ?_)
    have L12 := L8.ext e11
    refine z_go (fun Q hq => x_goto (dA d_Le_add 18 rfl) rfl hq) ?_
    exact z_retv (dA d_Le_add 22 rfl) rfl
/-! TwoMills$Letters.hasRoomFor(I)Z -/
noncomputable def F_Le_hasRoomFor (a : Nat) (an : Nat) (a1 : Int) (h : MH) : RS Int := gd (inR (((an : Nat) : Int) - (mGi h a 1))) (if (((an : Nat) : Int) - (mGi h a 1)) < a1 then some (.inl (0 : Int), h) else some (.inl (1 : Int), h))
theorem S_Le_hasRoomFor {d : Nat} (hd : 0 ≤ d) {a : Nat} {an : Nat} {a1 : Int} {h : MH} (L : LayC h) (oa : LeO h a an) (ra1 : inR a1) : OK d k_Le_hasRoomFor 0 [mR a, mI a1] [] h cI p01 (F_Le_hasRoomFor  a an a1 h) := by
  unfold F_Le_hasRoomFor
  refine z_go (fun Q hq => x_iload_n (dA d_Le_hasRoomFor 0 rfl) rfl rfl (x_aload_n (dA d_Le_hasRoomFor 1 rfl) rfl rfl (x_getR (dA d_Le_hasRoomFor 2 rfl) f_Le_7 oa.1 (by decide) (by decide) rfl oa.2.1 (x_alen (dA d_Le_hasRoomFor 3 rfl) oa.2.2.1 (by decide) (x_aload_n (dA d_Le_hasRoomFor 4 rfl) rfl rfl (x_getI (dA d_Le_hasRoomFor 5 rfl) f_Le_13 oa.1 (by decide) (by decide) rfl hq)))))) ?_
  refine z_gd (fun g1 => ?_)
  refine z_go (fun Q hq => x_isub (dA d_Le_hasRoomFor 6 rfl) hq) ?_
  refine z_br (fun Q => x_icmp_gt (dA d_Le_hasRoomFor 7 rfl) rfl ra1 g1) (fun c2 => ?_) (fun c2 => ?_)
  · refine z_go (fun Q hq => x_iconst (dA d_Le_hasRoomFor 10 rfl) hq) ?_
    exact z_retz (dA d_Le_hasRoomFor 11 rfl) rfl (.inl rfl)
  · refine z_go (fun Q hq => x_iconst (dA d_Le_hasRoomFor 8 rfl) (x_goto (dA d_Le_hasRoomFor 9 rfl) rfl hq)) ?_
    exact z_retz (dA d_Le_hasRoomFor 11 rfl) rfl (.inr rfl)
/-! TwoMills.byteOf(JI)I -/
noncomputable def F_T_byteOf (a1 : Int64) (a2 : Int) (h : MH) : RS Int := gd (inR ((8 : Int) * a2)) (some (.inl (((a1 >>> ((Int32.ofInt ((8 : Int) * a2)).toInt64 &&& 63)) &&& (255 : Int64)).toInt32.toInt), h))
theorem S_T_byteOf {d : Nat} (hd : 0 ≤ d) {a1 : Int64} {a2 : Int} {h : MH} (L : LayC h) (ra2 : inR a2) : OK d k_T_byteOf 0 [mL a1, mN, mI a2] [] h cI inR (F_T_byteOf  a1 a2 h) := by
  unfold F_T_byteOf
  refine z_go (fun Q hq => x_lload_n (dA d_T_byteOf 0 rfl) rfl rfl (x_bipush (dA d_T_byteOf 1 rfl) (by decide) (x_iload_n (dA d_T_byteOf 2 rfl) rfl rfl hq))) ?_
  refine z_gd (fun g1 => ?_)
  refine z_go (fun Q hq => x_imul (dA d_T_byteOf 3 rfl) (x_lshr (dA d_T_byteOf 4 rfl) (x_ldc2 (dA d_T_byteOf 5 rfl) kl_T_118 (x_land (dA d_T_byteOf 6 rfl) (x_l2i (dA d_T_byteOf 7 rfl) hq))))) ?_
  exact z_reti (dA d_T_byteOf 8 rfl) rfl (inR_32 _)
/-! TwoMills.areCharacters(JI)Z -/
noncomputable def F_T_areCharacters_37 (G2 : Int64 → Int → Int → MH → RS Int) (v0 : Int64) (v2 : Int) (v3 : Int) (h : MH) : RS Int := gd (inR (v3 + (1 : Int))) (G2 v0 v2 (v3 + (1 : Int)) h)
theorem S_T_areCharacters_37 {d : Nat} (hd : 1 ≤ d) {G2 : Int64 → Int → Int → MH → RS Int} (hG2 : ∀ (v0 : Int64) (v2 : Int) (v3 : Int) (h : MH), LayC h → inR v2 → inR v3 → OK d k_T_areCharacters 2 [mL v0, mN, mI v2, mI v3, mN] [] h cI p01 (G2 v0 v2 v3 h)) {v0 : Int64} {v2 : Int} {v3 : Int} {h : MH} (L : LayC h) (rv2 : inR v2) (rv3 : inR v3) : OK d k_T_areCharacters 37 [mL v0, mN, mI v2, mI v3, mN] [] h cI p01 (F_T_areCharacters_37 G2 v0 v2 v3 h) := by
  unfold F_T_areCharacters_37
  refine z_gd (fun g1 => ?_)
  refine z_go (fun Q hq => x_iinc (dA d_T_areCharacters 20 rfl) rfl (by decide) rfl (x_goto (dA d_T_areCharacters 21 rfl) rfl hq)) ?_
  exact hG2 v0 v2 (v3 + (1 : Int)) h L rv2 g1
noncomputable def F_T_areCharacters_2_b (G2 : Int64 → Int → Int → MH → RS Int) (v0 : Int64) (v2 : Int) (v3 : Int) (h : MH) : RS Int := if v2 ≤ v3 then some (.inl (1 : Int), h) else bnd (F_T_byteOf v0 v3 h) fun x5 h3 => if x5 = (10 : Int) then F_T_areCharacters_37 G2 v0 v2 v3 h3 else if x5 < (32 : Int) then some (.inl (0 : Int), h3) else if x5 ≤ (126 : Int) then F_T_areCharacters_37 G2 v0 v2 v3 h3 else some (.inl (0 : Int), h3)
theorem S_T_areCharacters_2_b {d : Nat} (hd : 1 ≤ d) {G2 : Int64 → Int → Int → MH → RS Int} (hG2 : ∀ (v0 : Int64) (v2 : Int) (v3 : Int) (h : MH), LayC h → inR v2 → inR v3 → OK d k_T_areCharacters 2 [mL v0, mN, mI v2, mI v3, mN] [] h cI p01 (G2 v0 v2 v3 h)) {v0 : Int64} {v2 : Int} {v3 : Int} {h : MH} (L : LayC h) (rv2 : inR v2) (rv3 : inR v3) : OK d k_T_areCharacters 2 [mL v0, mN, mI v2, mI v3, mN] [] h cI p01 (F_T_areCharacters_2_b G2 v0 v2 v3 h) := by
  unfold F_T_areCharacters_2_b
  refine z_go (fun Q hq => x_iload_n (dA d_T_areCharacters 2 rfl) rfl rfl (x_iload_n (dA d_T_areCharacters 3 rfl) rfl rfl hq)) ?_
  refine z_br (fun Q => x_icmp_ge (dA d_T_areCharacters 4 rfl) rfl rv3 rv2) (fun c2 => ?_) (fun c2 => ?_)
  · refine z_go (fun Q hq => x_iconst (dA d_T_areCharacters 22 rfl) hq) ?_
    exact z_retz (dA d_T_areCharacters 23 rfl) rfl (.inr rfl)
  · refine z_go (fun Q hq => x_lload_n (dA d_T_areCharacters 5 rfl) rfl rfl (x_iload_n (dA d_T_areCharacters 6 rfl) rfl rfl hq)) ?_
    refine z_bnd (rest := []) (st1 := fun v => mI v :: []) (S_T_byteOf (d := 0) (Nat.le_refl _) L rv3) (fun _ hx => absurd hx List.not_mem_nil) (fun _ => rfl) (fun Q' Q => x_callS (as := [mL v0, mI v3]) (rest := []) (k' := k_T_byteOf) (dA d_T_areCharacters 7 rfl) o_T_byteOf lk_T_46 st_T_byteOf (Nat.le_of_ble_eq_true rfl) (Nat.le_trans (Nat.le_of_ble_eq_true rfl) hd) (Nat.le_of_ble_eq_true rfl)) (fun x5 h3 e4 p6 => ?_)
    have L7 := L.ext e4
    refine z_go (fun Q hq => x_istore (dA d_T_areCharacters 8 rfl) (by decide) rfl (x_iload (dA d_T_areCharacters 9 rfl) rfl (x_bipush (dA d_T_areCharacters 10 rfl) (by decide) hq))) ?_
    refine z_br (fun Q => x_icmp_eq (dA d_T_areCharacters 11 rfl) rfl p6 (inR_lit (10 : Int) rfl)) (fun c8 => ?_) (fun c8 => ?_)
    · refine z_fgt (ls' := [mL v0, mN, mI v2, mI v3, mN]) ⟨.inr rfl, .inl rfl, .inr rfl, .inr rfl, .inl rfl, trivial⟩ ?_
      exact S_T_areCharacters_37 hd hG2 L7 rv2 rv3
    · refine z_go (fun Q hq => x_iload (dA d_T_areCharacters 12 rfl) rfl (x_bipush (dA d_T_areCharacters 13 rfl) (by decide) hq)) ?_
      refine z_br (fun Q => x_icmp_lt (dA d_T_areCharacters 14 rfl) rfl p6 (inR_lit (32 : Int) rfl)) (fun c9 => ?_) (fun c9 => ?_)
      · refine z_go (fun Q hq => x_iconst (dA d_T_areCharacters 18 rfl) hq) ?_
        exact z_retz (dA d_T_areCharacters 19 rfl) rfl (.inl rfl)
      · refine z_go (fun Q hq => x_iload (dA d_T_areCharacters 15 rfl) rfl (x_bipush (dA d_T_areCharacters 16 rfl) (by decide) hq)) ?_
        refine z_br (fun Q => x_icmp_le (dA d_T_areCharacters 17 rfl) rfl p6 (inR_lit (126 : Int) rfl)) (fun c10 => ?_) (fun c10 => ?_)
        · refine z_fgt (ls' := [mL v0, mN, mI v2, mI v3, mN]) ⟨.inr rfl, .inl rfl, .inr rfl, .inr rfl, .inl rfl, trivial⟩ ?_
          exact S_T_areCharacters_37 hd hG2 L7 rv2 rv3
        · refine z_go (fun Q hq => x_iconst (dA d_T_areCharacters 18 rfl) hq) ?_
          exact z_retz (dA d_T_areCharacters 19 rfl) rfl (.inl rfl)
noncomputable def F_T_areCharacters_2 (v0 : Int64) (v2 : Int) (v3 : Int) (h : MH) : RS Int := itr (fun self (q : Int64 × Int × Int × MH) => F_T_areCharacters_2_b (fun v0 v2 v3 h => self (v0, v2, v3, h)) q.1 q.2.1 q.2.2.1 q.2.2.2) FU (v0, v2, v3, h)
theorem S_T_areCharacters_2 {d : Nat} (hd : 1 ≤ d) {v0 : Int64} {v2 : Int} {v3 : Int} {h : MH} (L : LayC h) (rv2 : inR v2) (rv3 : inR v3) : OK d k_T_areCharacters 2 [mL v0, mN, mI v2, mI v3, mN] [] h cI p01 (F_T_areCharacters_2  v0 v2 v3 h) := by
  unfold F_T_areCharacters_2
  refine z_itr (P := fun q : Int64 × Int × Int × MH => LayC q.2.2.2 ∧ inR q.2.1 ∧ inR q.2.2.1 ∧ True) (ls := fun q : Int64 × Int × Int × MH => [mL q.1, mN, mI q.2.1, mI q.2.2.1, mN]) (hp := fun q : Int64 × Int × Int × MH => q.2.2.2) (fun self hs q hq => ?_) FU (v0, v2, v3, h) ⟨L, rv2, rv3, trivial⟩
  exact S_T_areCharacters_2_b hd (fun v0 v2 v3 h L rv2 rv3 => hs (v0, v2, v3, h) ⟨L, rv2, rv3, trivial⟩) hq.1 hq.2.1 hq.2.2.1
noncomputable def F_T_areCharacters (a1 : Int64) (a2 : Int) (h : MH) : RS Int := F_T_areCharacters_2 a1 a2 (0 : Int) h
theorem S_T_areCharacters {d : Nat} (hd : 1 ≤ d) {a1 : Int64} {a2 : Int} {h : MH} (L : LayC h) (ra2 : inR a2) : OK d k_T_areCharacters 0 [mL a1, mN, mI a2, mN, mN] [] h cI p01 (F_T_areCharacters  a1 a2 h) := by
  unfold F_T_areCharacters
  refine z_go (fun Q hq => x_iconst (dA d_T_areCharacters 0 rfl) (x_istore_n (dA d_T_areCharacters 1 rfl) rfl (by decide) rfl hq)) ?_
  exact S_T_areCharacters_2 hd  L ra2 (inR_lit (0 : Int) rfl)
/-! TwoMills.type(JI)I -/
noncomputable def F_T_type_49_b (G49 : Int64 → Int → Int → MH → RS Int) (v1 : Int64) (v3 : Int) (v4 : Int) (h : MH) : RS Int := if v3 ≤ v4 then some (.inl (mGi h 1 1), h) else bnd (F_T_byteOf v1 v4 h) fun x4 h2 => gd (0 ≤ x4 ∧ x4 < 65536) (bnd (F_Le_add 1 400 x4 h2) fun x10 h8 => gd (inR (v4 + (1 : Int))) (G49 v1 v3 (v4 + (1 : Int)) h8))
theorem S_T_type_49_b {d : Nat} (hd : 2 ≤ d) {G49 : Int64 → Int → Int → MH → RS Int} (hG49 : ∀ (v1 : Int64) (v3 : Int) (v4 : Int) (h : MH), LayC h → inR v3 → inR v4 → OK d k_T_type 49 [mR 0, mL v1, mN, mI v3, mI v4] [] h cI inR (G49 v1 v3 v4 h)) {v1 : Int64} {v3 : Int} {v4 : Int} {h : MH} (L : LayC h) (rv3 : inR v3) (rv4 : inR v4) : OK d k_T_type 49 [mR 0, mL v1, mN, mI v3, mI v4] [] h cI inR (F_T_type_49_b G49 v1 v3 v4 h) := by
  unfold F_T_type_49_b
  refine z_go (fun Q hq => x_iload (dA d_T_type 25 rfl) rfl (x_iload_n (dA d_T_type 26 rfl) rfl rfl hq)) ?_
  refine z_br (fun Q => x_icmp_ge (dA d_T_type 27 rfl) rfl rv4 rv3) (fun c1 => ?_) (fun c1 => ?_)
  · refine z_go (fun Q hq => x_aload_n (dA d_T_type 37 rfl) rfl rfl (x_getR (dA d_T_type 38 rfl) f_T_14 (L.sh (x := (0, 5)) rfl) (by decide) (by decide) rfl (L.rf 0 rfl) (x_getI (dA d_T_type 39 rfl) f_T_54 (L.sh (x := (1, 3)) rfl) (by decide) (by decide) rfl hq))) ?_
    exact z_reti (dA d_T_type 40 rfl) rfl (L.rg _ _)
  · refine z_go (fun Q hq => x_aload_n (dA d_T_type 28 rfl) rfl rfl (x_getR (dA d_T_type 29 rfl) f_T_14 (L.sh (x := (0, 5)) rfl) (by decide) (by decide) rfl (L.rf 0 rfl) (x_lload_n (dA d_T_type 30 rfl) rfl rfl (x_iload (dA d_T_type 31 rfl) rfl hq)))) ?_
    refine z_bnd (rest := [mR 1]) (st1 := fun v => mI v :: [mR 1]) (S_T_byteOf (d := 0) (Nat.le_refl _) L rv4) (fun _ hx => absurd hx List.not_mem_nil) (fun _ => rfl) (fun Q' Q => x_callS (as := [mL v1, mI v4]) (rest := [mR 1]) (k' := k_T_byteOf) (dA d_T_type 32 rfl) o_T_byteOf lk_T_46 st_T_byteOf (Nat.le_of_ble_eq_true rfl) (Nat.le_trans (Nat.le_of_ble_eq_true rfl) hd) (Nat.le_of_ble_eq_true rfl)) (fun x4 h2 e3 p5 => ?_)
    have L6 := L.ext e3
    refine z_gd (fun g7 => ?_)
    refine z_go (fun Q hq => x_i2c (dA d_T_type 33 rfl) g7.1 g7.2 hq) ?_
    refine z_bnd (rest := []) (st1 := fun _ => []) (S_Le_add (d := 0) (Nat.le_refl _) L6 (L6.le rfl 3 rfl rfl (by decide)) g7) (fun _ hx => absurd hx List.not_mem_nil) (fun _ => rfl) (fun Q' Q => x_callV (as := [mI x4]) (rest := []) (k' := k_Le_add) (dA d_T_type 34 rfl) o_Le_add lk_T_50 im_Le_add se_Le_add rfl (L6.sh (x := (1, 3)) rfl) (by decide) (Nat.le_of_ble_eq_true rfl) (Nat.le_trans (Nat.le_of_ble_eq_true rfl) hd) (Nat.le_of_ble_eq_true rfl)) (fun x10 h8 e9 p11 => ?_)
    have L12 := L6.ext e9
    refine z_gd (fun g13 => ?_)
    refine z_go (fun Q hq => x_iinc (dA d_T_type 35 rfl) rfl (by decide) rfl (x_goto (dA d_T_type 36 rfl) rfl hq)) ?_
    exact hG49 v1 v3 (v4 + (1 : Int)) h8 L12 rv3 g13
noncomputable def F_T_type_49 (v1 : Int64) (v3 : Int) (v4 : Int) (h : MH) : RS Int := itr (fun self (q : Int64 × Int × Int × MH) => F_T_type_49_b (fun v1 v3 v4 h => self (v1, v3, v4, h)) q.1 q.2.1 q.2.2.1 q.2.2.2) FU (v1, v3, v4, h)
theorem S_T_type_49 {d : Nat} (hd : 2 ≤ d) {v1 : Int64} {v3 : Int} {v4 : Int} {h : MH} (L : LayC h) (rv3 : inR v3) (rv4 : inR v4) : OK d k_T_type 49 [mR 0, mL v1, mN, mI v3, mI v4] [] h cI inR (F_T_type_49  v1 v3 v4 h) := by
  unfold F_T_type_49
  refine z_itr (P := fun q : Int64 × Int × Int × MH => LayC q.2.2.2 ∧ inR q.2.1 ∧ inR q.2.2.1 ∧ True) (ls := fun q : Int64 × Int × Int × MH => [mR 0, mL q.1, mN, mI q.2.1, mI q.2.2.1]) (hp := fun q : Int64 × Int × Int × MH => q.2.2.2) (fun self hs q hq => ?_) FU (v1, v3, v4, h) ⟨L, rv3, rv4, trivial⟩
  exact S_T_type_49_b hd (fun v1 v3 v4 h L rv3 rv4 => hs (v1, v3, v4, h) ⟨L, rv3, rv4, trivial⟩) hq.1 hq.2.1 hq.2.2.1
noncomputable def F_T_type_19 (h : MH) : RS Int := thr 14 h
theorem S_T_type_19 {d : Nat} (hd : 2 ≤ d) {h : MH} (L : LayC h) : OK d k_T_type 19 [mN, mN, mN, mN, mN] [] h cI inR (F_T_type_19   h) := by
  unfold F_T_type_19
  exact z_thr (dA d_T_type 10 rfl) (dA d_T_type 11 rfl) (dA d_T_type 12 rfl) (dA d_T_type 13 rfl) e_T_36 (fun _ hx => absurd hx List.not_mem_nil) (Nat.le_of_ble_eq_true rfl)
noncomputable def F_T_type (a1 : Int64) (a2 : Int) (h : MH) : RS Int := if a2 < (1 : Int) then F_T_type_19  h else if (8 : Int) < a2 then F_T_type_19  h else bnd (F_T_areCharacters a1 a2 h) fun x18 h16 => if x18 = 0 then F_T_type_19  h16 else bnd (F_Le_hasRoomFor 1 400 a2 h16) fun x24 h22 => if x24 = 0 then thr 15 h22 else F_T_type_49 a1 a2 (0 : Int) h22
theorem S_T_type {d : Nat} (hd : 2 ≤ d) {a1 : Int64} {a2 : Int} {h : MH} (L : LayC h) (ra2 : inR a2) : OK d k_T_type 0 [mR 0, mL a1, mN, mI a2, mN] [] h cI inR (F_T_type  a1 a2 h) := by
  unfold F_T_type
  refine z_go (fun Q hq => x_iload_n (dA d_T_type 0 rfl) rfl rfl (x_iconst (dA d_T_type 1 rfl) hq)) ?_
  refine z_br (fun Q => x_icmp_lt (dA d_T_type 2 rfl) rfl ra2 (inR_lit (1 : Int) rfl)) (fun c14 => ?_) (fun c14 => ?_)
  · refine z_fgt (ls' := [mN, mN, mN, mN, mN]) ⟨.inl rfl, .inl rfl, .inl rfl, .inl rfl, .inl rfl, trivial⟩ ?_
    exact S_T_type_19 hd  L 
  · refine z_go (fun Q hq => x_iload_n (dA d_T_type 3 rfl) rfl rfl (x_bipush (dA d_T_type 4 rfl) (by decide) hq)) ?_
    refine z_br (fun Q => x_icmp_gt (dA d_T_type 5 rfl) rfl ra2 (inR_lit (8 : Int) rfl)) (fun c15 => ?_) (fun c15 => ?_)
    · refine z_fgt (ls' := [mN, mN, mN, mN, mN]) ⟨.inl rfl, .inl rfl, .inl rfl, .inl rfl, .inl rfl, trivial⟩ ?_
      exact S_T_type_19 hd  L 
    · refine z_go (fun Q hq => x_lload_n (dA d_T_type 6 rfl) rfl rfl (x_iload_n (dA d_T_type 7 rfl) rfl rfl hq)) ?_
      refine z_bnd (rest := []) (st1 := fun v => mI v :: []) (S_T_areCharacters (d := 1) (Nat.le_refl _) L ra2) (fun _ hx => absurd hx List.not_mem_nil) (fun _ => rfl) (fun Q' Q => x_callS (as := [mL a1, mI a2]) (rest := []) (k' := k_T_areCharacters) (dA d_T_type 8 rfl) o_T_areCharacters lk_T_32 st_T_areCharacters (Nat.le_of_ble_eq_true rfl) (Nat.le_trans (Nat.le_of_ble_eq_true rfl) hd) (Nat.le_of_ble_eq_true rfl)) (fun x18 h16 e17 p19 => ?_)
      have L20 := L.ext e17
      refine z_brn (fun Q => x_if_ne (dA d_T_type 9 rfl) rfl p19.inR) (fun c21 => ?_) (fun c21 => ?_)
      · refine z_fgt (ls' := [mN, mN, mN, mN, mN]) ⟨.inl rfl, .inl rfl, .inl rfl, .inl rfl, .inl rfl, trivial⟩ ?_
        exact S_T_type_19 hd  L20 
      · refine z_go (fun Q hq => x_aload_n (dA d_T_type 14 rfl) rfl rfl (x_getR (dA d_T_type 15 rfl) f_T_14 (L20.sh (x := (0, 5)) rfl) (by decide) (by decide) rfl (L20.rf 0 rfl) (x_iload_n (dA d_T_type 16 rfl) rfl rfl hq))) ?_
        refine z_bnd (rest := []) (st1 := fun v => mI v :: []) (S_Le_hasRoomFor (d := 0) (Nat.le_refl _) L20 (L20.le rfl 3 rfl rfl (by decide)) ra2) (fun _ hx => absurd hx List.not_mem_nil) (fun _ => rfl) (fun Q' Q => x_callV (as := [mI a2]) (rest := []) (k' := k_Le_hasRoomFor) (dA d_T_type 17 rfl) o_Le_hasRoomFor lk_T_39 im_Le_hasRoomFor se_Le_hasRoomFor rfl (L20.sh (x := (1, 3)) rfl) (by decide) (Nat.le_of_ble_eq_true rfl) (Nat.le_trans (Nat.le_of_ble_eq_true rfl) hd) (Nat.le_of_ble_eq_true rfl)) (fun x24 h22 e23 p25 => ?_)
        have L26 := L20.ext e23
        refine z_brn (fun Q => x_if_ne (dA d_T_type 18 rfl) rfl p25.inR) (fun c27 => ?_) (fun c27 => ?_)
        · exact z_thr (dA d_T_type 19 rfl) (dA d_T_type 20 rfl) (dA d_T_type 21 rfl) (dA d_T_type 22 rfl) e_T_43 (fun _ hx => absurd hx List.not_mem_nil) (Nat.le_of_ble_eq_true rfl)
        · refine z_go (fun Q hq => x_iconst (dA d_T_type 23 rfl) (x_istore (dA d_T_type 24 rfl) (by decide) rfl hq)) ?_
          exact S_T_type_49 hd  L26 ra2 (inR_lit (0 : Int) rfl)
/-! TwoMills$Letters.empty()V -/
noncomputable def F_Le_empty (a : Nat) (an : Nat) (h : MH) : RS Unit := sto (mPi h a 1 (0 : Int)) fun h1 => sto (mPi h1 a 2 (0 : Int)) fun h4 => some (.inl (), h4)
theorem S_Le_empty {d : Nat} (hd : 0 ≤ d) {a : Nat} {an : Nat} {h : MH} (L : LayC h) (oa : LeO h a an) : OK d k_Le_empty 0 [mR a] [] h cV pT (F_Le_empty  a an h) := by
  unfold F_Le_empty
  refine z_go (fun Q hq => x_aload_n (dA d_Le_empty 0 rfl) rfl rfl (x_iconst (dA d_Le_empty 1 rfl) hq)) ?_
  refine z_sto (Ext.pi oa.1 (by decide) (inR_lit (0 : Int) rfl)) (fun Q hq => x_putI (dA d_Le_empty 2 rfl) p_Le_13 oa.1 (by decide) cl_Le rfl hq) (fun h1 e2 => ?_)
  have L3 := L.ext e2
  refine z_go (fun Q hq => x_aload_n (dA d_Le_empty 3 rfl) rfl rfl (x_iconst (dA d_Le_empty 4 rfl) hq)) ?_
  refine z_sto (Ext.pi (oa.ext e2).1 (by decide) (inR_lit (0 : Int) rfl)) (fun Q hq => x_putZ (dA d_Le_empty 5 rfl) p_Le_17 (oa.ext e2).1 (by decide) cl_Le rfl (.inl rfl) hq) (fun h4 e5 => ?_)
  have L6 := L3.ext e5
  exact z_retv (dA d_Le_empty 6 rfl) rfl
/-! TwoMills.clear()I -/
noncomputable def F_T_clear (h : MH) : RS Int := bnd (F_Le_empty 1 400 h) fun x3 h1 => some (.inl (mGi h 1 1), h1)
theorem S_T_clear {d : Nat} (hd : 1 ≤ d) {h : MH} (L : LayC h) : OK d k_T_clear 0 [mR 0, mN] [] h cI inR (F_T_clear   h) := by
  unfold F_T_clear
  refine z_go (fun Q hq => x_aload_n (dA d_T_clear 0 rfl) rfl rfl (x_getR (dA d_T_clear 1 rfl) f_T_14 (L.sh (x := (0, 5)) rfl) (by decide) (by decide) rfl (L.rf 0 rfl) (x_getI (dA d_T_clear 2 rfl) f_T_54 (L.sh (x := (1, 3)) rfl) (by decide) (by decide) rfl (x_istore_n (dA d_T_clear 3 rfl) rfl (by decide) rfl (x_aload_n (dA d_T_clear 4 rfl) rfl rfl (x_getR (dA d_T_clear 5 rfl) f_T_14 (L.sh (x := (0, 5)) rfl) (by decide) (by decide) rfl (L.rf 0 rfl) hq)))))) ?_
  refine z_bnd (rest := []) (st1 := fun _ => []) (S_Le_empty (d := 0) (Nat.le_refl _) L (L.le rfl 3 rfl rfl (by decide))) (fun _ hx => absurd hx List.not_mem_nil) (fun _ => rfl) (fun Q' Q => x_callV (as := []) (rest := []) (k' := k_Le_empty) (dA d_T_clear 6 rfl) o_Le_empty lk_T_58 im_Le_empty se_Le_empty rfl (L.sh (x := (1, 3)) rfl) (by decide) (Nat.le_of_ble_eq_true rfl) (Nat.le_trans (Nat.le_of_ble_eq_true rfl) hd) (Nat.le_of_ble_eq_true rfl)) (fun x3 h1 e2 p4 => ?_)
  have L5 := L.ext e2
  refine z_go (fun Q hq => x_iload_n (dA d_T_clear 7 rfl) rfl rfl hq) ?_
  exact z_reti (dA d_T_clear 8 rfl) rfl (L.rg _ _)
/-! TwoMills$Arguments.empty()V -/
noncomputable def F_Ar_empty (h : MH) : RS Unit := sto (mPi h 77 5 (-1 : Int)) fun h1 => bnd (F_Le_empty 78 200 h1) fun x6 h4 => some (.inl (), h4)
theorem S_Ar_empty {d : Nat} (hd : 1 ≤ d) {h : MH} (L : LayC h) : OK d k_Ar_empty 0 [mR 77] [] h cV pT (F_Ar_empty   h) := by
  unfold F_Ar_empty
  refine z_go (fun Q hq => x_aload_n (dA d_Ar_empty 0 rfl) rfl rfl (x_iconst (dA d_Ar_empty 1 rfl) hq)) ?_
  refine z_sto (Ext.pi (L.sh (x := (2, 6)) rfl) (by decide) (inR_lit (-1 : Int) rfl)) (fun Q hq => x_putI (dA d_Ar_empty 2 rfl) p_Ar_31 (L.sh (x := (2, 6)) rfl) (by decide) cl_Ar rfl hq) (fun h1 e2 => ?_)
  have L3 := L.ext e2
  refine z_go (fun Q hq => x_aload_n (dA d_Ar_empty 3 rfl) rfl rfl (x_getR (dA d_Ar_empty 4 rfl) f_Ar_12 (L3.sh (x := (2, 6)) rfl) (by decide) (by decide) rfl (L3.rf 79 rfl) hq)) ?_
  refine z_bnd (rest := []) (st1 := fun _ => []) (S_Le_empty (d := 0) (Nat.le_refl _) L3 (L3.le rfl 84 rfl rfl (by decide))) (fun _ hx => absurd hx List.not_mem_nil) (fun _ => rfl) (fun Q' Q => x_callV (as := []) (rest := []) (k' := k_Le_empty) (dA d_Ar_empty 5 rfl) o_Le_empty lk_Ar_35 im_Le_empty se_Le_empty rfl (L3.sh (x := (1, 3)) rfl) (by decide) (Nat.le_of_ble_eq_true rfl) (Nat.le_trans (Nat.le_of_ble_eq_true rfl) hd) (Nat.le_of_ble_eq_true rfl)) (fun x6 h4 e5 p7 => ?_)
  have L8 := L3.ext e5
  exact z_retv (dA d_Ar_empty 6 rfl) rfl
/-! TwoMills$Definitions.empty()V -/
noncomputable def F_De_empty_7_b (G7 : Int → MH → RS Unit) (v1 : Int) (h : MH) : RS Unit := if (16 : Int) ≤ v1 then some (.inl (), h) else gd (0 ≤ v1 ∧ v1 < 16) (sto (mPi h 9 v1.toNat (0 : Int)) fun h3 => gd (inR (v1 + (1 : Int))) (G7 (v1 + (1 : Int)) h3))
theorem S_De_empty_7_b {d : Nat} (hd : 0 ≤ d) {G7 : Int → MH → RS Unit} (hG7 : ∀ (v1 : Int) (h : MH), LayC h → inR v1 → OK d k_De_empty 7 [mR 6, mI v1] [] h cV pT (G7 v1 h)) {v1 : Int} {h : MH} (L : LayC h) (rv1 : inR v1) : OK d k_De_empty 7 [mR 6, mI v1] [] h cV pT (F_De_empty_7_b G7 v1 h) := by
  unfold F_De_empty_7_b
  refine z_go (fun Q hq => x_iload_n (dA d_De_empty 5 rfl) rfl rfl (x_bipush (dA d_De_empty 6 rfl) (by decide) hq)) ?_
  refine z_br (fun Q => x_icmp_ge (dA d_De_empty 7 rfl) rfl rv1 (inR_lit (16 : Int) rfl)) (fun c1 => ?_) (fun c1 => ?_)
  · exact z_retv (dA d_De_empty 15 rfl) rfl
  · refine z_go (fun Q hq => x_aload_n (dA d_De_empty 8 rfl) rfl rfl (x_getR (dA d_De_empty 9 rfl) f_De_20 (L.sh (x := (3, 5)) rfl) (by decide) (by decide) rfl (L.rf 12 rfl) (x_iload_n (dA d_De_empty 10 rfl) rfl rfl (x_iconst (dA d_De_empty 11 rfl) hq)))) ?_
    refine z_gd (fun g2 => ?_)
    refine z_sto (Ext.pi (L.sh (x := (100, 16)) rfl) (by decide) (inR_lit (0 : Int) rfl)) (fun Q hq => x_iast (dA d_De_empty 12 rfl) (L.sh (x := (100, 16)) rfl) g2.1 g2.2 (by decide) hq) (fun h3 e4 => ?_)
    have L5 := L.ext e4
    refine z_gd (fun g6 => ?_)
    refine z_go (fun Q hq => x_iinc (dA d_De_empty 13 rfl) rfl (by decide) rfl (x_goto (dA d_De_empty 14 rfl) rfl hq)) ?_
    exact hG7 (v1 + (1 : Int)) h3 L5 g6
noncomputable def F_De_empty_7 (v1 : Int) (h : MH) : RS Unit := itr (fun self (q : Int × MH) => F_De_empty_7_b (fun v1 h => self (v1, h)) q.1 q.2) FU (v1, h)
theorem S_De_empty_7 {d : Nat} (hd : 0 ≤ d) {v1 : Int} {h : MH} (L : LayC h) (rv1 : inR v1) : OK d k_De_empty 7 [mR 6, mI v1] [] h cV pT (F_De_empty_7  v1 h) := by
  unfold F_De_empty_7
  refine z_itr (P := fun q : Int × MH => LayC q.2 ∧ inR q.1 ∧ True) (ls := fun q : Int × MH => [mR 6, mI q.1]) (hp := fun q : Int × MH => q.2) (fun self hs q hq => ?_) FU (v1, h) ⟨L, rv1, trivial⟩
  exact S_De_empty_7_b hd (fun v1 h L rv1 => hs (v1, h) ⟨L, rv1, trivial⟩) hq.1 hq.2.1
noncomputable def F_De_empty (h : MH) : RS Unit := sto (mPi h 6 4 (0 : Int)) fun h7 => F_De_empty_7 (0 : Int) h7
theorem S_De_empty {d : Nat} (hd : 0 ≤ d) {h : MH} (L : LayC h) : OK d k_De_empty 0 [mR 6, mN] [] h cV pT (F_De_empty   h) := by
  unfold F_De_empty
  refine z_go (fun Q hq => x_aload_n (dA d_De_empty 0 rfl) rfl rfl (x_iconst (dA d_De_empty 1 rfl) hq)) ?_
  refine z_sto (Ext.pi (L.sh (x := (3, 5)) rfl) (by decide) (inR_lit (0 : Int) rfl)) (fun Q hq => x_putI (dA d_De_empty 2 rfl) p_De_30 (L.sh (x := (3, 5)) rfl) (by decide) cl_De rfl hq) (fun h7 e8 => ?_)
  have L9 := L.ext e8
  refine z_go (fun Q hq => x_iconst (dA d_De_empty 3 rfl) (x_istore_n (dA d_De_empty 4 rfl) rfl (by decide) rfl hq)) ?_
  exact S_De_empty_7 hd  L9 (inR_lit (0 : Int) rfl)
/-! TwoMills$FirstMill.fail(I)V -/
noncomputable def F_Fm_fail (a1 : Int) (h : MH) : RS Unit := sto (mPi h 3 6 a1) fun h1 => thr 13 h1
theorem S_Fm_fail {d : Nat} (hd : 0 ≤ d) {a1 : Int} {h : MH} (L : LayC h) (ra1 : inR a1) : OK d k_Fm_fail 0 [mR 3, mI a1] [] h cV pT (F_Fm_fail  a1 h) := by
  unfold F_Fm_fail
  refine z_go (fun Q hq => x_aload_n (dA d_Fm_fail 0 rfl) rfl rfl (x_iload_n (dA d_Fm_fail 1 rfl) rfl rfl hq)) ?_
  refine z_sto (Ext.pi (L.sh (x := (6, 7)) rfl) (by decide) ra1) (fun Q hq => x_putI (dA d_Fm_fail 2 rfl) p_Fm_57 (L.sh (x := (6, 7)) rfl) (by decide) cl_Fm rfl hq) (fun h1 e2 => ?_)
  have L3 := L.ext e2
  exact z_thr (dA d_Fm_fail 3 rfl) (dA d_Fm_fail 4 rfl) (dA d_Fm_fail 5 rfl) (dA d_Fm_fail 6 rfl) e_Fm_90 (fun _ hx => absurd hx List.not_mem_nil) (Nat.le_of_ble_eq_true rfl)
/-! TwoMills$FirstMill.countPiece()V -/
noncomputable def F_Fm_countPiece_15 (h : MH) : RS Unit := gd (inR ((mGi h 3 5) + (1 : Int))) (sto (mPi h 3 5 ((mGi h 3 5) + (1 : Int))) fun h2 => some (.inl (), h2))
theorem S_Fm_countPiece_15 {d : Nat} (hd : 1 ≤ d) {h : MH} (L : LayC h) : OK d k_Fm_countPiece 15 [mR 3] [] h cV pT (F_Fm_countPiece_15   h) := by
  unfold F_Fm_countPiece_15
  refine z_go (fun Q hq => x_aload_n (dA d_Fm_countPiece 7 rfl) rfl rfl (x_dup (dA d_Fm_countPiece 8 rfl) rfl (x_getI (dA d_Fm_countPiece 9 rfl) f_Fm_53 (L.sh (x := (6, 7)) rfl) (by decide) (by decide) rfl (x_iconst (dA d_Fm_countPiece 10 rfl) hq)))) ?_
  refine z_gd (fun g1 => ?_)
  refine z_go (fun Q hq => x_iadd (dA d_Fm_countPiece 11 rfl) hq) ?_
  refine z_sto (Ext.pi (L.sh (x := (6, 7)) rfl) (by decide) g1) (fun Q hq => x_putI (dA d_Fm_countPiece 12 rfl) p_Fm_53 (L.sh (x := (6, 7)) rfl) (by decide) cl_Fm rfl hq) (fun h2 e3 => ?_)
  have L4 := L.ext e3
  exact z_retv (dA d_Fm_countPiece 13 rfl) rfl
noncomputable def F_Fm_countPiece (h : MH) : RS Unit := if (mGi h 3 5) < (600 : Int) then F_Fm_countPiece_15  h else bnd (F_Fm_fail (2 : Int) h) fun x8 h6 => F_Fm_countPiece_15  h6
theorem S_Fm_countPiece {d : Nat} (hd : 1 ≤ d) {h : MH} (L : LayC h) : OK d k_Fm_countPiece 0 [mR 3] [] h cV pT (F_Fm_countPiece   h) := by
  unfold F_Fm_countPiece
  refine z_go (fun Q hq => x_aload_n (dA d_Fm_countPiece 0 rfl) rfl rfl (x_getI (dA d_Fm_countPiece 1 rfl) f_Fm_53 (L.sh (x := (6, 7)) rfl) (by decide) (by decide) rfl (x_sipush (dA d_Fm_countPiece 2 rfl) (by decide) hq))) ?_
  refine z_br (fun Q => x_icmp_lt (dA d_Fm_countPiece 3 rfl) rfl (L.rg _ _) (inR_lit (600 : Int) rfl)) (fun c5 => ?_) (fun c5 => ?_)
  · exact S_Fm_countPiece_15 hd  L 
  · refine z_go (fun Q hq => x_aload_n (dA d_Fm_countPiece 4 rfl) rfl rfl (x_iconst (dA d_Fm_countPiece 5 rfl) hq)) ?_
    refine z_bnd (rest := []) (st1 := fun _ => []) (S_Fm_fail (d := 0) (Nat.le_refl _) L (inR_lit (2 : Int) rfl)) (fun _ hx => absurd hx List.not_mem_nil) (fun _ => rfl) (fun Q' Q => x_callV (as := [mI (2 : Int)]) (rest := []) (k' := k_Fm_fail) (dA d_Fm_countPiece 6 rfl) o_Fm_fail lk_Fm_87 im_Fm_fail se_Fm_fail rfl (L.sh (x := (6, 7)) rfl) (by decide) (Nat.le_of_ble_eq_true rfl) (Nat.le_trans (Nat.le_of_ble_eq_true rfl) hd) (Nat.le_of_ble_eq_true rfl)) (fun x8 h6 e7 p9 => ?_)
    have L10 := L.ext e7
    exact S_Fm_countPiece_15 hd  L10 
/-! TwoMills$Arguments.beginArgument()Z -/
noncomputable def F_Ar_beginArgument (h : MH) : RS Int := gd (0 ≤ (mGi h 77 5) ∧ (mGi h 77 5) < 6) (if (mGi h 83 (mGi h 77 5).toNat) < (5 : Int) then gd (inR ((mGi h 77 5) * (5 : Int))) (gd (inR (((mGi h 77 5) * (5 : Int)) + (mGi h 83 (mGi h 77 5).toNat))) (gd (0 ≤ (((mGi h 77 5) * (5 : Int)) + (mGi h 83 (mGi h 77 5).toNat)) ∧ (((mGi h 77 5) * (5 : Int)) + (mGi h 83 (mGi h 77 5).toNat)) < 30) (sto (mPi h 80 (((mGi h 77 5) * (5 : Int)) + (mGi h 83 (mGi h 77 5).toNat)).toNat (mGi h 78 1)) fun h6 => gd (0 ≤ (mGi h6 77 5) ∧ (mGi h6 77 5) < 6) (gd (inR ((mGi h6 83 (mGi h6 77 5).toNat) + (1 : Int))) (sto (mPi h6 83 (mGi h6 77 5).toNat ((mGi h6 83 (mGi h6 77 5).toNat) + (1 : Int))) fun h11 => some (.inl (1 : Int), h11)))))) else some (.inl (0 : Int), h))
theorem S_Ar_beginArgument {d : Nat} (hd : 0 ≤ d) {h : MH} (L : LayC h) : OK d k_Ar_beginArgument 0 [mR 77] [] h cI p01 (F_Ar_beginArgument   h) := by
  unfold F_Ar_beginArgument
  refine z_go (fun Q hq => x_aload_n (dA d_Ar_beginArgument 0 rfl) rfl rfl (x_getR (dA d_Ar_beginArgument 1 rfl) f_Ar_28 (L.sh (x := (2, 6)) rfl) (by decide) (by decide) rfl (L.rf 83 rfl) (x_aload_n (dA d_Ar_beginArgument 2 rfl) rfl rfl (x_getI (dA d_Ar_beginArgument 3 rfl) f_Ar_31 (L.sh (x := (2, 6)) rfl) (by decide) (by decide) rfl hq)))) ?_
  refine z_gd (fun g1 => ?_)
  refine z_go (fun Q hq => x_iald (dA d_Ar_beginArgument 4 rfl) (L.sh (x := (100, 6)) rfl) g1.1 g1.2 (by decide) (x_iconst (dA d_Ar_beginArgument 5 rfl) hq)) ?_
  refine z_br (fun Q => x_icmp_lt (dA d_Ar_beginArgument 6 rfl) rfl (L.rg _ _) (inR_lit (5 : Int) rfl)) (fun c2 => ?_) (fun c2 => ?_)
  · refine z_go (fun Q hq => x_aload_n (dA d_Ar_beginArgument 9 rfl) rfl rfl (x_getR (dA d_Ar_beginArgument 10 rfl) f_Ar_18 (L.sh (x := (2, 6)) rfl) (by decide) (by decide) rfl (L.rf 80 rfl) (x_aload_n (dA d_Ar_beginArgument 11 rfl) rfl rfl (x_getI (dA d_Ar_beginArgument 12 rfl) f_Ar_31 (L.sh (x := (2, 6)) rfl) (by decide) (by decide) rfl (x_iconst (dA d_Ar_beginArgument 13 rfl) hq))))) ?_
    refine z_gd (fun g3 => ?_)
    refine z_go (fun Q hq => x_imul (dA d_Ar_beginArgument 14 rfl) (x_aload_n (dA d_Ar_beginArgument 15 rfl) rfl rfl (x_getR (dA d_Ar_beginArgument 16 rfl) f_Ar_28 (L.sh (x := (2, 6)) rfl) (by decide) (by decide) rfl (L.rf 83 rfl) (x_aload_n (dA d_Ar_beginArgument 17 rfl) rfl rfl (x_getI (dA d_Ar_beginArgument 18 rfl) f_Ar_31 (L.sh (x := (2, 6)) rfl) (by decide) (by decide) rfl (x_iald (dA d_Ar_beginArgument 19 rfl) (L.sh (x := (100, 6)) rfl) g1.1 g1.2 (by decide) hq)))))) ?_
    refine z_gd (fun g4 => ?_)
    refine z_go (fun Q hq => x_iadd (dA d_Ar_beginArgument 20 rfl) (x_aload_n (dA d_Ar_beginArgument 21 rfl) rfl rfl (x_getR (dA d_Ar_beginArgument 22 rfl) f_Ar_12 (L.sh (x := (2, 6)) rfl) (by decide) (by decide) rfl (L.rf 79 rfl) (x_getI (dA d_Ar_beginArgument 23 rfl) f_Ar_42 (L.sh (x := (1, 3)) rfl) (by decide) (by decide) rfl hq)))) ?_
    refine z_gd (fun g5 => ?_)
    refine z_sto (Ext.pi (L.sh (x := (100, 30)) rfl) (by decide) (L.rg _ _)) (fun Q hq => x_iast (dA d_Ar_beginArgument 24 rfl) (L.sh (x := (100, 30)) rfl) g5.1 g5.2 (by decide) hq) (fun h6 e7 => ?_)
    have L8 := L.ext e7
    refine z_go (fun Q hq => x_aload_n (dA d_Ar_beginArgument 25 rfl) rfl rfl (x_getR (dA d_Ar_beginArgument 26 rfl) f_Ar_28 (L8.sh (x := (2, 6)) rfl) (by decide) (by decide) rfl (L8.rf 83 rfl) (x_aload_n (dA d_Ar_beginArgument 27 rfl) rfl rfl (x_getI (dA d_Ar_beginArgument 28 rfl) f_Ar_31 (L8.sh (x := (2, 6)) rfl) (by decide) (by decide) rfl (x_dup2 (dA d_Ar_beginArgument 29 rfl) rfl rfl hq))))) ?_
    refine z_gd (fun g9 => ?_)
    refine z_go (fun Q hq => x_iald (dA d_Ar_beginArgument 30 rfl) (L8.sh (x := (100, 6)) rfl) g9.1 g9.2 (by decide) (x_iconst (dA d_Ar_beginArgument 31 rfl) hq)) ?_
    refine z_gd (fun g10 => ?_)
    refine z_go (fun Q hq => x_iadd (dA d_Ar_beginArgument 32 rfl) hq) ?_
    refine z_sto (Ext.pi (L8.sh (x := (100, 6)) rfl) (by decide) g10) (fun Q hq => x_iast (dA d_Ar_beginArgument 33 rfl) (L8.sh (x := (100, 6)) rfl) g9.1 g9.2 (by decide) hq) (fun h11 e12 => ?_)
    have L13 := L8.ext e12
    refine z_go (fun Q hq => x_iconst (dA d_Ar_beginArgument 34 rfl) hq) ?_
    exact z_retz (dA d_Ar_beginArgument 35 rfl) rfl (.inr rfl)
  · refine z_go (fun Q hq => x_iconst (dA d_Ar_beginArgument 7 rfl) hq) ?_
    exact z_retz (dA d_Ar_beginArgument 8 rfl) rfl (.inl rfl)
/-! TwoMills$Arguments.start(I)I -/
noncomputable def F_Ar_start (a1 : Int) (h : MH) : RS Int := gd (0 ≤ (mGi h 77 5) ∧ (mGi h 77 5) < 6) (if (mGi h 83 (mGi h 77 5).toNat) ≤ a1 then some (.inl (mGi h 78 1), h) else gd (inR ((mGi h 77 5) * (5 : Int))) (gd (inR (((mGi h 77 5) * (5 : Int)) + a1)) (gd (0 ≤ (((mGi h 77 5) * (5 : Int)) + a1) ∧ (((mGi h 77 5) * (5 : Int)) + a1) < 30) (some (.inl (mGi h 80 (((mGi h 77 5) * (5 : Int)) + a1).toNat), h)))))
theorem S_Ar_start {d : Nat} (hd : 0 ≤ d) {a1 : Int} {h : MH} (L : LayC h) (ra1 : inR a1) : OK d k_Ar_start 0 [mR 77, mI a1] [] h cI inR (F_Ar_start  a1 h) := by
  unfold F_Ar_start
  refine z_go (fun Q hq => x_iload_n (dA d_Ar_start 0 rfl) rfl rfl (x_aload_n (dA d_Ar_start 1 rfl) rfl rfl (x_getR (dA d_Ar_start 2 rfl) f_Ar_28 (L.sh (x := (2, 6)) rfl) (by decide) (by decide) rfl (L.rf 83 rfl) (x_aload_n (dA d_Ar_start 3 rfl) rfl rfl (x_getI (dA d_Ar_start 4 rfl) f_Ar_31 (L.sh (x := (2, 6)) rfl) (by decide) (by decide) rfl hq))))) ?_
  refine z_gd (fun g1 => ?_)
  refine z_go (fun Q hq => x_iald (dA d_Ar_start 5 rfl) (L.sh (x := (100, 6)) rfl) g1.1 g1.2 (by decide) hq) ?_
  refine z_br (fun Q => x_icmp_ge (dA d_Ar_start 6 rfl) rfl ra1 (L.rg _ _)) (fun c2 => ?_) (fun c2 => ?_)
  · refine z_go (fun Q hq => x_aload_n (dA d_Ar_start 17 rfl) rfl rfl (x_getR (dA d_Ar_start 18 rfl) f_Ar_12 (L.sh (x := (2, 6)) rfl) (by decide) (by decide) rfl (L.rf 79 rfl) (x_getI (dA d_Ar_start 19 rfl) f_Ar_42 (L.sh (x := (1, 3)) rfl) (by decide) (by decide) rfl hq))) ?_
    exact z_reti (dA d_Ar_start 20 rfl) rfl (L.rg _ _)
  · refine z_go (fun Q hq => x_aload_n (dA d_Ar_start 7 rfl) rfl rfl (x_getR (dA d_Ar_start 8 rfl) f_Ar_18 (L.sh (x := (2, 6)) rfl) (by decide) (by decide) rfl (L.rf 80 rfl) (x_aload_n (dA d_Ar_start 9 rfl) rfl rfl (x_getI (dA d_Ar_start 10 rfl) f_Ar_31 (L.sh (x := (2, 6)) rfl) (by decide) (by decide) rfl (x_iconst (dA d_Ar_start 11 rfl) hq))))) ?_
    refine z_gd (fun g3 => ?_)
    refine z_go (fun Q hq => x_imul (dA d_Ar_start 12 rfl) (x_iload_n (dA d_Ar_start 13 rfl) rfl rfl hq)) ?_
    refine z_gd (fun g4 => ?_)
    refine z_go (fun Q hq => x_iadd (dA d_Ar_start 14 rfl) hq) ?_
    refine z_gd (fun g5 => ?_)
    refine z_go (fun Q hq => x_iald (dA d_Ar_start 15 rfl) (L.sh (x := (100, 30)) rfl) g5.1 g5.2 (by decide) (x_goto (dA d_Ar_start 16 rfl) rfl hq)) ?_
    exact z_reti (dA d_Ar_start 20 rfl) rfl (L.rg _ _)
/-! TwoMills$Arguments.length(I)I -/
noncomputable def F_Ar_length (a1 : Int) (h : MH) : RS Int := gd (inR (a1 + (1 : Int))) (bnd (F_Ar_start (a1 + (1 : Int)) h) fun x4 h2 => bnd (F_Ar_start a1 h2) fun x9 h7 => gd (inR (x4 - x9)) (some (.inl (x4 - x9), h7)))
theorem S_Ar_length {d : Nat} (hd : 1 ≤ d) {a1 : Int} {h : MH} (L : LayC h) (ra1 : inR a1) : OK d k_Ar_length 0 [mR 77, mI a1] [] h cI inR (F_Ar_length  a1 h) := by
  unfold F_Ar_length
  refine z_go (fun Q hq => x_aload_n (dA d_Ar_length 0 rfl) rfl rfl (x_iload_n (dA d_Ar_length 1 rfl) rfl rfl (x_iconst (dA d_Ar_length 2 rfl) hq))) ?_
  refine z_gd (fun g1 => ?_)
  refine z_go (fun Q hq => x_iadd (dA d_Ar_length 3 rfl) hq) ?_
  refine z_bnd (rest := []) (st1 := fun v => mI v :: []) (S_Ar_start (d := 0) (Nat.le_refl _) L g1) (fun _ hx => absurd hx List.not_mem_nil) (fun _ => rfl) (fun Q' Q => x_callV (as := [mI (a1 + (1 : Int))]) (rest := []) (k' := k_Ar_start) (dA d_Ar_length 4 rfl) o_Ar_start lk_Ar_45 im_Ar_start se_Ar_start rfl (L.sh (x := (2, 6)) rfl) (by decide) (Nat.le_of_ble_eq_true rfl) (Nat.le_trans (Nat.le_of_ble_eq_true rfl) hd) (Nat.le_of_ble_eq_true rfl)) (fun x4 h2 e3 p5 => ?_)
  have L6 := L.ext e3
  refine z_go (fun Q hq => x_aload_n (dA d_Ar_length 5 rfl) rfl rfl (x_iload_n (dA d_Ar_length 6 rfl) rfl rfl hq)) ?_
  refine z_bnd (rest := [mI x4]) (st1 := fun v => mI v :: [mI x4]) (S_Ar_start (d := 0) (Nat.le_refl _) L6 ra1) (fun _ hx => absurd hx List.not_mem_nil) (fun _ => rfl) (fun Q' Q => x_callV (as := [mI a1]) (rest := [mI x4]) (k' := k_Ar_start) (dA d_Ar_length 7 rfl) o_Ar_start lk_Ar_45 im_Ar_start se_Ar_start rfl (L6.sh (x := (2, 6)) rfl) (by decide) (Nat.le_of_ble_eq_true rfl) (Nat.le_trans (Nat.le_of_ble_eq_true rfl) hd) (Nat.le_of_ble_eq_true rfl)) (fun x9 h7 e8 p10 => ?_)
  have L11 := L6.ext e8
  refine z_gd (fun g12 => ?_)
  refine z_go (fun Q hq => x_isub (dA d_Ar_length 8 rfl) hq) ?_
  exact z_reti (dA d_Ar_length 9 rfl) rfl g12
/-! TwoMills$Arguments.isAtArgumentStart()Z -/
noncomputable def F_Ar_isAtArgumentStart (h : MH) : RS Int := gd (0 ≤ (mGi h 77 5) ∧ (mGi h 77 5) < 6) (gd (inR ((mGi h 83 (mGi h 77 5).toNat) - (1 : Int))) (bnd (F_Ar_length ((mGi h 83 (mGi h 77 5).toNat) - (1 : Int)) h) fun x5 h3 => if x5 = 0 then some (.inl (1 : Int), h3) else some (.inl (0 : Int), h3)))
theorem S_Ar_isAtArgumentStart {d : Nat} (hd : 2 ≤ d) {h : MH} (L : LayC h) : OK d k_Ar_isAtArgumentStart 0 [mR 77] [] h cI p01 (F_Ar_isAtArgumentStart   h) := by
  unfold F_Ar_isAtArgumentStart
  refine z_go (fun Q hq => x_aload_n (dA d_Ar_isAtArgumentStart 0 rfl) rfl rfl (x_aload_n (dA d_Ar_isAtArgumentStart 1 rfl) rfl rfl (x_getR (dA d_Ar_isAtArgumentStart 2 rfl) f_Ar_28 (L.sh (x := (2, 6)) rfl) (by decide) (by decide) rfl (L.rf 83 rfl) (x_aload_n (dA d_Ar_isAtArgumentStart 3 rfl) rfl rfl (x_getI (dA d_Ar_isAtArgumentStart 4 rfl) f_Ar_31 (L.sh (x := (2, 6)) rfl) (by decide) (by decide) rfl hq))))) ?_
  refine z_gd (fun g1 => ?_)
  refine z_go (fun Q hq => x_iald (dA d_Ar_isAtArgumentStart 5 rfl) (L.sh (x := (100, 6)) rfl) g1.1 g1.2 (by decide) (x_iconst (dA d_Ar_isAtArgumentStart 6 rfl) hq)) ?_
  refine z_gd (fun g2 => ?_)
  refine z_go (fun Q hq => x_isub (dA d_Ar_isAtArgumentStart 7 rfl) hq) ?_
  refine z_bnd (rest := []) (st1 := fun v => mI v :: []) (S_Ar_length (d := 1) (Nat.le_refl _) L g2) (fun _ hx => absurd hx List.not_mem_nil) (fun _ => rfl) (fun Q' Q => x_callV (as := [mI ((mGi h 83 (mGi h 77 5).toNat) - (1 : Int))]) (rest := []) (k' := k_Ar_length) (dA d_Ar_isAtArgumentStart 8 rfl) o_Ar_length lk_Ar_49 im_Ar_length se_Ar_length rfl (L.sh (x := (2, 6)) rfl) (by decide) (Nat.le_of_ble_eq_true rfl) (Nat.le_trans (Nat.le_of_ble_eq_true rfl) hd) (Nat.le_of_ble_eq_true rfl)) (fun x5 h3 e4 p6 => ?_)
  have L7 := L.ext e4
  refine z_brn (fun Q => x_if_ne (dA d_Ar_isAtArgumentStart 9 rfl) rfl p6) (fun c8 => ?_) (fun c8 => ?_)
  · refine z_go (fun Q hq => x_iconst (dA d_Ar_isAtArgumentStart 10 rfl) (x_goto (dA d_Ar_isAtArgumentStart 11 rfl) rfl hq)) ?_
    exact z_retz (dA d_Ar_isAtArgumentStart 13 rfl) rfl (.inr rfl)
  · refine z_go (fun Q hq => x_iconst (dA d_Ar_isAtArgumentStart 12 rfl) hq) ?_
    exact z_retz (dA d_Ar_isAtArgumentStart 13 rfl) rfl (.inl rfl)
/-! TwoMills$Arguments.end()V -/
noncomputable def F_Ar_end (h : MH) : RS Unit := bnd (F_Ar_start (0 : Int) h) fun x3 h1 => sto (mPi h1 78 1 x3) fun h6 => gd (inR ((mGi h6 77 5) - (1 : Int))) (sto (mPi h6 77 5 ((mGi h6 77 5) - (1 : Int))) fun h10 => some (.inl (), h10))
theorem S_Ar_end {d : Nat} (hd : 1 ≤ d) {h : MH} (L : LayC h) : OK d k_Ar_end 0 [mR 77] [] h cV pT (F_Ar_end   h) := by
  unfold F_Ar_end
  refine z_go (fun Q hq => x_aload_n (dA d_Ar_end 0 rfl) rfl rfl (x_getR (dA d_Ar_end 1 rfl) f_Ar_12 (L.sh (x := (2, 6)) rfl) (by decide) (by decide) rfl (L.rf 79 rfl) (x_aload_n (dA d_Ar_end 2 rfl) rfl rfl (x_iconst (dA d_Ar_end 3 rfl) hq)))) ?_
  refine z_bnd (rest := [mR 78]) (st1 := fun v => mI v :: [mR 78]) (S_Ar_start (d := 0) (Nat.le_refl _) L (inR_lit (0 : Int) rfl)) (fun _ hx => absurd hx List.not_mem_nil) (fun _ => rfl) (fun Q' Q => x_callV (as := [mI (0 : Int)]) (rest := [mR 78]) (k' := k_Ar_start) (dA d_Ar_end 4 rfl) o_Ar_start lk_Ar_45 im_Ar_start se_Ar_start rfl (L.sh (x := (2, 6)) rfl) (by decide) (Nat.le_of_ble_eq_true rfl) (Nat.le_trans (Nat.le_of_ble_eq_true rfl) hd) (Nat.le_of_ble_eq_true rfl)) (fun x3 h1 e2 p4 => ?_)
  have L5 := L.ext e2
  refine z_sto (Ext.pi (L5.sh (x := (1, 3)) rfl) (by decide) p4) (fun Q hq => x_putI (dA d_Ar_end 5 rfl) p_Ar_42 (L5.sh (x := (1, 3)) rfl) (by decide) cl_Le rfl hq) (fun h6 e7 => ?_)
  have L8 := L5.ext e7
  refine z_go (fun Q hq => x_aload_n (dA d_Ar_end 6 rfl) rfl rfl (x_dup (dA d_Ar_end 7 rfl) rfl (x_getI (dA d_Ar_end 8 rfl) f_Ar_31 (L8.sh (x := (2, 6)) rfl) (by decide) (by decide) rfl (x_iconst (dA d_Ar_end 9 rfl) hq)))) ?_
  refine z_gd (fun g9 => ?_)
  refine z_go (fun Q hq => x_isub (dA d_Ar_end 10 rfl) hq) ?_
  refine z_sto (Ext.pi (L8.sh (x := (2, 6)) rfl) (by decide) g9) (fun Q hq => x_putI (dA d_Ar_end 11 rfl) p_Ar_31 (L8.sh (x := (2, 6)) rfl) (by decide) cl_Ar rfl hq) (fun h10 e11 => ?_)
  have L12 := L8.ext e11
  exact z_retv (dA d_Ar_end 12 rfl) rfl
/-! TwoMills$Letters.is([CII)Z -/
noncomputable def F_Le_is_41 (v0 : Nat) (v0n : Nat) (v3 : Int) (h : MH) : RS Int := if v3 = (mGi h v0 1) then some (.inl (1 : Int), h) else some (.inl (0 : Int), h)
theorem S_Le_is_41 {d : Nat} (hd : 0 ≤ d) {v0 : Nat} {v0n : Nat} {v3 : Int} {h : MH} (L : LayC h) (ov0 : LeO h v0 v0n) (rv3 : inR v3) : OK d k_Le_is 41 [mR v0, mN, mN, mI v3, mN] [] h cI p01 (F_Le_is_41  v0 v0n v3 h) := by
  unfold F_Le_is_41
  refine z_go (fun Q hq => x_iload_n (dA d_Le_is 23 rfl) rfl rfl (x_aload_n (dA d_Le_is 24 rfl) rfl rfl (x_getI (dA d_Le_is 25 rfl) f_Le_13 ov0.1 (by decide) (by decide) rfl hq))) ?_
  refine z_brn (fun Q => x_icmp_ne (dA d_Le_is 26 rfl) rfl rv3 (L.rg _ _)) (fun c1 => ?_) (fun c1 => ?_)
  · refine z_go (fun Q hq => x_iconst (dA d_Le_is 27 rfl) (x_goto (dA d_Le_is 28 rfl) rfl hq)) ?_
    exact z_retz (dA d_Le_is 30 rfl) rfl (.inr rfl)
  · refine z_go (fun Q hq => x_iconst (dA d_Le_is 29 rfl) hq) ?_
    exact z_retz (dA d_Le_is 30 rfl) rfl (.inl rfl)
noncomputable def F_Le_is_3_b (G3 : Nat → Nat → Nat → Nat → Int → Int → Int → MH → RS Int) (v0 : Nat) (v0n : Nat) (v1 : Nat) (v1n : Nat) (v2 : Int) (v3 : Int) (v4 : Int) (h : MH) : RS Int := if v3 ≤ v4 then F_Le_is_41 v0 v0n v3 h else if v3 = (mGi h v0 1) then gd (0 ≤ v4 ∧ v4 < v0n) (gd (inR (v2 + v4)) (gd (0 ≤ (v2 + v4) ∧ (v2 + v4) < v1n) (if (mGi h (v0 + 1) v4.toNat) = (mGi h v1 (v2 + v4).toNat) then gd (inR (v4 + (1 : Int))) (G3 v0 v0n v1 v1n v2 v3 (v4 + (1 : Int)) h) else some (.inl (0 : Int), h)))) else F_Le_is_41 v0 v0n v3 h
theorem S_Le_is_3_b {d : Nat} (hd : 0 ≤ d) {G3 : Nat → Nat → Nat → Nat → Int → Int → Int → MH → RS Int} (hG3 : ∀ (v0 : Nat) (v0n : Nat) (v1 : Nat) (v1n : Nat) (v2 : Int) (v3 : Int) (v4 : Int) (h : MH), LayC h → LeO h v0 v0n → ArO h v1 101 v1n → inR v2 → inR v3 → inR v4 → OK d k_Le_is 3 [mR v0, mR v1, mI v2, mI v3, mI v4] [] h cI p01 (G3 v0 v0n v1 v1n v2 v3 v4 h)) {v0 : Nat} {v0n : Nat} {v1 : Nat} {v1n : Nat} {v2 : Int} {v3 : Int} {v4 : Int} {h : MH} (L : LayC h) (ov0 : LeO h v0 v0n) (ov1 : ArO h v1 101 v1n) (rv2 : inR v2) (rv3 : inR v3) (rv4 : inR v4) : OK d k_Le_is 3 [mR v0, mR v1, mI v2, mI v3, mI v4] [] h cI p01 (F_Le_is_3_b G3 v0 v0n v1 v1n v2 v3 v4 h) := by
  unfold F_Le_is_3_b
  refine z_go (fun Q hq => x_iload (dA d_Le_is 2 rfl) rfl (x_iload_n (dA d_Le_is 3 rfl) rfl rfl hq)) ?_
  refine z_br (fun Q => x_icmp_ge (dA d_Le_is 4 rfl) rfl rv4 rv3) (fun c2 => ?_) (fun c2 => ?_)
  · refine z_fgt (ls' := [mR v0, mN, mN, mI v3, mN]) ⟨.inr rfl, .inl rfl, .inl rfl, .inr rfl, .inl rfl, trivial⟩ ?_
    exact S_Le_is_41 hd  L ov0 rv3
  · refine z_go (fun Q hq => x_iload_n (dA d_Le_is 5 rfl) rfl rfl (x_aload_n (dA d_Le_is 6 rfl) rfl rfl (x_getI (dA d_Le_is 7 rfl) f_Le_13 ov0.1 (by decide) (by decide) rfl hq))) ?_
    refine z_brn (fun Q => x_icmp_ne (dA d_Le_is 8 rfl) rfl rv3 (L.rg _ _)) (fun c3 => ?_) (fun c3 => ?_)
    · refine z_go (fun Q hq => x_aload_n (dA d_Le_is 9 rfl) rfl rfl (x_getR (dA d_Le_is 10 rfl) f_Le_7 ov0.1 (by decide) (by decide) rfl ov0.2.1 (x_iload (dA d_Le_is 11 rfl) rfl hq))) ?_
      refine z_gd (fun g4 => ?_)
      refine z_go (fun Q hq => x_cald (dA d_Le_is 12 rfl) ov0.2.2.1 g4.1 g4.2 ov0.2.2.2 (x_aload_n (dA d_Le_is 13 rfl) rfl rfl (x_iload_n (dA d_Le_is 14 rfl) rfl rfl (x_iload (dA d_Le_is 15 rfl) rfl hq)))) ?_
      refine z_gd (fun g5 => ?_)
      refine z_go (fun Q hq => x_iadd (dA d_Le_is 16 rfl) hq) ?_
      refine z_gd (fun g6 => ?_)
      refine z_go (fun Q hq => x_cald (dA d_Le_is 17 rfl) ov1.1 g6.1 g6.2 ov1.2 hq) ?_
      refine z_br (fun Q => x_icmp_eq (dA d_Le_is 18 rfl) rfl (L.rg _ _) (L.rg _ _)) (fun c7 => ?_) (fun c7 => ?_)
      · refine z_gd (fun g8 => ?_)
        refine z_go (fun Q hq => x_iinc (dA d_Le_is 21 rfl) rfl (by decide) rfl (x_goto (dA d_Le_is 22 rfl) rfl hq)) ?_
        exact hG3 v0 v0n v1 v1n v2 v3 (v4 + (1 : Int)) h L ov0 ov1 rv2 rv3 g8
      · refine z_go (fun Q hq => x_iconst (dA d_Le_is 19 rfl) hq) ?_
        exact z_retz (dA d_Le_is 20 rfl) rfl (.inl rfl)
    · refine z_fgt (ls' := [mR v0, mN, mN, mI v3, mN]) ⟨.inr rfl, .inl rfl, .inl rfl, .inr rfl, .inl rfl, trivial⟩ ?_
      exact S_Le_is_41 hd  L ov0 rv3
noncomputable def F_Le_is_3 (v0 : Nat) (v0n : Nat) (v1 : Nat) (v1n : Nat) (v2 : Int) (v3 : Int) (v4 : Int) (h : MH) : RS Int := itr (fun self (q : Nat × Nat × Nat × Nat × Int × Int × Int × MH) => F_Le_is_3_b (fun v0 v0n v1 v1n v2 v3 v4 h => self (v0, v0n, v1, v1n, v2, v3, v4, h)) q.1 q.2.1 q.2.2.1 q.2.2.2.1 q.2.2.2.2.1 q.2.2.2.2.2.1 q.2.2.2.2.2.2.1 q.2.2.2.2.2.2.2) FU (v0, v0n, v1, v1n, v2, v3, v4, h)
theorem S_Le_is_3 {d : Nat} (hd : 0 ≤ d) {v0 : Nat} {v0n : Nat} {v1 : Nat} {v1n : Nat} {v2 : Int} {v3 : Int} {v4 : Int} {h : MH} (L : LayC h) (ov0 : LeO h v0 v0n) (ov1 : ArO h v1 101 v1n) (rv2 : inR v2) (rv3 : inR v3) (rv4 : inR v4) : OK d k_Le_is 3 [mR v0, mR v1, mI v2, mI v3, mI v4] [] h cI p01 (F_Le_is_3  v0 v0n v1 v1n v2 v3 v4 h) := by
  unfold F_Le_is_3
  refine z_itr (P := fun q : Nat × Nat × Nat × Nat × Int × Int × Int × MH => LayC q.2.2.2.2.2.2.2 ∧ LeO q.2.2.2.2.2.2.2 q.1 q.2.1 ∧ ArO q.2.2.2.2.2.2.2 q.2.2.1 101 q.2.2.2.1 ∧ inR q.2.2.2.2.1 ∧ inR q.2.2.2.2.2.1 ∧ inR q.2.2.2.2.2.2.1 ∧ True) (ls := fun q : Nat × Nat × Nat × Nat × Int × Int × Int × MH => [mR q.1, mR q.2.2.1, mI q.2.2.2.2.1, mI q.2.2.2.2.2.1, mI q.2.2.2.2.2.2.1]) (hp := fun q : Nat × Nat × Nat × Nat × Int × Int × Int × MH => q.2.2.2.2.2.2.2) (fun self hs q hq => ?_) FU (v0, v0n, v1, v1n, v2, v3, v4, h) ⟨L, ov0, ov1, rv2, rv3, rv4, trivial⟩
  exact S_Le_is_3_b hd (fun v0 v0n v1 v1n v2 v3 v4 h L ov0 ov1 rv2 rv3 rv4 => hs (v0, v0n, v1, v1n, v2, v3, v4, h) ⟨L, ov0, ov1, rv2, rv3, rv4, trivial⟩) hq.1 hq.2.1 hq.2.2.1 hq.2.2.2.1 hq.2.2.2.2.1 hq.2.2.2.2.2.1
noncomputable def F_Le_is (a : Nat) (an : Nat) (a1 : Nat) (a1n : Nat) (a2 : Int) (a3 : Int) (h : MH) : RS Int := F_Le_is_3 a an a1 a1n a2 a3 (0 : Int) h
theorem S_Le_is {d : Nat} (hd : 0 ≤ d) {a : Nat} {an : Nat} {a1 : Nat} {a1n : Nat} {a2 : Int} {a3 : Int} {h : MH} (L : LayC h) (oa : LeO h a an) (oa1 : ArO h a1 101 a1n) (ra2 : inR a2) (ra3 : inR a3) : OK d k_Le_is 0 [mR a, mR a1, mI a2, mI a3, mN] [] h cI p01 (F_Le_is  a an a1 a1n a2 a3 h) := by
  unfold F_Le_is
  refine z_go (fun Q hq => x_iconst (dA d_Le_is 0 rfl) (x_istore (dA d_Le_is 1 rfl) (by decide) rfl hq)) ?_
  exact S_Le_is_3 hd  L oa oa1 ra2 ra3 (inR_lit (0 : Int) rfl)
/-! TwoMills$Definitions.latest([CII)I -/
noncomputable def F_De_latest_8_b (G8 : Nat → Nat → Int → Int → Int → MH → RS Int) (v1 : Nat) (v1n : Nat) (v2 : Int) (v3 : Int) (v4 : Int) (h : MH) : RS Int := if v4 < 0 then some (.inl (-1 : Int), h) else gd (0 ≤ v4 ∧ v4 < 16) (gd (0 ≤ (mGi h 10 v4.toNat) ∧ (mGi h 10 v4.toNat) < 16) (bnd (F_Le_is (11 + 4 * (mGi h 10 v4.toNat).toNat) 8 v1 v1n v2 v3 h) fun x7 h5 => if x7 = 0 then gd (inR (v4 + (-1 : Int))) (G8 v1 v1n v2 v3 (v4 + (-1 : Int)) h5) else some (.inl (mGi h5 10 v4.toNat), h5)))
theorem S_De_latest_8_b {d : Nat} (hd : 1 ≤ d) {G8 : Nat → Nat → Int → Int → Int → MH → RS Int} (hG8 : ∀ (v1 : Nat) (v1n : Nat) (v2 : Int) (v3 : Int) (v4 : Int) (h : MH), LayC h → ArO h v1 101 v1n → inR v2 → inR v3 → inR v4 → OK d k_De_latest 8 [mR 6, mR v1, mI v2, mI v3, mI v4] [] h cI inR (G8 v1 v1n v2 v3 v4 h)) {v1 : Nat} {v1n : Nat} {v2 : Int} {v3 : Int} {v4 : Int} {h : MH} (L : LayC h) (ov1 : ArO h v1 101 v1n) (rv2 : inR v2) (rv3 : inR v3) (rv4 : inR v4) : OK d k_De_latest 8 [mR 6, mR v1, mI v2, mI v3, mI v4] [] h cI inR (F_De_latest_8_b G8 v1 v1n v2 v3 v4 h) := by
  unfold F_De_latest_8_b
  refine z_go (fun Q hq => x_iload (dA d_De_latest 5 rfl) rfl hq) ?_
  refine z_br (fun Q => x_if_lt (dA d_De_latest 6 rfl) rfl rv4) (fun c1 => ?_) (fun c1 => ?_)
  · refine z_go (fun Q hq => x_iconst (dA d_De_latest 26 rfl) hq) ?_
    exact z_reti (dA d_De_latest 27 rfl) rfl (inR_lit (-1 : Int) rfl)
  · refine z_go (fun Q hq => x_aload_n (dA d_De_latest 7 rfl) rfl rfl (x_getR (dA d_De_latest 8 rfl) f_De_13 (L.sh (x := (3, 5)) rfl) (by decide) (by decide) rfl (L.rf 10 rfl) (x_aload_n (dA d_De_latest 9 rfl) rfl rfl (x_getR (dA d_De_latest 10 rfl) f_De_24 (L.sh (x := (3, 5)) rfl) (by decide) (by decide) rfl (L.rf 13 rfl) (x_iload (dA d_De_latest 11 rfl) rfl hq))))) ?_
    refine z_gd (fun g2 => ?_)
    refine z_go (fun Q hq => x_iald (dA d_De_latest 12 rfl) (L.sh (x := (100, 16)) rfl) g2.1 g2.2 (by decide) hq) ?_
    refine z_gd (fun g3 => ?_)
    refine z_go (fun Q hq => x_aald (dA d_De_latest 13 rfl) (L.sh (x := (110, 16)) rfl) (.inl rfl) g3.1 g3.2 (by decide) (L.wr g3) hq) ?_
    have o4 := (L.wo g3)
    refine z_go (fun Q hq => x_aload_n (dA d_De_latest 14 rfl) rfl rfl (x_iload_n (dA d_De_latest 15 rfl) rfl rfl (x_iload_n (dA d_De_latest 16 rfl) rfl rfl hq))) ?_
    refine z_bnd (rest := []) (st1 := fun v => mI v :: []) (S_Le_is (d := 0) (Nat.le_refl _) L o4 ov1 rv2 rv3) (fun _ hx => absurd hx List.not_mem_nil) (fun _ => rfl) (fun Q' Q => x_callV (as := [mR v1, mI v2, mI v3]) (rest := []) (k' := k_Le_is) (dA d_De_latest 17 rfl) o_Le_is lk_De_34 im_Le_is se_Le_is rfl o4.1 (by decide) (Nat.le_of_ble_eq_true rfl) (Nat.le_trans (Nat.le_of_ble_eq_true rfl) hd) (Nat.le_of_ble_eq_true rfl)) (fun x7 h5 e6 p8 => ?_)
    have L9 := L.ext e6
    refine z_br (fun Q => x_if_eq (dA d_De_latest 18 rfl) rfl p8.inR) (fun c10 => ?_) (fun c10 => ?_)
    · refine z_gd (fun g11 => ?_)
      refine z_go (fun Q hq => x_iinc (dA d_De_latest 24 rfl) rfl (by decide) rfl (x_goto (dA d_De_latest 25 rfl) rfl hq)) ?_
      exact hG8 v1 v1n v2 v3 (v4 + (-1 : Int)) h5 L9 (ov1.ext e6) rv2 rv3 g11
    · refine z_go (fun Q hq => x_aload_n (dA d_De_latest 19 rfl) rfl rfl (x_getR (dA d_De_latest 20 rfl) f_De_24 (L9.sh (x := (3, 5)) rfl) (by decide) (by decide) rfl (L9.rf 13 rfl) (x_iload (dA d_De_latest 21 rfl) rfl (x_iald (dA d_De_latest 22 rfl) (L9.sh (x := (100, 16)) rfl) g2.1 g2.2 (by decide) hq)))) ?_
      exact z_reti (dA d_De_latest 23 rfl) rfl (L9.rg _ _)
noncomputable def F_De_latest_8 (v1 : Nat) (v1n : Nat) (v2 : Int) (v3 : Int) (v4 : Int) (h : MH) : RS Int := itr (fun self (q : Nat × Nat × Int × Int × Int × MH) => F_De_latest_8_b (fun v1 v1n v2 v3 v4 h => self (v1, v1n, v2, v3, v4, h)) q.1 q.2.1 q.2.2.1 q.2.2.2.1 q.2.2.2.2.1 q.2.2.2.2.2) FU (v1, v1n, v2, v3, v4, h)
theorem S_De_latest_8 {d : Nat} (hd : 1 ≤ d) {v1 : Nat} {v1n : Nat} {v2 : Int} {v3 : Int} {v4 : Int} {h : MH} (L : LayC h) (ov1 : ArO h v1 101 v1n) (rv2 : inR v2) (rv3 : inR v3) (rv4 : inR v4) : OK d k_De_latest 8 [mR 6, mR v1, mI v2, mI v3, mI v4] [] h cI inR (F_De_latest_8  v1 v1n v2 v3 v4 h) := by
  unfold F_De_latest_8
  refine z_itr (P := fun q : Nat × Nat × Int × Int × Int × MH => LayC q.2.2.2.2.2 ∧ ArO q.2.2.2.2.2 q.1 101 q.2.1 ∧ inR q.2.2.1 ∧ inR q.2.2.2.1 ∧ inR q.2.2.2.2.1 ∧ True) (ls := fun q : Nat × Nat × Int × Int × Int × MH => [mR 6, mR q.1, mI q.2.2.1, mI q.2.2.2.1, mI q.2.2.2.2.1]) (hp := fun q : Nat × Nat × Int × Int × Int × MH => q.2.2.2.2.2) (fun self hs q hq => ?_) FU (v1, v1n, v2, v3, v4, h) ⟨L, ov1, rv2, rv3, rv4, trivial⟩
  exact S_De_latest_8_b hd (fun v1 v1n v2 v3 v4 h L ov1 rv2 rv3 rv4 => hs (v1, v1n, v2, v3, v4, h) ⟨L, ov1, rv2, rv3, rv4, trivial⟩) hq.1 hq.2.1 hq.2.2.1 hq.2.2.2.1 hq.2.2.2.2.1
noncomputable def F_De_latest (a1 : Nat) (a1n : Nat) (a2 : Int) (a3 : Int) (h : MH) : RS Int := gd (inR ((mGi h 6 4) - (1 : Int))) (F_De_latest_8 a1 a1n a2 a3 ((mGi h 6 4) - (1 : Int)) h)
theorem S_De_latest {d : Nat} (hd : 1 ≤ d) {a1 : Nat} {a1n : Nat} {a2 : Int} {a3 : Int} {h : MH} (L : LayC h) (oa1 : ArO h a1 101 a1n) (ra2 : inR a2) (ra3 : inR a3) : OK d k_De_latest 0 [mR 6, mR a1, mI a2, mI a3, mN] [] h cI inR (F_De_latest  a1 a1n a2 a3 h) := by
  unfold F_De_latest
  refine z_go (fun Q hq => x_aload_n (dA d_De_latest 0 rfl) rfl rfl (x_getI (dA d_De_latest 1 rfl) f_De_30 (L.sh (x := (3, 5)) rfl) (by decide) (by decide) rfl (x_iconst (dA d_De_latest 2 rfl) hq))) ?_
  refine z_gd (fun g12 => ?_)
  refine z_go (fun Q hq => x_isub (dA d_De_latest 3 rfl) (x_istore (dA d_De_latest 4 rfl) (by decide) rfl hq)) ?_
  exact S_De_latest_8 hd  L oa1 ra2 ra3 g12
/-! TwoMills$Definitions.remove(I)V -/
noncomputable def F_De_remove_37 (G4 : Int → Int → Int → MH → RS Unit) (v1 : Int) (v2 : Int) (v3 : Int) (h : MH) : RS Unit := gd (inR (v3 + (1 : Int))) (G4 v1 v2 (v3 + (1 : Int)) h)
theorem S_De_remove_37 {d : Nat} (hd : 0 ≤ d) {G4 : Int → Int → Int → MH → RS Unit} (hG4 : ∀ (v1 : Int) (v2 : Int) (v3 : Int) (h : MH), LayC h → inR v1 → inR v2 → inR v3 → OK d k_De_remove 4 [mR 6, mI v1, mI v2, mI v3] [] h cV pT (G4 v1 v2 v3 h)) {v1 : Int} {v2 : Int} {v3 : Int} {h : MH} (L : LayC h) (rv1 : inR v1) (rv2 : inR v2) (rv3 : inR v3) : OK d k_De_remove 37 [mR 6, mI v1, mI v2, mI v3] [] h cV pT (F_De_remove_37 G4 v1 v2 v3 h) := by
  unfold F_De_remove_37
  refine z_gd (fun g1 => ?_)
  refine z_go (fun Q hq => x_iinc (dA d_De_remove 23 rfl) rfl (by decide) rfl (x_goto (dA d_De_remove 24 rfl) rfl hq)) ?_
  exact hG4 v1 v2 (v3 + (1 : Int)) h L rv1 rv2 g1
noncomputable def F_De_remove_4_b (G4 : Int → Int → Int → MH → RS Unit) (v1 : Int) (v2 : Int) (v3 : Int) (h : MH) : RS Unit := if (mGi h 6 4) ≤ v3 then if (mGi h 6 4) ≤ v2 then some (.inl (), h) else gd (0 ≤ v2 ∧ v2 < 16) (sto (mPi h 10 v2.toNat v1) fun h5 => sto (mPi h5 6 4 v2) fun h8 => some (.inl (), h8)) else gd (0 ≤ v3 ∧ v3 < 16) (if (mGi h 10 v3.toNat) = v1 then F_De_remove_37 G4 v1 v2 v3 h else gd (0 ≤ v2 ∧ v2 < 16) (sto (mPi h 10 v2.toNat (mGi h 10 v3.toNat)) fun h14 => gd (inR (v2 + (1 : Int))) (F_De_remove_37 G4 v1 (v2 + (1 : Int)) v3 h14)))
theorem S_De_remove_4_b {d : Nat} (hd : 0 ≤ d) {G4 : Int → Int → Int → MH → RS Unit} (hG4 : ∀ (v1 : Int) (v2 : Int) (v3 : Int) (h : MH), LayC h → inR v1 → inR v2 → inR v3 → OK d k_De_remove 4 [mR 6, mI v1, mI v2, mI v3] [] h cV pT (G4 v1 v2 v3 h)) {v1 : Int} {v2 : Int} {v3 : Int} {h : MH} (L : LayC h) (rv1 : inR v1) (rv2 : inR v2) (rv3 : inR v3) : OK d k_De_remove 4 [mR 6, mI v1, mI v2, mI v3] [] h cV pT (F_De_remove_4_b G4 v1 v2 v3 h) := by
  unfold F_De_remove_4_b
  refine z_go (fun Q hq => x_iload_n (dA d_De_remove 4 rfl) rfl rfl (x_aload_n (dA d_De_remove 5 rfl) rfl rfl (x_getI (dA d_De_remove 6 rfl) f_De_30 (L.sh (x := (3, 5)) rfl) (by decide) (by decide) rfl hq))) ?_
  refine z_br (fun Q => x_icmp_ge (dA d_De_remove 7 rfl) rfl rv3 (L.rg _ _)) (fun c2 => ?_) (fun c2 => ?_)
  · refine z_go (fun Q hq => x_iload_n (dA d_De_remove 25 rfl) rfl rfl (x_aload_n (dA d_De_remove 26 rfl) rfl rfl (x_getI (dA d_De_remove 27 rfl) f_De_30 (L.sh (x := (3, 5)) rfl) (by decide) (by decide) rfl hq))) ?_
    refine z_br (fun Q => x_icmp_ge (dA d_De_remove 28 rfl) rfl rv2 (L.rg _ _)) (fun c3 => ?_) (fun c3 => ?_)
    · exact z_retv (dA d_De_remove 37 rfl) rfl
    · refine z_go (fun Q hq => x_aload_n (dA d_De_remove 29 rfl) rfl rfl (x_getR (dA d_De_remove 30 rfl) f_De_24 (L.sh (x := (3, 5)) rfl) (by decide) (by decide) rfl (L.rf 13 rfl) (x_iload_n (dA d_De_remove 31 rfl) rfl rfl (x_iload_n (dA d_De_remove 32 rfl) rfl rfl hq)))) ?_
      refine z_gd (fun g4 => ?_)
      refine z_sto (Ext.pi (L.sh (x := (100, 16)) rfl) (by decide) rv1) (fun Q hq => x_iast (dA d_De_remove 33 rfl) (L.sh (x := (100, 16)) rfl) g4.1 g4.2 (by decide) hq) (fun h5 e6 => ?_)
      have L7 := L.ext e6
      refine z_go (fun Q hq => x_aload_n (dA d_De_remove 34 rfl) rfl rfl (x_iload_n (dA d_De_remove 35 rfl) rfl rfl hq)) ?_
      refine z_sto (Ext.pi (L7.sh (x := (3, 5)) rfl) (by decide) rv2) (fun Q hq => x_putI (dA d_De_remove 36 rfl) p_De_30 (L7.sh (x := (3, 5)) rfl) (by decide) cl_De rfl hq) (fun h8 e9 => ?_)
      have L10 := L7.ext e9
      exact z_retv (dA d_De_remove 37 rfl) rfl
  · refine z_go (fun Q hq => x_aload_n (dA d_De_remove 8 rfl) rfl rfl (x_getR (dA d_De_remove 9 rfl) f_De_24 (L.sh (x := (3, 5)) rfl) (by decide) (by decide) rfl (L.rf 13 rfl) (x_iload_n (dA d_De_remove 10 rfl) rfl rfl hq))) ?_
    refine z_gd (fun g11 => ?_)
    refine z_go (fun Q hq => x_iald (dA d_De_remove 11 rfl) (L.sh (x := (100, 16)) rfl) g11.1 g11.2 (by decide) (x_iload_n (dA d_De_remove 12 rfl) rfl rfl hq)) ?_
    refine z_br (fun Q => x_icmp_eq (dA d_De_remove 13 rfl) rfl (L.rg _ _) rv1) (fun c12 => ?_) (fun c12 => ?_)
    · exact S_De_remove_37 hd hG4 L rv1 rv2 rv3
    · refine z_go (fun Q hq => x_aload_n (dA d_De_remove 14 rfl) rfl rfl (x_getR (dA d_De_remove 15 rfl) f_De_24 (L.sh (x := (3, 5)) rfl) (by decide) (by decide) rfl (L.rf 13 rfl) (x_iload_n (dA d_De_remove 16 rfl) rfl rfl (x_aload_n (dA d_De_remove 17 rfl) rfl rfl (x_getR (dA d_De_remove 18 rfl) f_De_24 (L.sh (x := (3, 5)) rfl) (by decide) (by decide) rfl (L.rf 13 rfl) (x_iload_n (dA d_De_remove 19 rfl) rfl rfl (x_iald (dA d_De_remove 20 rfl) (L.sh (x := (100, 16)) rfl) g11.1 g11.2 (by decide) hq))))))) ?_
      refine z_gd (fun g13 => ?_)
      refine z_sto (Ext.pi (L.sh (x := (100, 16)) rfl) (by decide) (L.rg _ _)) (fun Q hq => x_iast (dA d_De_remove 21 rfl) (L.sh (x := (100, 16)) rfl) g13.1 g13.2 (by decide) hq) (fun h14 e15 => ?_)
      have L16 := L.ext e15
      refine z_gd (fun g17 => ?_)
      refine z_go (fun Q hq => x_iinc (dA d_De_remove 22 rfl) rfl (by decide) rfl hq) ?_
      exact S_De_remove_37 hd hG4 L16 rv1 g17 rv3
noncomputable def F_De_remove_4 (v1 : Int) (v2 : Int) (v3 : Int) (h : MH) : RS Unit := itr (fun self (q : Int × Int × Int × MH) => F_De_remove_4_b (fun v1 v2 v3 h => self (v1, v2, v3, h)) q.1 q.2.1 q.2.2.1 q.2.2.2) FU (v1, v2, v3, h)
theorem S_De_remove_4 {d : Nat} (hd : 0 ≤ d) {v1 : Int} {v2 : Int} {v3 : Int} {h : MH} (L : LayC h) (rv1 : inR v1) (rv2 : inR v2) (rv3 : inR v3) : OK d k_De_remove 4 [mR 6, mI v1, mI v2, mI v3] [] h cV pT (F_De_remove_4  v1 v2 v3 h) := by
  unfold F_De_remove_4
  refine z_itr (P := fun q : Int × Int × Int × MH => LayC q.2.2.2 ∧ inR q.1 ∧ inR q.2.1 ∧ inR q.2.2.1 ∧ True) (ls := fun q : Int × Int × Int × MH => [mR 6, mI q.1, mI q.2.1, mI q.2.2.1]) (hp := fun q : Int × Int × Int × MH => q.2.2.2) (fun self hs q hq => ?_) FU (v1, v2, v3, h) ⟨L, rv1, rv2, rv3, trivial⟩
  exact S_De_remove_4_b hd (fun v1 v2 v3 h L rv1 rv2 rv3 => hs (v1, v2, v3, h) ⟨L, rv1, rv2, rv3, trivial⟩) hq.1 hq.2.1 hq.2.2.1 hq.2.2.2.1
noncomputable def F_De_remove (a1 : Int) (h : MH) : RS Unit := F_De_remove_4 a1 (0 : Int) (0 : Int) h
theorem S_De_remove {d : Nat} (hd : 0 ≤ d) {a1 : Int} {h : MH} (L : LayC h) (ra1 : inR a1) : OK d k_De_remove 0 [mR 6, mI a1, mN, mN] [] h cV pT (F_De_remove  a1 h) := by
  unfold F_De_remove
  refine z_go (fun Q hq => x_iconst (dA d_De_remove 0 rfl) (x_istore_n (dA d_De_remove 1 rfl) rfl (by decide) rfl (x_iconst (dA d_De_remove 2 rfl) (x_istore_n (dA d_De_remove 3 rfl) rfl (by decide) rfl hq)))) ?_
  exact S_De_remove_4 hd  L ra1 (inR_lit (0 : Int) rfl) (inR_lit (0 : Int) rfl)
/-! TwoMills.alike([CI[CII)Z -/
noncomputable def F_T_alike_3_b (G3 : Nat → Nat → Int → Nat → Nat → Int → Int → Int → MH → RS Int) (v0 : Nat) (v0n : Nat) (v1 : Int) (v2 : Nat) (v2n : Nat) (v3 : Int) (v4 : Int) (v5 : Int) (h : MH) : RS Int := if v4 ≤ v5 then some (.inl (1 : Int), h) else gd (inR (v1 + v5)) (gd (0 ≤ (v1 + v5) ∧ (v1 + v5) < v0n) (gd (inR (v3 + v5)) (gd (0 ≤ (v3 + v5) ∧ (v3 + v5) < v2n) (if (mGi h v0 (v1 + v5).toNat) = (mGi h v2 (v3 + v5).toNat) then gd (inR (v5 + (1 : Int))) (G3 v0 v0n v1 v2 v2n v3 v4 (v5 + (1 : Int)) h) else some (.inl (0 : Int), h)))))
theorem S_T_alike_3_b {d : Nat} (hd : 0 ≤ d) {G3 : Nat → Nat → Int → Nat → Nat → Int → Int → Int → MH → RS Int} (hG3 : ∀ (v0 : Nat) (v0n : Nat) (v1 : Int) (v2 : Nat) (v2n : Nat) (v3 : Int) (v4 : Int) (v5 : Int) (h : MH), LayC h → ArO h v0 101 v0n → inR v1 → ArO h v2 101 v2n → inR v3 → inR v4 → inR v5 → OK d k_T_alike 3 [mR v0, mI v1, mR v2, mI v3, mI v4, mI v5] [] h cI p01 (G3 v0 v0n v1 v2 v2n v3 v4 v5 h)) {v0 : Nat} {v0n : Nat} {v1 : Int} {v2 : Nat} {v2n : Nat} {v3 : Int} {v4 : Int} {v5 : Int} {h : MH} (L : LayC h) (ov0 : ArO h v0 101 v0n) (rv1 : inR v1) (ov2 : ArO h v2 101 v2n) (rv3 : inR v3) (rv4 : inR v4) (rv5 : inR v5) : OK d k_T_alike 3 [mR v0, mI v1, mR v2, mI v3, mI v4, mI v5] [] h cI p01 (F_T_alike_3_b G3 v0 v0n v1 v2 v2n v3 v4 v5 h) := by
  unfold F_T_alike_3_b
  refine z_go (fun Q hq => x_iload (dA d_T_alike 2 rfl) rfl (x_iload (dA d_T_alike 3 rfl) rfl hq)) ?_
  refine z_br (fun Q => x_icmp_ge (dA d_T_alike 4 rfl) rfl rv5 rv4) (fun c1 => ?_) (fun c1 => ?_)
  · refine z_go (fun Q hq => x_iconst (dA d_T_alike 20 rfl) hq) ?_
    exact z_retz (dA d_T_alike 21 rfl) rfl (.inr rfl)
  · refine z_go (fun Q hq => x_aload_n (dA d_T_alike 5 rfl) rfl rfl (x_iload_n (dA d_T_alike 6 rfl) rfl rfl (x_iload (dA d_T_alike 7 rfl) rfl hq))) ?_
    refine z_gd (fun g2 => ?_)
    refine z_go (fun Q hq => x_iadd (dA d_T_alike 8 rfl) hq) ?_
    refine z_gd (fun g3 => ?_)
    refine z_go (fun Q hq => x_cald (dA d_T_alike 9 rfl) ov0.1 g3.1 g3.2 ov0.2 (x_aload_n (dA d_T_alike 10 rfl) rfl rfl (x_iload_n (dA d_T_alike 11 rfl) rfl rfl (x_iload (dA d_T_alike 12 rfl) rfl hq)))) ?_
    refine z_gd (fun g4 => ?_)
    refine z_go (fun Q hq => x_iadd (dA d_T_alike 13 rfl) hq) ?_
    refine z_gd (fun g5 => ?_)
    refine z_go (fun Q hq => x_cald (dA d_T_alike 14 rfl) ov2.1 g5.1 g5.2 ov2.2 hq) ?_
    refine z_br (fun Q => x_icmp_eq (dA d_T_alike 15 rfl) rfl (L.rg _ _) (L.rg _ _)) (fun c6 => ?_) (fun c6 => ?_)
    · refine z_gd (fun g7 => ?_)
      refine z_go (fun Q hq => x_iinc (dA d_T_alike 18 rfl) rfl (by decide) rfl (x_goto (dA d_T_alike 19 rfl) rfl hq)) ?_
      exact hG3 v0 v0n v1 v2 v2n v3 v4 (v5 + (1 : Int)) h L ov0 rv1 ov2 rv3 rv4 g7
    · refine z_go (fun Q hq => x_iconst (dA d_T_alike 16 rfl) hq) ?_
      exact z_retz (dA d_T_alike 17 rfl) rfl (.inl rfl)
noncomputable def F_T_alike_3 (v0 : Nat) (v0n : Nat) (v1 : Int) (v2 : Nat) (v2n : Nat) (v3 : Int) (v4 : Int) (v5 : Int) (h : MH) : RS Int := itr (fun self (q : Nat × Nat × Int × Nat × Nat × Int × Int × Int × MH) => F_T_alike_3_b (fun v0 v0n v1 v2 v2n v3 v4 v5 h => self (v0, v0n, v1, v2, v2n, v3, v4, v5, h)) q.1 q.2.1 q.2.2.1 q.2.2.2.1 q.2.2.2.2.1 q.2.2.2.2.2.1 q.2.2.2.2.2.2.1 q.2.2.2.2.2.2.2.1 q.2.2.2.2.2.2.2.2) FU (v0, v0n, v1, v2, v2n, v3, v4, v5, h)
theorem S_T_alike_3 {d : Nat} (hd : 0 ≤ d) {v0 : Nat} {v0n : Nat} {v1 : Int} {v2 : Nat} {v2n : Nat} {v3 : Int} {v4 : Int} {v5 : Int} {h : MH} (L : LayC h) (ov0 : ArO h v0 101 v0n) (rv1 : inR v1) (ov2 : ArO h v2 101 v2n) (rv3 : inR v3) (rv4 : inR v4) (rv5 : inR v5) : OK d k_T_alike 3 [mR v0, mI v1, mR v2, mI v3, mI v4, mI v5] [] h cI p01 (F_T_alike_3  v0 v0n v1 v2 v2n v3 v4 v5 h) := by
  unfold F_T_alike_3
  refine z_itr (P := fun q : Nat × Nat × Int × Nat × Nat × Int × Int × Int × MH => LayC q.2.2.2.2.2.2.2.2 ∧ ArO q.2.2.2.2.2.2.2.2 q.1 101 q.2.1 ∧ inR q.2.2.1 ∧ ArO q.2.2.2.2.2.2.2.2 q.2.2.2.1 101 q.2.2.2.2.1 ∧ inR q.2.2.2.2.2.1 ∧ inR q.2.2.2.2.2.2.1 ∧ inR q.2.2.2.2.2.2.2.1 ∧ True) (ls := fun q : Nat × Nat × Int × Nat × Nat × Int × Int × Int × MH => [mR q.1, mI q.2.2.1, mR q.2.2.2.1, mI q.2.2.2.2.2.1, mI q.2.2.2.2.2.2.1, mI q.2.2.2.2.2.2.2.1]) (hp := fun q : Nat × Nat × Int × Nat × Nat × Int × Int × Int × MH => q.2.2.2.2.2.2.2.2) (fun self hs q hq => ?_) FU (v0, v0n, v1, v2, v2n, v3, v4, v5, h) ⟨L, ov0, rv1, ov2, rv3, rv4, rv5, trivial⟩
  exact S_T_alike_3_b hd (fun v0 v0n v1 v2 v2n v3 v4 v5 h L ov0 rv1 ov2 rv3 rv4 rv5 => hs (v0, v0n, v1, v2, v2n, v3, v4, v5, h) ⟨L, ov0, rv1, ov2, rv3, rv4, rv5, trivial⟩) hq.1 hq.2.1 hq.2.2.1 hq.2.2.2.1 hq.2.2.2.2.1 hq.2.2.2.2.2.1 hq.2.2.2.2.2.2.1
noncomputable def F_T_alike (a1 : Nat) (a1n : Nat) (a2 : Int) (a3 : Nat) (a3n : Nat) (a4 : Int) (a5 : Int) (h : MH) : RS Int := F_T_alike_3 a1 a1n a2 a3 a3n a4 a5 (0 : Int) h
theorem S_T_alike {d : Nat} (hd : 0 ≤ d) {a1 : Nat} {a1n : Nat} {a2 : Int} {a3 : Nat} {a3n : Nat} {a4 : Int} {a5 : Int} {h : MH} (L : LayC h) (oa1 : ArO h a1 101 a1n) (ra2 : inR a2) (oa3 : ArO h a3 101 a3n) (ra4 : inR a4) (ra5 : inR a5) : OK d k_T_alike 0 [mR a1, mI a2, mR a3, mI a4, mI a5, mN] [] h cI p01 (F_T_alike  a1 a1n a2 a3 a3n a4 a5 h) := by
  unfold F_T_alike
  refine z_go (fun Q hq => x_iconst (dA d_T_alike 0 rfl) (x_istore (dA d_T_alike 1 rfl) (by decide) rfl hq)) ?_
  exact S_T_alike_3 hd  L oa1 ra2 oa3 ra4 ra5 (inR_lit (0 : Int) rfl)
/-! TwoMills$FirstMill.areFirstTwoAlike()Z -/
noncomputable def F_Fm_areFirstTwoAlike_61 (h : MH) : RS Int := some (.inl (0 : Int), h)
theorem S_Fm_areFirstTwoAlike_61 {d : Nat} (hd : 2 ≤ d) {h : MH} (L : LayC h) : OK d k_Fm_areFirstTwoAlike 61 [mN, mN, mN] [] h cI p01 (F_Fm_areFirstTwoAlike_61   h) := by
  unfold F_Fm_areFirstTwoAlike_61
  refine z_go (fun Q hq => x_iconst (dA d_Fm_areFirstTwoAlike 31 rfl) hq) ?_
  exact z_retz (dA d_Fm_areFirstTwoAlike 32 rfl) rfl (.inl rfl)
noncomputable def F_Fm_areFirstTwoAlike (h : MH) : RS Int := bnd (F_Ar_length (0 : Int) h) fun x3 h1 => bnd (F_Ar_length (1 : Int) h1) fun x8 h6 => if x3 = x8 then bnd (F_Ar_start (0 : Int) h6) fun x14 h12 => bnd (F_Ar_start (1 : Int) h12) fun x19 h17 => bnd (F_T_alike 79 200 x14 79 200 x19 x3 h17) fun x24 h22 => if x24 = 0 then F_Fm_areFirstTwoAlike_61  h22 else some (.inl (1 : Int), h22) else F_Fm_areFirstTwoAlike_61  h6
theorem S_Fm_areFirstTwoAlike {d : Nat} (hd : 2 ≤ d) {h : MH} (L : LayC h) : OK d k_Fm_areFirstTwoAlike 0 [mR 3, mN, mN] [] h cI p01 (F_Fm_areFirstTwoAlike   h) := by
  unfold F_Fm_areFirstTwoAlike
  refine z_go (fun Q hq => x_aload_n (dA d_Fm_areFirstTwoAlike 0 rfl) rfl rfl (x_getR (dA d_Fm_areFirstTwoAlike 1 rfl) f_Fm_37 (L.sh (x := (6, 7)) rfl) (by decide) (by decide) rfl (L.rf 7 rfl) (x_getR (dA d_Fm_areFirstTwoAlike 2 rfl) f_Fm_184 (L.sh (x := (2, 6)) rfl) (by decide) (by decide) rfl (L.rf 79 rfl) (x_getR (dA d_Fm_areFirstTwoAlike 3 rfl) f_Fm_198 (L.sh (x := (1, 3)) rfl) (by decide) (by decide) rfl (L.rf 84 rfl) (x_astore_n (dA d_Fm_areFirstTwoAlike 4 rfl) rfl (by decide) rfl (x_aload_n (dA d_Fm_areFirstTwoAlike 5 rfl) rfl rfl (x_getR (dA d_Fm_areFirstTwoAlike 6 rfl) f_Fm_37 (L.sh (x := (6, 7)) rfl) (by decide) (by decide) rfl (L.rf 7 rfl) (x_iconst (dA d_Fm_areFirstTwoAlike 7 rfl) hq)))))))) ?_
  refine z_bnd (rest := []) (st1 := fun v => mI v :: []) (S_Ar_length (d := 1) (Nat.le_refl _) L (inR_lit (0 : Int) rfl)) (fun _ hx => absurd hx List.not_mem_nil) (fun _ => rfl) (fun Q' Q => x_callV (as := [mI (0 : Int)]) (rest := []) (k' := k_Ar_length) (dA d_Fm_areFirstTwoAlike 8 rfl) o_Ar_length lk_Fm_202 im_Ar_length se_Ar_length rfl (L.sh (x := (2, 6)) rfl) (by decide) (Nat.le_of_ble_eq_true rfl) (Nat.le_trans (Nat.le_of_ble_eq_true rfl) hd) (Nat.le_of_ble_eq_true rfl)) (fun x3 h1 e2 p4 => ?_)
  have L5 := L.ext e2
  refine z_go (fun Q hq => x_istore_n (dA d_Fm_areFirstTwoAlike 9 rfl) rfl (by decide) rfl (x_iload_n (dA d_Fm_areFirstTwoAlike 10 rfl) rfl rfl (x_aload_n (dA d_Fm_areFirstTwoAlike 11 rfl) rfl rfl (x_getR (dA d_Fm_areFirstTwoAlike 12 rfl) f_Fm_37 (L5.sh (x := (6, 7)) rfl) (by decide) (by decide) rfl (L5.rf 7 rfl) (x_iconst (dA d_Fm_areFirstTwoAlike 13 rfl) hq))))) ?_
  refine z_bnd (rest := [mI x3]) (st1 := fun v => mI v :: [mI x3]) (S_Ar_length (d := 1) (Nat.le_refl _) L5 (inR_lit (1 : Int) rfl)) (fun _ hx => absurd hx List.not_mem_nil) (fun _ => rfl) (fun Q' Q => x_callV (as := [mI (1 : Int)]) (rest := [mI x3]) (k' := k_Ar_length) (dA d_Fm_areFirstTwoAlike 14 rfl) o_Ar_length lk_Fm_202 im_Ar_length se_Ar_length rfl (L5.sh (x := (2, 6)) rfl) (by decide) (Nat.le_of_ble_eq_true rfl) (Nat.le_trans (Nat.le_of_ble_eq_true rfl) hd) (Nat.le_of_ble_eq_true rfl)) (fun x8 h6 e7 p9 => ?_)
  have L10 := L5.ext e7
  refine z_brn (fun Q => x_icmp_ne (dA d_Fm_areFirstTwoAlike 15 rfl) rfl p4 p9) (fun c11 => ?_) (fun c11 => ?_)
  · refine z_go (fun Q hq => x_aload_n (dA d_Fm_areFirstTwoAlike 16 rfl) rfl rfl (x_aload_n (dA d_Fm_areFirstTwoAlike 17 rfl) rfl rfl (x_getR (dA d_Fm_areFirstTwoAlike 18 rfl) f_Fm_37 (L10.sh (x := (6, 7)) rfl) (by decide) (by decide) rfl (L10.rf 7 rfl) (x_iconst (dA d_Fm_areFirstTwoAlike 19 rfl) hq)))) ?_
    refine z_bnd (rest := [mR 79]) (st1 := fun v => mI v :: [mR 79]) (S_Ar_start (d := 0) (Nat.le_refl _) L10 (inR_lit (0 : Int) rfl)) (fun _ hx => absurd hx List.not_mem_nil) (fun _ => rfl) (fun Q' Q => x_callV (as := [mI (0 : Int)]) (rest := [mR 79]) (k' := k_Ar_start) (dA d_Fm_areFirstTwoAlike 20 rfl) o_Ar_start lk_Fm_199 im_Ar_start se_Ar_start rfl (L10.sh (x := (2, 6)) rfl) (by decide) (Nat.le_of_ble_eq_true rfl) (Nat.le_trans (Nat.le_of_ble_eq_true rfl) hd) (Nat.le_of_ble_eq_true rfl)) (fun x14 h12 e13 p15 => ?_)
    have L16 := L10.ext e13
    refine z_go (fun Q hq => x_aload_n (dA d_Fm_areFirstTwoAlike 21 rfl) rfl rfl (x_aload_n (dA d_Fm_areFirstTwoAlike 22 rfl) rfl rfl (x_getR (dA d_Fm_areFirstTwoAlike 23 rfl) f_Fm_37 (L16.sh (x := (6, 7)) rfl) (by decide) (by decide) rfl (L16.rf 7 rfl) (x_iconst (dA d_Fm_areFirstTwoAlike 24 rfl) hq)))) ?_
    refine z_bnd (rest := [mR 79, mI x14, mR 79]) (st1 := fun v => mI v :: [mR 79, mI x14, mR 79]) (S_Ar_start (d := 0) (Nat.le_refl _) L16 (inR_lit (1 : Int) rfl)) (fun _ hx => absurd hx List.not_mem_nil) (fun _ => rfl) (fun Q' Q => x_callV (as := [mI (1 : Int)]) (rest := [mR 79, mI x14, mR 79]) (k' := k_Ar_start) (dA d_Fm_areFirstTwoAlike 25 rfl) o_Ar_start lk_Fm_199 im_Ar_start se_Ar_start rfl (L16.sh (x := (2, 6)) rfl) (by decide) (Nat.le_of_ble_eq_true rfl) (Nat.le_trans (Nat.le_of_ble_eq_true rfl) hd) (Nat.le_of_ble_eq_true rfl)) (fun x19 h17 e18 p20 => ?_)
    have L21 := L16.ext e18
    refine z_go (fun Q hq => x_iload_n (dA d_Fm_areFirstTwoAlike 26 rfl) rfl rfl hq) ?_
    refine z_bnd (rest := []) (st1 := fun v => mI v :: []) (S_T_alike (d := 0) (Nat.le_refl _) L21 ⟨L21.sh rfl, by decide⟩ p15 ⟨L21.sh rfl, by decide⟩ p20 p4) (fun _ hx => absurd hx List.not_mem_nil) (fun _ => rfl) (fun Q' Q => x_callSN (as := [mR 79, mI x14, mR 79, mI x19, mI x3]) (rest := []) (k' := k_T_alike) (dA d_Fm_areFirstTwoAlike 27 rfl) o_T_alike lk_Fm_253 st_T_alike (Nat.le_of_ble_eq_true rfl) (Nat.le_trans (Nat.le_of_ble_eq_true rfl) hd) (Nat.le_of_ble_eq_true rfl)) (fun x24 h22 e23 p25 => ?_)
    have L26 := L21.ext e23
    refine z_br (fun Q => x_if_eq (dA d_Fm_areFirstTwoAlike 28 rfl) rfl p25.inR) (fun c27 => ?_) (fun c27 => ?_)
    · refine z_fgt (ls' := [mN, mN, mN]) ⟨.inl rfl, .inl rfl, .inl rfl, trivial⟩ ?_
      exact S_Fm_areFirstTwoAlike_61 hd  L26 
    · refine z_go (fun Q hq => x_iconst (dA d_Fm_areFirstTwoAlike 29 rfl) (x_goto (dA d_Fm_areFirstTwoAlike 30 rfl) rfl hq)) ?_
      exact z_retz (dA d_Fm_areFirstTwoAlike 32 rfl) rfl (.inr rfl)
  · refine z_fgt (ls' := [mN, mN, mN]) ⟨.inl rfl, .inl rfl, .inl rfl, trivial⟩ ?_
    exact S_Fm_areFirstTwoAlike_61 hd  L10 
/-! TwoMills$Letters.addAll([CII)V -/
noncomputable def F_Le_addAll_61 (s0 : Nat) (s0n : Nat) (s1 : Int) (h : MH) : RS Unit := gd (p01 s1) (sto (mPi h s0 2 s1) fun h2 => some (.inl (), h2))
theorem S_Le_addAll_61 {d : Nat} (hd : 0 ≤ d) {s0 : Nat} {s0n : Nat} {s1 : Int} {h : MH} (L : LayC h) (os0 : LeO h s0 s0n) (rs1 : inR s1) : OK d k_Le_addAll 61 [mN, mN, mN, mN, mN] [mI s1, mR s0] h cV pT (F_Le_addAll_61  s0 s0n s1 h) := by
  unfold F_Le_addAll_61
  refine z_gd (fun g1 => ?_)
  refine z_sto (Ext.pi os0.1 (by decide) rs1) (fun Q hq => x_putZ (dA d_Le_addAll 33 rfl) p_Le_17 os0.1 (by decide) cl_Le rfl g1 hq) (fun h2 e3 => ?_)
  have L4 := L.ext e3
  exact z_retv (dA d_Le_addAll 34 rfl) rfl
noncomputable def F_Le_addAll_56 (s0 : Nat) (s0n : Nat) (h : MH) : RS Unit := F_Le_addAll_61 s0 s0n (1 : Int) h
theorem S_Le_addAll_56 {d : Nat} (hd : 0 ≤ d) {s0 : Nat} {s0n : Nat} {h : MH} (L : LayC h) (os0 : LeO h s0 s0n) : OK d k_Le_addAll 56 [mN, mN, mN, mN, mN] [mR s0] h cV pT (F_Le_addAll_56  s0 s0n h) := by
  unfold F_Le_addAll_56
  refine z_go (fun Q hq => x_iconst (dA d_Le_addAll 30 rfl) (x_goto (dA d_Le_addAll 31 rfl) rfl hq)) ?_
  exact S_Le_addAll_61 hd  L os0 (inR_lit (1 : Int) rfl)
noncomputable def F_Le_addAll (a : Nat) (an : Nat) (a1 : Nat) (a1n : Nat) (a2 : Int) (a3 : Int) (h : MH) : RS Unit := gd (inR (((an : Nat) : Int) - (mGi h a 1))) (gd (0 ≤ a2 ∧ 0 ≤ (mGi h a 1) ∧ 0 ≤ (if (((an : Nat) : Int) - (mGi h a 1)) < a3 then (((an : Nat) : Int) - (mGi h a 1)) else a3) ∧ a2 + (if (((an : Nat) : Int) - (mGi h a 1)) < a3 then (((an : Nat) : Int) - (mGi h a 1)) else a3) ≤ a1n ∧ (mGi h a 1) + (if (((an : Nat) : Int) - (mGi h a 1)) < a3 then (((an : Nat) : Int) - (mGi h a 1)) else a3) ≤ an) (sto (mCpI h a1 (a + 1) a2.toNat (mGi h a 1).toNat (if (((an : Nat) : Int) - (mGi h a 1)) < a3 then (((an : Nat) : Int) - (mGi h a 1)) else a3).toNat) fun h7 => gd (inR ((mGi h7 a 1) + (if (((an : Nat) : Int) - (mGi h a 1)) < a3 then (((an : Nat) : Int) - (mGi h a 1)) else a3))) (sto (mPi h7 a 1 ((mGi h7 a 1) + (if (((an : Nat) : Int) - (mGi h a 1)) < a3 then (((an : Nat) : Int) - (mGi h a 1)) else a3))) fun h11 => if (mGi h11 a 2) = 0 then if a3 ≤ (if (((an : Nat) : Int) - (mGi h a 1)) < a3 then (((an : Nat) : Int) - (mGi h a 1)) else a3) then F_Le_addAll_61 a an (0 : Int) h11 else F_Le_addAll_56 a an h11 else F_Le_addAll_56 a an h11)))
theorem S_Le_addAll {d : Nat} (hd : 0 ≤ d) {a : Nat} {an : Nat} {a1 : Nat} {a1n : Nat} {a2 : Int} {a3 : Int} {h : MH} (L : LayC h) (oa : LeO h a an) (oa1 : ArO h a1 101 a1n) (ra2 : inR a2) (ra3 : inR a3) : OK d k_Le_addAll 0 [mR a, mR a1, mI a2, mI a3, mN] [] h cV pT (F_Le_addAll  a an a1 a1n a2 a3 h) := by
  unfold F_Le_addAll
  refine z_go (fun Q hq => x_iload_n (dA d_Le_addAll 0 rfl) rfl rfl (x_aload_n (dA d_Le_addAll 1 rfl) rfl rfl (x_getR (dA d_Le_addAll 2 rfl) f_Le_7 oa.1 (by decide) (by decide) rfl oa.2.1 (x_alen (dA d_Le_addAll 3 rfl) oa.2.2.1 (by decide) (x_aload_n (dA d_Le_addAll 4 rfl) rfl rfl (x_getI (dA d_Le_addAll 5 rfl) f_Le_13 oa.1 (by decide) (by decide) rfl hq)))))) ?_
  refine z_gd (fun g5 => ?_)
  refine z_go (fun Q hq => x_isub (dA d_Le_addAll 6 rfl) (x_min (dA d_Le_addAll 7 rfl) lk_Le_21 mm_min_st mm_iz mm_min_co ra3 g5 (Nat.le_of_ble_eq_true rfl) (x_istore (dA d_Le_addAll 8 rfl) (by decide) rfl (x_aload_n (dA d_Le_addAll 9 rfl) rfl rfl (x_iload_n (dA d_Le_addAll 10 rfl) rfl rfl (x_aload_n (dA d_Le_addAll 11 rfl) rfl rfl (x_getR (dA d_Le_addAll 12 rfl) f_Le_7 oa.1 (by decide) (by decide) rfl oa.2.1 (x_aload_n (dA d_Le_addAll 13 rfl) rfl rfl (x_getI (dA d_Le_addAll 14 rfl) f_Le_13 oa.1 (by decide) (by decide) rfl (x_iload (dA d_Le_addAll 15 rfl) rfl hq)))))))))) ?_
  refine z_gd (fun g6 => ?_)
  refine z_sto (Ext.cpI oa1.1 oa.2.2.1) (fun Q hq => x_copyCI (dA d_Le_addAll 16 rfl) lk_Le_27 oa1.1 oa.2.2.1 g6 oa1.2 oa.2.2.2 L.2.2.1 (Nat.le_of_ble_eq_true rfl) hq) (fun h7 e8 => ?_)
  have L9 := L.ext e8
  refine z_go (fun Q hq => x_aload_n (dA d_Le_addAll 17 rfl) rfl rfl (x_dup (dA d_Le_addAll 18 rfl) rfl (x_getI (dA d_Le_addAll 19 rfl) f_Le_13 (oa.ext e8).1 (by decide) (by decide) rfl (x_iload (dA d_Le_addAll 20 rfl) rfl hq)))) ?_
  refine z_gd (fun g10 => ?_)
  refine z_go (fun Q hq => x_iadd (dA d_Le_addAll 21 rfl) hq) ?_
  refine z_sto (Ext.pi (oa.ext e8).1 (by decide) g10) (fun Q hq => x_putI (dA d_Le_addAll 22 rfl) p_Le_13 (oa.ext e8).1 (by decide) cl_Le rfl hq) (fun h11 e12 => ?_)
  have L13 := L9.ext e12
  refine z_go (fun Q hq => x_aload_n (dA d_Le_addAll 23 rfl) rfl rfl (x_aload_n (dA d_Le_addAll 24 rfl) rfl rfl (x_getI (dA d_Le_addAll 25 rfl) f_Le_17 ((oa.ext e8).ext e12).1 (by decide) (by decide) rfl hq))) ?_
  refine z_brn (fun Q => x_if_ne (dA d_Le_addAll 26 rfl) rfl (L13.rg _ _)) (fun c14 => ?_) (fun c14 => ?_)
  · refine z_go (fun Q hq => x_iload (dA d_Le_addAll 27 rfl) rfl (x_iload_n (dA d_Le_addAll 28 rfl) rfl rfl hq)) ?_
    refine z_br (fun Q => x_icmp_ge (dA d_Le_addAll 29 rfl) rfl (inR_mn ra3 g5) ra3) (fun c15 => ?_) (fun c15 => ?_)
    · refine z_go (fun Q hq => x_iconst (dA d_Le_addAll 32 rfl) hq) ?_
      refine z_fgt (ls' := [mN, mN, mN, mN, mN]) ⟨.inl rfl, .inl rfl, .inl rfl, .inl rfl, .inl rfl, trivial⟩ ?_
      exact S_Le_addAll_61 hd  L13 ((oa.ext e8).ext e12) (inR_lit (0 : Int) rfl)
    · refine z_fgt (ls' := [mN, mN, mN, mN, mN]) ⟨.inl rfl, .inl rfl, .inl rfl, .inl rfl, .inl rfl, trivial⟩ ?_
      exact S_Le_addAll_56 hd  L13 ((oa.ext e8).ext e12)
  · refine z_fgt (ls' := [mN, mN, mN, mN, mN]) ⟨.inl rfl, .inl rfl, .inl rfl, .inl rfl, .inl rfl, trivial⟩ ?_
    exact S_Le_addAll_56 hd  L13 ((oa.ext e8).ext e12)
/-! TwoMills$FirstMill.bringArgument(I)V -/
noncomputable def F_Fm_bringArgument (a1 : Int) (h : MH) : RS Unit := bnd (F_Ar_start a1 h) fun x3 h1 => bnd (F_Ar_length a1 h1) fun x8 h6 => bnd (F_Le_addAll 84 500 79 200 x3 x8 h6) fun x13 h11 => some (.inl (), h11)
theorem S_Fm_bringArgument {d : Nat} (hd : 2 ≤ d) {a1 : Int} {h : MH} (L : LayC h) (ra1 : inR a1) : OK d k_Fm_bringArgument 0 [mR 3, mI a1] [] h cV pT (F_Fm_bringArgument  a1 h) := by
  unfold F_Fm_bringArgument
  refine z_go (fun Q hq => x_aload_n (dA d_Fm_bringArgument 0 rfl) rfl rfl (x_getR (dA d_Fm_bringArgument 1 rfl) f_Fm_41 (L.sh (x := (6, 7)) rfl) (by decide) (by decide) rfl (L.rf 8 rfl) (x_aload_n (dA d_Fm_bringArgument 2 rfl) rfl rfl (x_getR (dA d_Fm_bringArgument 3 rfl) f_Fm_37 (L.sh (x := (6, 7)) rfl) (by decide) (by decide) rfl (L.rf 7 rfl) (x_getR (dA d_Fm_bringArgument 4 rfl) f_Fm_184 (L.sh (x := (2, 6)) rfl) (by decide) (by decide) rfl (L.rf 79 rfl) (x_getR (dA d_Fm_bringArgument 5 rfl) f_Fm_198 (L.sh (x := (1, 3)) rfl) (by decide) (by decide) rfl (L.rf 84 rfl) (x_aload_n (dA d_Fm_bringArgument 6 rfl) rfl rfl (x_getR (dA d_Fm_bringArgument 7 rfl) f_Fm_37 (L.sh (x := (6, 7)) rfl) (by decide) (by decide) rfl (L.rf 7 rfl) (x_iload_n (dA d_Fm_bringArgument 8 rfl) rfl rfl hq))))))))) ?_
  refine z_bnd (rest := [mR 79, mR 84]) (st1 := fun v => mI v :: [mR 79, mR 84]) (S_Ar_start (d := 0) (Nat.le_refl _) L ra1) (fun _ hx => absurd hx List.not_mem_nil) (fun _ => rfl) (fun Q' Q => x_callV (as := [mI a1]) (rest := [mR 79, mR 84]) (k' := k_Ar_start) (dA d_Fm_bringArgument 9 rfl) o_Ar_start lk_Fm_199 im_Ar_start se_Ar_start rfl (L.sh (x := (2, 6)) rfl) (by decide) (Nat.le_of_ble_eq_true rfl) (Nat.le_trans (Nat.le_of_ble_eq_true rfl) hd) (Nat.le_of_ble_eq_true rfl)) (fun x3 h1 e2 p4 => ?_)
  have L5 := L.ext e2
  refine z_go (fun Q hq => x_aload_n (dA d_Fm_bringArgument 10 rfl) rfl rfl (x_getR (dA d_Fm_bringArgument 11 rfl) f_Fm_37 (L5.sh (x := (6, 7)) rfl) (by decide) (by decide) rfl (L5.rf 7 rfl) (x_iload_n (dA d_Fm_bringArgument 12 rfl) rfl rfl hq))) ?_
  refine z_bnd (rest := [mI x3, mR 79, mR 84]) (st1 := fun v => mI v :: [mI x3, mR 79, mR 84]) (S_Ar_length (d := 1) (Nat.le_refl _) L5 ra1) (fun _ hx => absurd hx List.not_mem_nil) (fun _ => rfl) (fun Q' Q => x_callV (as := [mI a1]) (rest := [mI x3, mR 79, mR 84]) (k' := k_Ar_length) (dA d_Fm_bringArgument 13 rfl) o_Ar_length lk_Fm_202 im_Ar_length se_Ar_length rfl (L5.sh (x := (2, 6)) rfl) (by decide) (Nat.le_of_ble_eq_true rfl) (Nat.le_trans (Nat.le_of_ble_eq_true rfl) hd) (Nat.le_of_ble_eq_true rfl)) (fun x8 h6 e7 p9 => ?_)
  have L10 := L5.ext e7
  refine z_bnd (rest := []) (st1 := fun _ => []) (S_Le_addAll (d := 0) (Nat.le_refl _) L10 (L10.le rfl 85 rfl rfl (by decide)) ⟨L10.sh rfl, by decide⟩ p4 p9) (fun _ hx => absurd hx List.not_mem_nil) (fun _ => rfl) (fun Q' Q => x_callV (as := [mR 79, mI x3, mI x8]) (rest := []) (k' := k_Le_addAll) (dA d_Fm_bringArgument 14 rfl) o_Le_addAll lk_Fm_187 im_Le_addAll se_Le_addAll rfl (L10.sh (x := (1, 3)) rfl) (by decide) (Nat.le_of_ble_eq_true rfl) (Nat.le_trans (Nat.le_of_ble_eq_true rfl) hd) (Nat.le_of_ble_eq_true rfl)) (fun x13 h11 e12 p14 => ?_)
  have L15 := L10.ext e12
  exact z_retv (dA d_Fm_bringArgument 15 rfl) rfl
/-! TwoMills$Letters.addNumber(I)V -/
noncomputable def F_Le_addNumber_70 (G21 : Nat → Nat → Int → Int → Int → MH → RS Unit) (v0 : Nat) (v0n : Nat) (v2 : Int) (v3 : Int) (v4 : Int) (h : MH) : RS Unit := gd (0 ≤ v4) (G21 v0 v0n v2 v3 (v4 / (10 : Int)) h)
theorem S_Le_addNumber_70 {d : Nat} (hd : 1 ≤ d) {G21 : Nat → Nat → Int → Int → Int → MH → RS Unit} (hG21 : ∀ (v0 : Nat) (v0n : Nat) (v2 : Int) (v3 : Int) (v4 : Int) (h : MH), LayC h → LeO h v0 v0n → inR v2 → inR v3 → inR v4 → OK d k_Le_addNumber 21 [mR v0, mN, mI v2, mI v3, mI v4, mN] [] h cV pT (G21 v0 v0n v2 v3 v4 h)) {v0 : Nat} {v0n : Nat} {v2 : Int} {v3 : Int} {v4 : Int} {h : MH} (L : LayC h) (ov0 : LeO h v0 v0n) (rv2 : inR v2) (rv3 : inR v3) (rv4 : inR v4) : OK d k_Le_addNumber 70 [mR v0, mN, mI v2, mI v3, mI v4, mN] [] h cV pT (F_Le_addNumber_70 G21 v0 v0n v2 v3 v4 h) := by
  unfold F_Le_addNumber_70
  refine z_go (fun Q hq => x_iload (dA d_Le_addNumber 39 rfl) rfl (x_bipush (dA d_Le_addNumber 40 rfl) (by decide) hq)) ?_
  refine z_gd (fun g1 => ?_)
  refine z_go (fun Q hq => x_idiv (dA d_Le_addNumber 41 rfl) rv4 (inR_lit (10 : Int) rfl) g1 (by decide) (x_istore (dA d_Le_addNumber 42 rfl) (by decide) rfl (x_goto (dA d_Le_addNumber 43 rfl) rfl hq))) ?_
  exact hG21 v0 v0n v2 v3 (v4 / (10 : Int)) h L ov0 rv2 rv3 (inR_div rv4 g1 (by decide))
noncomputable def F_Le_addNumber_55 (G21 : Nat → Nat → Int → Int → Int → MH → RS Unit) (v0 : Nat) (v0n : Nat) (v2 : Int) (v4 : Int) (v5 : Int) (s0 : Int) (h : MH) : RS Unit := if s0 = 0 then F_Le_addNumber_70 G21 v0 v0n v2 s0 v4 h else gd (inR ((48 : Int) + v5)) (gd (0 ≤ ((48 : Int) + v5) ∧ ((48 : Int) + v5) < 65536) (bnd (F_Le_add v0 v0n ((48 : Int) + v5) h) fun x7 h5 => F_Le_addNumber_70 G21 v0 v0n v2 s0 v4 h5))
theorem S_Le_addNumber_55 {d : Nat} (hd : 1 ≤ d) {G21 : Nat → Nat → Int → Int → Int → MH → RS Unit} (hG21 : ∀ (v0 : Nat) (v0n : Nat) (v2 : Int) (v3 : Int) (v4 : Int) (h : MH), LayC h → LeO h v0 v0n → inR v2 → inR v3 → inR v4 → OK d k_Le_addNumber 21 [mR v0, mN, mI v2, mI v3, mI v4, mN] [] h cV pT (G21 v0 v0n v2 v3 v4 h)) {v0 : Nat} {v0n : Nat} {v2 : Int} {v4 : Int} {v5 : Int} {s0 : Int} {h : MH} (L : LayC h) (ov0 : LeO h v0 v0n) (rv2 : inR v2) (rv4 : inR v4) (rv5 : inR v5) (rs0 : inR s0) : OK d k_Le_addNumber 55 [mR v0, mN, mI v2, mN, mI v4, mI v5] [mI s0] h cV pT (F_Le_addNumber_55 G21 v0 v0n v2 v4 v5 s0 h) := by
  unfold F_Le_addNumber_55
  refine z_go (fun Q hq => x_istore_n (dA d_Le_addNumber 30 rfl) rfl (by decide) rfl (x_iload_n (dA d_Le_addNumber 31 rfl) rfl rfl hq)) ?_
  refine z_br (fun Q => x_if_eq (dA d_Le_addNumber 32 rfl) rfl rs0) (fun c2 => ?_) (fun c2 => ?_)
  · refine z_fgt (ls' := [mR v0, mN, mI v2, mI s0, mI v4, mN]) ⟨.inr rfl, .inl rfl, .inr rfl, .inr rfl, .inr rfl, .inl rfl, trivial⟩ ?_
    exact S_Le_addNumber_70 hd hG21 L ov0 rv2 rs0 rv4
  · refine z_go (fun Q hq => x_aload_n (dA d_Le_addNumber 33 rfl) rfl rfl (x_bipush (dA d_Le_addNumber 34 rfl) (by decide) (x_iload (dA d_Le_addNumber 35 rfl) rfl hq))) ?_
    refine z_gd (fun g3 => ?_)
    refine z_go (fun Q hq => x_iadd (dA d_Le_addNumber 36 rfl) hq) ?_
    refine z_gd (fun g4 => ?_)
    refine z_go (fun Q hq => x_i2c (dA d_Le_addNumber 37 rfl) g4.1 g4.2 hq) ?_
    refine z_bnd (rest := []) (st1 := fun _ => []) (S_Le_add (d := 0) (Nat.le_refl _) L ov0 g4) (fun _ hx => absurd hx List.not_mem_nil) (fun _ => rfl) (fun Q' Q => x_callV (as := [mI ((48 : Int) + v5)]) (rest := []) (k' := k_Le_add) (dA d_Le_addNumber 38 rfl) o_Le_add lk_Le_33 im_Le_add se_Le_add rfl ov0.1 (by decide) (Nat.le_of_ble_eq_true rfl) (Nat.le_trans (Nat.le_of_ble_eq_true rfl) hd) (Nat.le_of_ble_eq_true rfl)) (fun x7 h5 e6 p8 => ?_)
    have L9 := L.ext e6
    refine z_fgt (ls' := [mR v0, mN, mI v2, mI s0, mI v4, mN]) ⟨.inr rfl, .inl rfl, .inr rfl, .inr rfl, .inr rfl, .inl rfl, trivial⟩ ?_
    exact S_Le_addNumber_70 hd hG21 L9 (ov0.ext e6) rv2 rs0 rv4
noncomputable def F_Le_addNumber_50 (G21 : Nat → Nat → Int → Int → Int → MH → RS Unit) (v0 : Nat) (v0n : Nat) (v2 : Int) (v4 : Int) (v5 : Int) (h : MH) : RS Unit := F_Le_addNumber_55 G21 v0 v0n v2 v4 v5 (1 : Int) h
theorem S_Le_addNumber_50 {d : Nat} (hd : 1 ≤ d) {G21 : Nat → Nat → Int → Int → Int → MH → RS Unit} (hG21 : ∀ (v0 : Nat) (v0n : Nat) (v2 : Int) (v3 : Int) (v4 : Int) (h : MH), LayC h → LeO h v0 v0n → inR v2 → inR v3 → inR v4 → OK d k_Le_addNumber 21 [mR v0, mN, mI v2, mI v3, mI v4, mN] [] h cV pT (G21 v0 v0n v2 v3 v4 h)) {v0 : Nat} {v0n : Nat} {v2 : Int} {v4 : Int} {v5 : Int} {h : MH} (L : LayC h) (ov0 : LeO h v0 v0n) (rv2 : inR v2) (rv4 : inR v4) (rv5 : inR v5) : OK d k_Le_addNumber 50 [mR v0, mN, mI v2, mN, mI v4, mI v5] [] h cV pT (F_Le_addNumber_50 G21 v0 v0n v2 v4 v5 h) := by
  unfold F_Le_addNumber_50
  refine z_go (fun Q hq => x_iconst (dA d_Le_addNumber 27 rfl) (x_goto (dA d_Le_addNumber 28 rfl) rfl hq)) ?_
  exact S_Le_addNumber_55 hd hG21 L ov0 rv2 rv4 rv5 (inR_lit (1 : Int) rfl)
noncomputable def F_Le_addNumber_21_b (G21 : Nat → Nat → Int → Int → Int → MH → RS Unit) (v0 : Nat) (v0n : Nat) (v2 : Int) (v3 : Int) (v4 : Int) (h : MH) : RS Unit := if v4 ≤ 0 then some (.inl (), h) else gd (0 ≤ v2) (gd (0 < v4) (gd (0 ≤ (v2 / v4)) (if v3 = 0 then if ((v2 / v4) % (10 : Int)) = 0 then if v4 = (1 : Int) then F_Le_addNumber_50 G21 v0 v0n v2 v4 ((v2 / v4) % (10 : Int)) h else F_Le_addNumber_55 G21 v0 v0n v2 v4 ((v2 / v4) % (10 : Int)) (0 : Int) h else F_Le_addNumber_50 G21 v0 v0n v2 v4 ((v2 / v4) % (10 : Int)) h else F_Le_addNumber_50 G21 v0 v0n v2 v4 ((v2 / v4) % (10 : Int)) h)))
theorem S_Le_addNumber_21_b {d : Nat} (hd : 1 ≤ d) {G21 : Nat → Nat → Int → Int → Int → MH → RS Unit} (hG21 : ∀ (v0 : Nat) (v0n : Nat) (v2 : Int) (v3 : Int) (v4 : Int) (h : MH), LayC h → LeO h v0 v0n → inR v2 → inR v3 → inR v4 → OK d k_Le_addNumber 21 [mR v0, mN, mI v2, mI v3, mI v4, mN] [] h cV pT (G21 v0 v0n v2 v3 v4 h)) {v0 : Nat} {v0n : Nat} {v2 : Int} {v3 : Int} {v4 : Int} {h : MH} (L : LayC h) (ov0 : LeO h v0 v0n) (rv2 : inR v2) (rv3 : inR v3) (rv4 : inR v4) : OK d k_Le_addNumber 21 [mR v0, mN, mI v2, mI v3, mI v4, mN] [] h cV pT (F_Le_addNumber_21_b G21 v0 v0n v2 v3 v4 h) := by
  unfold F_Le_addNumber_21_b
  refine z_go (fun Q hq => x_iload (dA d_Le_addNumber 12 rfl) rfl hq) ?_
  refine z_br (fun Q => x_if_le (dA d_Le_addNumber 13 rfl) rfl rv4) (fun c10 => ?_) (fun c10 => ?_)
  · exact z_retv (dA d_Le_addNumber 44 rfl) rfl
  · refine z_go (fun Q hq => x_iload_n (dA d_Le_addNumber 14 rfl) rfl rfl (x_iload (dA d_Le_addNumber 15 rfl) rfl hq)) ?_
    refine z_gd (fun g11 => ?_)
    refine z_gd (fun g12 => ?_)
    refine z_go (fun Q hq => x_idiv (dA d_Le_addNumber 16 rfl) rv2 rv4 g11 g12 (x_bipush (dA d_Le_addNumber 17 rfl) (by decide) hq)) ?_
    refine z_gd (fun g13 => ?_)
    refine z_go (fun Q hq => x_irem (dA d_Le_addNumber 18 rfl) (inR_div rv2 g11 g12) (inR_lit (10 : Int) rfl) g13 (by decide) (x_istore (dA d_Le_addNumber 19 rfl) (by decide) rfl (x_iload_n (dA d_Le_addNumber 20 rfl) rfl rfl hq))) ?_
    refine z_brn (fun Q => x_if_ne (dA d_Le_addNumber 21 rfl) rfl rv3) (fun c14 => ?_) (fun c14 => ?_)
    · refine z_go (fun Q hq => x_iload (dA d_Le_addNumber 22 rfl) rfl hq) ?_
      refine z_brn (fun Q => x_if_ne (dA d_Le_addNumber 23 rfl) rfl (inR_mod (inR_lit (10 : Int) rfl) (by decide))) (fun c15 => ?_) (fun c15 => ?_)
      · refine z_go (fun Q hq => x_iload (dA d_Le_addNumber 24 rfl) rfl (x_iconst (dA d_Le_addNumber 25 rfl) hq)) ?_
        refine z_brn (fun Q => x_icmp_ne (dA d_Le_addNumber 26 rfl) rfl rv4 (inR_lit (1 : Int) rfl)) (fun c16 => ?_) (fun c16 => ?_)
        · refine z_fgt (ls' := [mR v0, mN, mI v2, mN, mI v4, mI ((v2 / v4) % (10 : Int))]) ⟨.inr rfl, .inl rfl, .inr rfl, .inl rfl, .inr rfl, .inr rfl, trivial⟩ ?_
          exact S_Le_addNumber_50 hd hG21 L ov0 rv2 rv4 (inR_mod (inR_lit (10 : Int) rfl) (by decide))
        · refine z_go (fun Q hq => x_iconst (dA d_Le_addNumber 29 rfl) hq) ?_
          refine z_fgt (ls' := [mR v0, mN, mI v2, mN, mI v4, mI ((v2 / v4) % (10 : Int))]) ⟨.inr rfl, .inl rfl, .inr rfl, .inl rfl, .inr rfl, .inr rfl, trivial⟩ ?_
          exact S_Le_addNumber_55 hd hG21 L ov0 rv2 rv4 (inR_mod (inR_lit (10 : Int) rfl) (by decide)) (inR_lit (0 : Int) rfl)
      · refine z_fgt (ls' := [mR v0, mN, mI v2, mN, mI v4, mI ((v2 / v4) % (10 : Int))]) ⟨.inr rfl, .inl rfl, .inr rfl, .inl rfl, .inr rfl, .inr rfl, trivial⟩ ?_
        exact S_Le_addNumber_50 hd hG21 L ov0 rv2 rv4 (inR_mod (inR_lit (10 : Int) rfl) (by decide))
    · refine z_fgt (ls' := [mR v0, mN, mI v2, mN, mI v4, mI ((v2 / v4) % (10 : Int))]) ⟨.inr rfl, .inl rfl, .inr rfl, .inl rfl, .inr rfl, .inr rfl, trivial⟩ ?_
      exact S_Le_addNumber_50 hd hG21 L ov0 rv2 rv4 (inR_mod (inR_lit (10 : Int) rfl) (by decide))
noncomputable def F_Le_addNumber_21 (v0 : Nat) (v0n : Nat) (v2 : Int) (v3 : Int) (v4 : Int) (h : MH) : RS Unit := itr (fun self (q : Nat × Nat × Int × Int × Int × MH) => F_Le_addNumber_21_b (fun v0 v0n v2 v3 v4 h => self (v0, v0n, v2, v3, v4, h)) q.1 q.2.1 q.2.2.1 q.2.2.2.1 q.2.2.2.2.1 q.2.2.2.2.2) FU (v0, v0n, v2, v3, v4, h)
theorem S_Le_addNumber_21 {d : Nat} (hd : 1 ≤ d) {v0 : Nat} {v0n : Nat} {v2 : Int} {v3 : Int} {v4 : Int} {h : MH} (L : LayC h) (ov0 : LeO h v0 v0n) (rv2 : inR v2) (rv3 : inR v3) (rv4 : inR v4) : OK d k_Le_addNumber 21 [mR v0, mN, mI v2, mI v3, mI v4, mN] [] h cV pT (F_Le_addNumber_21  v0 v0n v2 v3 v4 h) := by
  unfold F_Le_addNumber_21
  refine z_itr (P := fun q : Nat × Nat × Int × Int × Int × MH => LayC q.2.2.2.2.2 ∧ LeO q.2.2.2.2.2 q.1 q.2.1 ∧ inR q.2.2.1 ∧ inR q.2.2.2.1 ∧ inR q.2.2.2.2.1 ∧ True) (ls := fun q : Nat × Nat × Int × Int × Int × MH => [mR q.1, mN, mI q.2.2.1, mI q.2.2.2.1, mI q.2.2.2.2.1, mN]) (hp := fun q : Nat × Nat × Int × Int × Int × MH => q.2.2.2.2.2) (fun self hs q hq => ?_) FU (v0, v0n, v2, v3, v4, h) ⟨L, ov0, rv2, rv3, rv4, trivial⟩
  exact S_Le_addNumber_21_b hd (fun v0 v0n v2 v3 v4 h L ov0 rv2 rv3 rv4 => hs (v0, v0n, v2, v3, v4, h) ⟨L, ov0, rv2, rv3, rv4, trivial⟩) hq.1 hq.2.1 hq.2.2.1 hq.2.2.2.1 hq.2.2.2.2.1
noncomputable def F_Le_addNumber_10 (v0 : Nat) (v0n : Nat) (v1 : Int) (h : MH) : RS Unit := gd (-2147483648 < v1) (F_Le_addNumber_21 v0 v0n (if 0 ≤ v1 then v1 else 0 - v1) (0 : Int) (1000000000 : Int) h)
theorem S_Le_addNumber_10 {d : Nat} (hd : 1 ≤ d) {v0 : Nat} {v0n : Nat} {v1 : Int} {h : MH} (L : LayC h) (ov0 : LeO h v0 v0n) (rv1 : inR v1) : OK d k_Le_addNumber 10 [mR v0, mI v1, mN, mN, mN, mN] [] h cV pT (F_Le_addNumber_10  v0 v0n v1 h) := by
  unfold F_Le_addNumber_10
  refine z_go (fun Q hq => x_iload_n (dA d_Le_addNumber 5 rfl) rfl rfl hq) ?_
  refine z_gd (fun g17 => ?_)
  refine z_go (fun Q hq => x_abs (dA d_Le_addNumber 6 rfl) lk_Le_37 mm_abs_st mm_iz mm_abs_co rv1 (Nat.le_of_ble_eq_true rfl) (x_istore_n (dA d_Le_addNumber 7 rfl) rfl (by decide) rfl (x_iconst (dA d_Le_addNumber 8 rfl) (x_istore_n (dA d_Le_addNumber 9 rfl) rfl (by decide) rfl (x_ldc (n := (1000000000 : Int)) (dA d_Le_addNumber 10 rfl) kc_Le_41 rfl (x_istore (dA d_Le_addNumber 11 rfl) (by decide) rfl hq)))))) ?_
  refine z_fgt (ls' := [mR v0, mN, mI (if 0 ≤ v1 then v1 else 0 - v1), mI (0 : Int), mI (1000000000 : Int), mN]) ⟨.inr rfl, .inl rfl, .inr rfl, .inr rfl, .inr rfl, .inl rfl, trivial⟩ ?_
  exact S_Le_addNumber_21 hd  L ov0 (inR_abs rv1 g17) (inR_lit (0 : Int) rfl) (inR_lit (1000000000 : Int) rfl)
noncomputable def F_Le_addNumber (a : Nat) (an : Nat) (a1 : Int) (h : MH) : RS Unit := if 0 ≤ a1 then F_Le_addNumber_10 a an a1 h else bnd (F_Le_add a an (45 : Int) h) fun x21 h19 => F_Le_addNumber_10 a an a1 h19
theorem S_Le_addNumber {d : Nat} (hd : 1 ≤ d) {a : Nat} {an : Nat} {a1 : Int} {h : MH} (L : LayC h) (oa : LeO h a an) (ra1 : inR a1) : OK d k_Le_addNumber 0 [mR a, mI a1, mN, mN, mN, mN] [] h cV pT (F_Le_addNumber  a an a1 h) := by
  unfold F_Le_addNumber
  refine z_go (fun Q hq => x_iload_n (dA d_Le_addNumber 0 rfl) rfl rfl hq) ?_
  refine z_br (fun Q => x_if_ge (dA d_Le_addNumber 1 rfl) rfl ra1) (fun c18 => ?_) (fun c18 => ?_)
  · exact S_Le_addNumber_10 hd  L oa ra1
  · refine z_go (fun Q hq => x_aload_n (dA d_Le_addNumber 2 rfl) rfl rfl (x_bipush (dA d_Le_addNumber 3 rfl) (by decide) hq)) ?_
    refine z_bnd (rest := []) (st1 := fun _ => []) (S_Le_add (d := 0) (Nat.le_refl _) L oa (ch_lit (45 : Int) rfl)) (fun _ hx => absurd hx List.not_mem_nil) (fun _ => rfl) (fun Q' Q => x_callV (as := [mI (45 : Int)]) (rest := []) (k' := k_Le_add) (dA d_Le_addNumber 4 rfl) o_Le_add lk_Le_33 im_Le_add se_Le_add rfl oa.1 (by decide) (Nat.le_of_ble_eq_true rfl) (Nat.le_trans (Nat.le_of_ble_eq_true rfl) hd) (Nat.le_of_ble_eq_true rfl)) (fun x21 h19 e20 p22 => ?_)
    have L23 := L.ext e20
    exact S_Le_addNumber_10 hd  L23 (oa.ext e20) ra1
/-! TwoMills$Letters.at(I)I -/
noncomputable def F_Le_at_21 (h : MH) : RS Int := some (.inl (-1 : Int), h)
theorem S_Le_at_21 {d : Nat} (hd : 0 ≤ d) {h : MH} (L : LayC h) : OK d k_Le_at 21 [mN, mN] [] h cI inR (F_Le_at_21   h) := by
  unfold F_Le_at_21
  refine z_go (fun Q hq => x_iconst (dA d_Le_at 11 rfl) hq) ?_
  exact z_reti (dA d_Le_at 12 rfl) rfl (inR_lit (-1 : Int) rfl)
noncomputable def F_Le_at (a : Nat) (an : Nat) (a1 : Int) (h : MH) : RS Int := if a1 < 0 then F_Le_at_21  h else if (mGi h a 1) ≤ a1 then F_Le_at_21  h else gd (0 ≤ a1 ∧ a1 < an) (some (.inl (mGi h (a + 1) a1.toNat), h))
theorem S_Le_at {d : Nat} (hd : 0 ≤ d) {a : Nat} {an : Nat} {a1 : Int} {h : MH} (L : LayC h) (oa : LeO h a an) (ra1 : inR a1) : OK d k_Le_at 0 [mR a, mI a1] [] h cI inR (F_Le_at  a an a1 h) := by
  unfold F_Le_at
  refine z_go (fun Q hq => x_iload_n (dA d_Le_at 0 rfl) rfl rfl hq) ?_
  refine z_br (fun Q => x_if_lt (dA d_Le_at 1 rfl) rfl ra1) (fun c1 => ?_) (fun c1 => ?_)
  · refine z_fgt (ls' := [mN, mN]) ⟨.inl rfl, .inl rfl, trivial⟩ ?_
    exact S_Le_at_21 hd  L 
  · refine z_go (fun Q hq => x_iload_n (dA d_Le_at 2 rfl) rfl rfl (x_aload_n (dA d_Le_at 3 rfl) rfl rfl (x_getI (dA d_Le_at 4 rfl) f_Le_13 oa.1 (by decide) (by decide) rfl hq))) ?_
    refine z_br (fun Q => x_icmp_ge (dA d_Le_at 5 rfl) rfl ra1 (L.rg _ _)) (fun c2 => ?_) (fun c2 => ?_)
    · refine z_fgt (ls' := [mN, mN]) ⟨.inl rfl, .inl rfl, trivial⟩ ?_
      exact S_Le_at_21 hd  L 
    · refine z_go (fun Q hq => x_aload_n (dA d_Le_at 6 rfl) rfl rfl (x_getR (dA d_Le_at 7 rfl) f_Le_7 oa.1 (by decide) (by decide) rfl oa.2.1 (x_iload_n (dA d_Le_at 8 rfl) rfl rfl hq))) ?_
      refine z_gd (fun g3 => ?_)
      refine z_go (fun Q hq => x_cald (dA d_Le_at 9 rfl) oa.2.2.1 g3.1 g3.2 oa.2.2.2 (x_goto (dA d_Le_at 10 rfl) rfl hq)) ?_
      exact z_reti (dA d_Le_at 12 rfl) rfl (L.rg _ _)
/-! TwoMills.isDigit(I)Z -/
noncomputable def F_T_isDigit_16 (h : MH) : RS Int := some (.inl (0 : Int), h)
theorem S_T_isDigit_16 {d : Nat} (hd : 0 ≤ d) {h : MH} (L : LayC h) : OK d k_T_isDigit 16 [mN] [] h cI p01 (F_T_isDigit_16   h) := by
  unfold F_T_isDigit_16
  refine z_go (fun Q hq => x_iconst (dA d_T_isDigit 8 rfl) hq) ?_
  exact z_retz (dA d_T_isDigit 9 rfl) rfl (.inl rfl)
noncomputable def F_T_isDigit (a1 : Int) (h : MH) : RS Int := if a1 < (48 : Int) then F_T_isDigit_16  h else if (57 : Int) < a1 then F_T_isDigit_16  h else some (.inl (1 : Int), h)
theorem S_T_isDigit {d : Nat} (hd : 0 ≤ d) {a1 : Int} {h : MH} (L : LayC h) (ra1 : inR a1) : OK d k_T_isDigit 0 [mI a1] [] h cI p01 (F_T_isDigit  a1 h) := by
  unfold F_T_isDigit
  refine z_go (fun Q hq => x_iload_n (dA d_T_isDigit 0 rfl) rfl rfl (x_bipush (dA d_T_isDigit 1 rfl) (by decide) hq)) ?_
  refine z_br (fun Q => x_icmp_lt (dA d_T_isDigit 2 rfl) rfl ra1 (inR_lit (48 : Int) rfl)) (fun c1 => ?_) (fun c1 => ?_)
  · refine z_fgt (ls' := [mN]) ⟨.inl rfl, trivial⟩ ?_
    exact S_T_isDigit_16 hd  L 
  · refine z_go (fun Q hq => x_iload_n (dA d_T_isDigit 3 rfl) rfl rfl (x_bipush (dA d_T_isDigit 4 rfl) (by decide) hq)) ?_
    refine z_br (fun Q => x_icmp_gt (dA d_T_isDigit 5 rfl) rfl ra1 (inR_lit (57 : Int) rfl)) (fun c2 => ?_) (fun c2 => ?_)
    · refine z_fgt (ls' := [mN]) ⟨.inl rfl, trivial⟩ ?_
      exact S_T_isDigit_16 hd  L 
    · refine z_go (fun Q hq => x_iconst (dA d_T_isDigit 6 rfl) (x_goto (dA d_T_isDigit 7 rfl) rfl hq)) ?_
      exact z_retz (dA d_T_isDigit 9 rfl) rfl (.inr rfl)
/-! TwoMills$FirstMill.bringText(II)V -/
noncomputable def F_Fm_bringText_157 (G13 : Int → Int → Nat → Nat → Int → MH → RS Unit) (v1 : Int) (v2 : Int) (v3 : Nat) (v3n : Nat) (v4 : Int) (h : MH) : RS Unit := gd (inR (v4 + (1 : Int))) (G13 v1 v2 v3 v3n (v4 + (1 : Int)) h)
theorem S_Fm_bringText_157 {d : Nat} (hd : 3 ≤ d) {G13 : Int → Int → Nat → Nat → Int → MH → RS Unit} (hG13 : ∀ (v1 : Int) (v2 : Int) (v3 : Nat) (v3n : Nat) (v4 : Int) (h : MH), LayC h → inR v1 → inR v2 → LeO h v3 v3n → inR v4 → OK d k_Fm_bringText 13 [mR 3, mI v1, mI v2, mR v3, mI v4, mN] [] h cV pT (G13 v1 v2 v3 v3n v4 h)) {v1 : Int} {v2 : Int} {v3 : Nat} {v3n : Nat} {v4 : Int} {h : MH} (L : LayC h) (rv1 : inR v1) (rv2 : inR v2) (ov3 : LeO h v3 v3n) (rv4 : inR v4) : OK d k_Fm_bringText 157 [mR 3, mI v1, mI v2, mR v3, mI v4, mN] [] h cV pT (F_Fm_bringText_157 G13 v1 v2 v3 v3n v4 h) := by
  unfold F_Fm_bringText_157
  refine z_gd (fun g1 => ?_)
  refine z_go (fun Q hq => x_iinc (dA d_Fm_bringText 77 rfl) rfl (by decide) rfl (x_goto (dA d_Fm_bringText 78 rfl) rfl hq)) ?_
  exact hG13 v1 v2 v3 v3n (v4 + (1 : Int)) h L rv1 rv2 ov3 g1
noncomputable def F_Fm_bringText_154 (G13 : Int → Int → Nat → Nat → Int → MH → RS Unit) (v1 : Int) (v2 : Int) (v3 : Nat) (v3n : Nat) (v4 : Int) (h : MH) : RS Unit := gd (inR (v4 + (1 : Int))) (F_Fm_bringText_157 G13 v1 v2 v3 v3n (v4 + (1 : Int)) h)
theorem S_Fm_bringText_154 {d : Nat} (hd : 3 ≤ d) {G13 : Int → Int → Nat → Nat → Int → MH → RS Unit} (hG13 : ∀ (v1 : Int) (v2 : Int) (v3 : Nat) (v3n : Nat) (v4 : Int) (h : MH), LayC h → inR v1 → inR v2 → LeO h v3 v3n → inR v4 → OK d k_Fm_bringText 13 [mR 3, mI v1, mI v2, mR v3, mI v4, mN] [] h cV pT (G13 v1 v2 v3 v3n v4 h)) {v1 : Int} {v2 : Int} {v3 : Nat} {v3n : Nat} {v4 : Int} {h : MH} (L : LayC h) (rv1 : inR v1) (rv2 : inR v2) (ov3 : LeO h v3 v3n) (rv4 : inR v4) : OK d k_Fm_bringText 154 [mR 3, mI v1, mI v2, mR v3, mI v4, mN] [] h cV pT (F_Fm_bringText_154 G13 v1 v2 v3 v3n v4 h) := by
  unfold F_Fm_bringText_154
  refine z_gd (fun g2 => ?_)
  refine z_go (fun Q hq => x_iinc (dA d_Fm_bringText 76 rfl) rfl (by decide) rfl hq) ?_
  exact S_Fm_bringText_157 hd hG13 L rv1 rv2 ov3 g2
noncomputable def F_Fm_bringText_76 (G13 : Int → Int → Nat → Nat → Int → MH → RS Unit) (v1 : Int) (v2 : Int) (v3 : Nat) (v3n : Nat) (v4 : Int) (v5 : Int) (h : MH) : RS Unit := if v5 = (35 : Int) then bnd (F_Le_addNumber 84 500 v2 h) fun x6 h4 => F_Fm_bringText_154 G13 v1 v2 v3 v3n v4 h4 else if v5 = (48 : Int) then gd (0 ≤ v1 ∧ v1 < 16) (bnd (F_Le_addAll 84 500 ((11 + 4 * v1.toNat) + 1) 8 (0 : Int) (mGi h (11 + 4 * v1.toNat) 1) h) fun x15 h13 => F_Fm_bringText_154 G13 v1 v2 v3 v3n v4 h13) else gd (inR (v5 - (48 : Int))) (if v2 < (v5 - (48 : Int)) then F_Fm_bringText_154 G13 v1 v2 v3 v3n v4 h else gd (inR (v5 - (49 : Int))) (bnd (F_Fm_bringArgument (v5 - (49 : Int)) h) fun x23 h21 => F_Fm_bringText_154 G13 v1 v2 v3 v3n v4 h21))
theorem S_Fm_bringText_76 {d : Nat} (hd : 3 ≤ d) {G13 : Int → Int → Nat → Nat → Int → MH → RS Unit} (hG13 : ∀ (v1 : Int) (v2 : Int) (v3 : Nat) (v3n : Nat) (v4 : Int) (h : MH), LayC h → inR v1 → inR v2 → LeO h v3 v3n → inR v4 → OK d k_Fm_bringText 13 [mR 3, mI v1, mI v2, mR v3, mI v4, mN] [] h cV pT (G13 v1 v2 v3 v3n v4 h)) {v1 : Int} {v2 : Int} {v3 : Nat} {v3n : Nat} {v4 : Int} {v5 : Int} {h : MH} (L : LayC h) (rv1 : inR v1) (rv2 : inR v2) (ov3 : LeO h v3 v3n) (rv4 : inR v4) (rv5 : inR v5) : OK d k_Fm_bringText 76 [mR 3, mI v1, mI v2, mR v3, mI v4, mI v5] [] h cV pT (F_Fm_bringText_76 G13 v1 v2 v3 v3n v4 v5 h) := by
  unfold F_Fm_bringText_76
  refine z_go (fun Q hq => x_iload (dA d_Fm_bringText 38 rfl) rfl (x_bipush (dA d_Fm_bringText 39 rfl) (by decide) hq)) ?_
  refine z_brn (fun Q => x_icmp_ne (dA d_Fm_bringText 40 rfl) rfl rv5 (inR_lit (35 : Int) rfl)) (fun c3 => ?_) (fun c3 => ?_)
  · refine z_go (fun Q hq => x_aload_n (dA d_Fm_bringText 41 rfl) rfl rfl (x_getR (dA d_Fm_bringText 42 rfl) f_Fm_41 (L.sh (x := (6, 7)) rfl) (by decide) (by decide) rfl (L.rf 8 rfl) (x_iload_n (dA d_Fm_bringText 43 rfl) rfl rfl hq))) ?_
    refine z_bnd (rest := []) (st1 := fun _ => []) (S_Le_addNumber (d := 1) (Nat.le_refl _) L (L.le rfl 85 rfl rfl (by decide)) rv2) (fun _ hx => absurd hx List.not_mem_nil) (fun _ => rfl) (fun Q' Q => x_callV (as := [mI v2]) (rest := []) (k' := k_Le_addNumber) (dA d_Fm_bringText 44 rfl) o_Le_addNumber lk_Fm_219 im_Le_addNumber se_Le_addNumber rfl (L.sh (x := (1, 3)) rfl) (by decide) (Nat.le_of_ble_eq_true rfl) (Nat.le_trans (Nat.le_of_ble_eq_true rfl) hd) (Nat.le_of_ble_eq_true rfl)) (fun x6 h4 e5 p7 => ?_)
    have L8 := L.ext e5
    refine z_go (fun Q hq => x_goto (dA d_Fm_bringText 45 rfl) rfl hq) ?_
    refine z_fgt (ls' := [mR 3, mI v1, mI v2, mR v3, mI v4, mN]) ⟨.inr rfl, .inr rfl, .inr rfl, .inr rfl, .inr rfl, .inl rfl, trivial⟩ ?_
    exact S_Fm_bringText_154 hd hG13 L8 rv1 rv2 (ov3.ext e5) rv4
  · refine z_go (fun Q hq => x_iload (dA d_Fm_bringText 46 rfl) rfl (x_bipush (dA d_Fm_bringText 47 rfl) (by decide) hq)) ?_
    refine z_brn (fun Q => x_icmp_ne (dA d_Fm_bringText 48 rfl) rfl rv5 (inR_lit (48 : Int) rfl)) (fun c9 => ?_) (fun c9 => ?_)
    · refine z_go (fun Q hq => x_aload_n (dA d_Fm_bringText 49 rfl) rfl rfl (x_getR (dA d_Fm_bringText 50 rfl) f_Fm_41 (L.sh (x := (6, 7)) rfl) (by decide) (by decide) rfl (L.rf 8 rfl) (x_aload_n (dA d_Fm_bringText 51 rfl) rfl rfl (x_getR (dA d_Fm_bringText 52 rfl) f_Fm_23 (L.sh (x := (6, 7)) rfl) (by decide) (by decide) rfl (L.rf 5 rfl) (x_getR (dA d_Fm_bringText 53 rfl) f_Fm_247 (L.sh (x := (3, 5)) rfl) (by decide) (by decide) rfl (L.rf 10 rfl) (x_iload_n (dA d_Fm_bringText 54 rfl) rfl rfl hq)))))) ?_
      refine z_gd (fun g10 => ?_)
      refine z_go (fun Q hq => x_aald (dA d_Fm_bringText 55 rfl) (L.sh (x := (110, 16)) rfl) (.inl rfl) g10.1 g10.2 (by decide) (L.wr g10) hq) ?_
      have o11 := (L.wo g10)
      refine z_go (fun Q hq => x_getR (dA d_Fm_bringText 56 rfl) f_Fm_198 o11.1 (by decide) (by decide) rfl o11.2.1 (x_iconst (dA d_Fm_bringText 57 rfl) (x_aload_n (dA d_Fm_bringText 58 rfl) rfl rfl (x_getR (dA d_Fm_bringText 59 rfl) f_Fm_23 (L.sh (x := (6, 7)) rfl) (by decide) (by decide) rfl (L.rf 5 rfl) (x_getR (dA d_Fm_bringText 60 rfl) f_Fm_247 (L.sh (x := (3, 5)) rfl) (by decide) (by decide) rfl (L.rf 10 rfl) (x_iload_n (dA d_Fm_bringText 61 rfl) rfl rfl (x_aald (dA d_Fm_bringText 62 rfl) (L.sh (x := (110, 16)) rfl) (.inl rfl) g10.1 g10.2 (by decide) (L.wr g10) hq))))))) ?_
      have o12 := (L.wo g10)
      refine z_go (fun Q hq => x_getI (dA d_Fm_bringText 63 rfl) f_Fm_237 o12.1 (by decide) (by decide) rfl hq) ?_
      refine z_bnd (rest := []) (st1 := fun _ => []) (S_Le_addAll (d := 0) (Nat.le_refl _) L (L.le rfl 85 rfl rfl (by decide)) o11.2.2 (inR_lit (0 : Int) rfl) (L.rg _ _)) (fun _ hx => absurd hx List.not_mem_nil) (fun _ => rfl) (fun Q' Q => x_callV (as := [mR ((11 + 4 * v1.toNat) + 1), mI (0 : Int), mI (mGi h (11 + 4 * v1.toNat) 1)]) (rest := []) (k' := k_Le_addAll) (dA d_Fm_bringText 64 rfl) o_Le_addAll lk_Fm_187 im_Le_addAll se_Le_addAll rfl (L.sh (x := (1, 3)) rfl) (by decide) (Nat.le_of_ble_eq_true rfl) (Nat.le_trans (Nat.le_of_ble_eq_true rfl) hd) (Nat.le_of_ble_eq_true rfl)) (fun x15 h13 e14 p16 => ?_)
      have L17 := L.ext e14
      refine z_go (fun Q hq => x_goto (dA d_Fm_bringText 65 rfl) rfl hq) ?_
      refine z_fgt (ls' := [mR 3, mI v1, mI v2, mR v3, mI v4, mN]) ⟨.inr rfl, .inr rfl, .inr rfl, .inr rfl, .inr rfl, .inl rfl, trivial⟩ ?_
      exact S_Fm_bringText_154 hd hG13 L17 rv1 rv2 (ov3.ext e14) rv4
    · refine z_go (fun Q hq => x_iload (dA d_Fm_bringText 66 rfl) rfl (x_bipush (dA d_Fm_bringText 67 rfl) (by decide) hq)) ?_
      refine z_gd (fun g18 => ?_)
      refine z_go (fun Q hq => x_isub (dA d_Fm_bringText 68 rfl) (x_iload_n (dA d_Fm_bringText 69 rfl) rfl rfl hq)) ?_
      refine z_br (fun Q => x_icmp_gt (dA d_Fm_bringText 70 rfl) rfl g18 rv2) (fun c19 => ?_) (fun c19 => ?_)
      · refine z_fgt (ls' := [mR 3, mI v1, mI v2, mR v3, mI v4, mN]) ⟨.inr rfl, .inr rfl, .inr rfl, .inr rfl, .inr rfl, .inl rfl, trivial⟩ ?_
        exact S_Fm_bringText_154 hd hG13 L rv1 rv2 ov3 rv4
      · refine z_go (fun Q hq => x_aload_n (dA d_Fm_bringText 71 rfl) rfl rfl (x_iload (dA d_Fm_bringText 72 rfl) rfl (x_bipush (dA d_Fm_bringText 73 rfl) (by decide) hq))) ?_
        refine z_gd (fun g20 => ?_)
        refine z_go (fun Q hq => x_isub (dA d_Fm_bringText 74 rfl) hq) ?_
        refine z_bnd (rest := []) (st1 := fun _ => []) (S_Fm_bringArgument (d := 2) (Nat.le_refl _) L g20) (fun _ hx => absurd hx List.not_mem_nil) (fun _ => rfl) (fun Q' Q => x_callV (as := [mI (v5 - (49 : Int))]) (rest := []) (k' := k_Fm_bringArgument) (dA d_Fm_bringText 75 rfl) o_Fm_bringArgument lk_Fm_210 im_Fm_bringArgument se_Fm_bringArgument rfl (L.sh (x := (6, 7)) rfl) (by decide) (Nat.le_of_ble_eq_true rfl) (Nat.le_trans (Nat.le_of_ble_eq_true rfl) hd) (Nat.le_of_ble_eq_true rfl)) (fun x23 h21 e22 p24 => ?_)
        have L25 := L.ext e22
        refine z_fgt (ls' := [mR 3, mI v1, mI v2, mR v3, mI v4, mN]) ⟨.inr rfl, .inr rfl, .inr rfl, .inr rfl, .inr rfl, .inl rfl, trivial⟩ ?_
        exact S_Fm_bringText_154 hd hG13 L25 rv1 rv2 (ov3.ext e22) rv4
noncomputable def F_Fm_bringText_59 (G13 : Int → Int → Nat → Nat → Int → MH → RS Unit) (v1 : Int) (v2 : Int) (v3 : Nat) (v3n : Nat) (v4 : Int) (h : MH) : RS Unit := gd (0 ≤ v4 ∧ v4 < v3n) (bnd (F_Le_add 84 500 (mGi h (v3 + 1) v4.toNat) h) fun x29 h27 => F_Fm_bringText_157 G13 v1 v2 v3 v3n v4 h27)
theorem S_Fm_bringText_59 {d : Nat} (hd : 3 ≤ d) {G13 : Int → Int → Nat → Nat → Int → MH → RS Unit} (hG13 : ∀ (v1 : Int) (v2 : Int) (v3 : Nat) (v3n : Nat) (v4 : Int) (h : MH), LayC h → inR v1 → inR v2 → LeO h v3 v3n → inR v4 → OK d k_Fm_bringText 13 [mR 3, mI v1, mI v2, mR v3, mI v4, mN] [] h cV pT (G13 v1 v2 v3 v3n v4 h)) {v1 : Int} {v2 : Int} {v3 : Nat} {v3n : Nat} {v4 : Int} {h : MH} (L : LayC h) (rv1 : inR v1) (rv2 : inR v2) (ov3 : LeO h v3 v3n) (rv4 : inR v4) : OK d k_Fm_bringText 59 [mR 3, mI v1, mI v2, mR v3, mI v4, mN] [] h cV pT (F_Fm_bringText_59 G13 v1 v2 v3 v3n v4 h) := by
  unfold F_Fm_bringText_59
  refine z_go (fun Q hq => x_aload_n (dA d_Fm_bringText 30 rfl) rfl rfl (x_getR (dA d_Fm_bringText 31 rfl) f_Fm_41 (L.sh (x := (6, 7)) rfl) (by decide) (by decide) rfl (L.rf 8 rfl) (x_aload_n (dA d_Fm_bringText 32 rfl) rfl rfl (x_getR (dA d_Fm_bringText 33 rfl) f_Fm_198 ov3.1 (by decide) (by decide) rfl ov3.2.1 (x_iload (dA d_Fm_bringText 34 rfl) rfl hq))))) ?_
  refine z_gd (fun g26 => ?_)
  refine z_go (fun Q hq => x_cald (dA d_Fm_bringText 35 rfl) ov3.2.2.1 g26.1 g26.2 ov3.2.2.2 hq) ?_
  refine z_bnd (rest := []) (st1 := fun _ => []) (S_Le_add (d := 0) (Nat.le_refl _) L (L.le rfl 85 rfl rfl (by decide)) (L.ch ov3.2.2.1 _)) (fun _ hx => absurd hx List.not_mem_nil) (fun _ => rfl) (fun Q' Q => x_callV (as := [mI (mGi h (v3 + 1) v4.toNat)]) (rest := []) (k' := k_Le_add) (dA d_Fm_bringText 36 rfl) o_Le_add lk_Fm_243 im_Le_add se_Le_add rfl (L.sh (x := (1, 3)) rfl) (by decide) (Nat.le_of_ble_eq_true rfl) (Nat.le_trans (Nat.le_of_ble_eq_true rfl) hd) (Nat.le_of_ble_eq_true rfl)) (fun x29 h27 e28 p30 => ?_)
  have L31 := L.ext e28
  refine z_go (fun Q hq => x_goto (dA d_Fm_bringText 37 rfl) rfl hq) ?_
  exact S_Fm_bringText_157 hd hG13 L31 rv1 rv2 (ov3.ext e28) rv4
noncomputable def F_Fm_bringText_13_b (G13 : Int → Int → Nat → Nat → Int → MH → RS Unit) (v1 : Int) (v2 : Int) (v3 : Nat) (v3n : Nat) (v4 : Int) (h : MH) : RS Unit := if (mGi h v3 1) ≤ v4 then some (.inl (), h) else gd (inR (v4 + (1 : Int))) (bnd (F_Le_at v3 v3n (v4 + (1 : Int)) h) fun x36 h34 => gd (0 ≤ v4 ∧ v4 < v3n) (if (mGi h34 (v3 + 1) v4.toNat) = (36 : Int) then if x36 = (35 : Int) then F_Fm_bringText_76 G13 v1 v2 v3 v3n v4 x36 h34 else bnd (F_T_isDigit x36 h34) fun x44 h42 => if x44 = 0 then F_Fm_bringText_59 G13 v1 v2 v3 v3n v4 h42 else F_Fm_bringText_76 G13 v1 v2 v3 v3n v4 x36 h42 else F_Fm_bringText_59 G13 v1 v2 v3 v3n v4 h34))
theorem S_Fm_bringText_13_b {d : Nat} (hd : 3 ≤ d) {G13 : Int → Int → Nat → Nat → Int → MH → RS Unit} (hG13 : ∀ (v1 : Int) (v2 : Int) (v3 : Nat) (v3n : Nat) (v4 : Int) (h : MH), LayC h → inR v1 → inR v2 → LeO h v3 v3n → inR v4 → OK d k_Fm_bringText 13 [mR 3, mI v1, mI v2, mR v3, mI v4, mN] [] h cV pT (G13 v1 v2 v3 v3n v4 h)) {v1 : Int} {v2 : Int} {v3 : Nat} {v3n : Nat} {v4 : Int} {h : MH} (L : LayC h) (rv1 : inR v1) (rv2 : inR v2) (ov3 : LeO h v3 v3n) (rv4 : inR v4) : OK d k_Fm_bringText 13 [mR 3, mI v1, mI v2, mR v3, mI v4, mN] [] h cV pT (F_Fm_bringText_13_b G13 v1 v2 v3 v3n v4 h) := by
  unfold F_Fm_bringText_13_b
  refine z_go (fun Q hq => x_iload (dA d_Fm_bringText 8 rfl) rfl (x_aload_n (dA d_Fm_bringText 9 rfl) rfl rfl (x_getI (dA d_Fm_bringText 10 rfl) f_Fm_237 ov3.1 (by decide) (by decide) rfl hq))) ?_
  refine z_br (fun Q => x_icmp_ge (dA d_Fm_bringText 11 rfl) rfl rv4 (L.rg _ _)) (fun c32 => ?_) (fun c32 => ?_)
  · exact z_retv (dA d_Fm_bringText 79 rfl) rfl
  · refine z_go (fun Q hq => x_aload_n (dA d_Fm_bringText 12 rfl) rfl rfl (x_iload (dA d_Fm_bringText 13 rfl) rfl (x_iconst (dA d_Fm_bringText 14 rfl) hq))) ?_
    refine z_gd (fun g33 => ?_)
    refine z_go (fun Q hq => x_iadd (dA d_Fm_bringText 15 rfl) hq) ?_
    refine z_bnd (rest := []) (st1 := fun v => mI v :: []) (S_Le_at (d := 0) (Nat.le_refl _) L ov3 g33) (fun _ hx => absurd hx List.not_mem_nil) (fun _ => rfl) (fun Q' Q => x_callV (as := [mI (v4 + (1 : Int))]) (rest := []) (k' := k_Le_at) (dA d_Fm_bringText 16 rfl) o_Le_at lk_Fm_239 im_Le_at se_Le_at rfl ov3.1 (by decide) (Nat.le_of_ble_eq_true rfl) (Nat.le_trans (Nat.le_of_ble_eq_true rfl) hd) (Nat.le_of_ble_eq_true rfl)) (fun x36 h34 e35 p37 => ?_)
    have L38 := L.ext e35
    refine z_go (fun Q hq => x_istore (dA d_Fm_bringText 17 rfl) (by decide) rfl (x_aload_n (dA d_Fm_bringText 18 rfl) rfl rfl (x_getR (dA d_Fm_bringText 19 rfl) f_Fm_198 (ov3.ext e35).1 (by decide) (by decide) rfl (ov3.ext e35).2.1 (x_iload (dA d_Fm_bringText 20 rfl) rfl hq)))) ?_
    refine z_gd (fun g39 => ?_)
    refine z_go (fun Q hq => x_cald (dA d_Fm_bringText 21 rfl) (ov3.ext e35).2.2.1 g39.1 g39.2 (ov3.ext e35).2.2.2 (x_bipush (dA d_Fm_bringText 22 rfl) (by decide) hq)) ?_
    refine z_brn (fun Q => x_icmp_ne (dA d_Fm_bringText 23 rfl) rfl (L38.rg _ _) (inR_lit (36 : Int) rfl)) (fun c40 => ?_) (fun c40 => ?_)
    · refine z_go (fun Q hq => x_iload (dA d_Fm_bringText 24 rfl) rfl (x_bipush (dA d_Fm_bringText 25 rfl) (by decide) hq)) ?_
      refine z_br (fun Q => x_icmp_eq (dA d_Fm_bringText 26 rfl) rfl p37 (inR_lit (35 : Int) rfl)) (fun c41 => ?_) (fun c41 => ?_)
      · exact S_Fm_bringText_76 hd hG13 L38 rv1 rv2 (ov3.ext e35) rv4 p37
      · refine z_go (fun Q hq => x_iload (dA d_Fm_bringText 27 rfl) rfl hq) ?_
        refine z_bnd (rest := []) (st1 := fun v => mI v :: []) (S_T_isDigit (d := 0) (Nat.le_refl _) L38 p37) (fun _ hx => absurd hx List.not_mem_nil) (fun _ => rfl) (fun Q' Q => x_callSN (as := [mI x36]) (rest := []) (k' := k_T_isDigit) (dA d_Fm_bringText 28 rfl) o_T_isDigit lk_Fm_240 st_T_isDigit (Nat.le_of_ble_eq_true rfl) (Nat.le_trans (Nat.le_of_ble_eq_true rfl) hd) (Nat.le_of_ble_eq_true rfl)) (fun x44 h42 e43 p45 => ?_)
        have L46 := L38.ext e43
        refine z_brn (fun Q => x_if_ne (dA d_Fm_bringText 29 rfl) rfl p45.inR) (fun c47 => ?_) (fun c47 => ?_)
        · refine z_fgt (ls' := [mR 3, mI v1, mI v2, mR v3, mI v4, mN]) ⟨.inr rfl, .inr rfl, .inr rfl, .inr rfl, .inr rfl, .inl rfl, trivial⟩ ?_
          exact S_Fm_bringText_59 hd hG13 L46 rv1 rv2 ((ov3.ext e35).ext e43) rv4
        · exact S_Fm_bringText_76 hd hG13 L46 rv1 rv2 ((ov3.ext e35).ext e43) rv4 p37
    · refine z_fgt (ls' := [mR 3, mI v1, mI v2, mR v3, mI v4, mN]) ⟨.inr rfl, .inr rfl, .inr rfl, .inr rfl, .inr rfl, .inl rfl, trivial⟩ ?_
      exact S_Fm_bringText_59 hd hG13 L38 rv1 rv2 (ov3.ext e35) rv4
noncomputable def F_Fm_bringText_13 (v1 : Int) (v2 : Int) (v3 : Nat) (v3n : Nat) (v4 : Int) (h : MH) : RS Unit := itr (fun self (q : Int × Int × Nat × Nat × Int × MH) => F_Fm_bringText_13_b (fun v1 v2 v3 v3n v4 h => self (v1, v2, v3, v3n, v4, h)) q.1 q.2.1 q.2.2.1 q.2.2.2.1 q.2.2.2.2.1 q.2.2.2.2.2) FU (v1, v2, v3, v3n, v4, h)
theorem S_Fm_bringText_13 {d : Nat} (hd : 3 ≤ d) {v1 : Int} {v2 : Int} {v3 : Nat} {v3n : Nat} {v4 : Int} {h : MH} (L : LayC h) (rv1 : inR v1) (rv2 : inR v2) (ov3 : LeO h v3 v3n) (rv4 : inR v4) : OK d k_Fm_bringText 13 [mR 3, mI v1, mI v2, mR v3, mI v4, mN] [] h cV pT (F_Fm_bringText_13  v1 v2 v3 v3n v4 h) := by
  unfold F_Fm_bringText_13
  refine z_itr (P := fun q : Int × Int × Nat × Nat × Int × MH => LayC q.2.2.2.2.2 ∧ inR q.1 ∧ inR q.2.1 ∧ LeO q.2.2.2.2.2 q.2.2.1 q.2.2.2.1 ∧ inR q.2.2.2.2.1 ∧ True) (ls := fun q : Int × Int × Nat × Nat × Int × MH => [mR 3, mI q.1, mI q.2.1, mR q.2.2.1, mI q.2.2.2.2.1, mN]) (hp := fun q : Int × Int × Nat × Nat × Int × MH => q.2.2.2.2.2) (fun self hs q hq => ?_) FU (v1, v2, v3, v3n, v4, h) ⟨L, rv1, rv2, ov3, rv4, trivial⟩
  exact S_Fm_bringText_13_b hd (fun v1 v2 v3 v3n v4 h L rv1 rv2 ov3 rv4 => hs (v1, v2, v3, v3n, v4, h) ⟨L, rv1, rv2, ov3, rv4, trivial⟩) hq.1 hq.2.1 hq.2.2.1 hq.2.2.2.1 hq.2.2.2.2.1
noncomputable def F_Fm_bringText (a1 : Int) (a2 : Int) (h : MH) : RS Unit := gd (0 ≤ a1 ∧ a1 < 16) (F_Fm_bringText_13 a1 a2 (13 + 4 * a1.toNat) 40 (0 : Int) h)
theorem S_Fm_bringText {d : Nat} (hd : 3 ≤ d) {a1 : Int} {a2 : Int} {h : MH} (L : LayC h) (ra1 : inR a1) (ra2 : inR a2) : OK d k_Fm_bringText 0 [mR 3, mI a1, mI a2, mN, mN, mN] [] h cV pT (F_Fm_bringText  a1 a2 h) := by
  unfold F_Fm_bringText
  refine z_go (fun Q hq => x_aload_n (dA d_Fm_bringText 0 rfl) rfl rfl (x_getR (dA d_Fm_bringText 1 rfl) f_Fm_23 (L.sh (x := (6, 7)) rfl) (by decide) (by decide) rfl (L.rf 5 rfl) (x_getR (dA d_Fm_bringText 2 rfl) f_Fm_233 (L.sh (x := (3, 5)) rfl) (by decide) (by decide) rfl (L.rf 11 rfl) (x_iload_n (dA d_Fm_bringText 3 rfl) rfl rfl hq)))) ?_
  refine z_gd (fun g48 => ?_)
  refine z_go (fun Q hq => x_aald (dA d_Fm_bringText 4 rfl) (L.sh (x := (110, 16)) rfl) (.inl rfl) g48.1 g48.2 (by decide) (L.tr g48) hq) ?_
  have o49 := (L.to g48)
  refine z_go (fun Q hq => x_astore_n (dA d_Fm_bringText 5 rfl) rfl (by decide) rfl (x_iconst (dA d_Fm_bringText 6 rfl) (x_istore (dA d_Fm_bringText 7 rfl) (by decide) rfl hq))) ?_
  exact S_Fm_bringText_13 hd  L ra1 ra2 o49 (inR_lit (0 : Int) rfl)
/-! TwoMills$Input.comeAhead(LTwoMills$Letters;)Z -/
noncomputable def F_In_comeAhead (a1 : Nat) (a1n : Nat) (h : MH) : RS Int := if (mGi h a1 2) = 0 then if (mGi h a1 1) ≤ (mGi h 75 1) then gd (inR ((mGi h 75 1) - (mGi h a1 1))) (sto (mPi h 75 1 ((mGi h 75 1) - (mGi h a1 1))) fun h4 => gd (0 ≤ (0 : Int) ∧ 0 ≤ (mGi h4 75 1) ∧ 0 ≤ (mGi h4 a1 1) ∧ (0 : Int) + (mGi h4 a1 1) ≤ a1n ∧ (mGi h4 75 1) + (mGi h4 a1 1) ≤ 500) (sto (mCpI h4 (a1 + 1) 76 (0 : Int).toNat (mGi h4 75 1).toNat (mGi h4 a1 1).toNat) fun h8 => some (.inl (1 : Int), h8))) else some (.inl (0 : Int), h) else some (.inl (0 : Int), h)
theorem S_In_comeAhead {d : Nat} (hd : 0 ≤ d) {a1 : Nat} {a1n : Nat} {h : MH} (L : LayC h) (oa1 : LeO h a1 a1n) : OK d k_In_comeAhead 0 [mR 75, mR a1] [] h cI p01 (F_In_comeAhead  a1 a1n h) := by
  unfold F_In_comeAhead
  refine z_go (fun Q hq => x_aload_n (dA d_In_comeAhead 0 rfl) rfl rfl (x_getI (dA d_In_comeAhead 1 rfl) f_In_37 oa1.1 (by decide) (by decide) rfl hq)) ?_
  refine z_brn (fun Q => x_if_ne (dA d_In_comeAhead 2 rfl) rfl (L.rg _ _)) (fun c1 => ?_) (fun c1 => ?_)
  · refine z_go (fun Q hq => x_aload_n (dA d_In_comeAhead 3 rfl) rfl rfl (x_getI (dA d_In_comeAhead 4 rfl) f_In_19 oa1.1 (by decide) (by decide) rfl (x_aload_n (dA d_In_comeAhead 5 rfl) rfl rfl (x_getI (dA d_In_comeAhead 6 rfl) f_In_15 (L.sh (x := (7, 2)) rfl) (by decide) (by decide) rfl hq)))) ?_
    refine z_br (fun Q => x_icmp_le (dA d_In_comeAhead 7 rfl) rfl (L.rg _ _) (L.rg _ _)) (fun c2 => ?_) (fun c2 => ?_)
    · refine z_go (fun Q hq => x_aload_n (dA d_In_comeAhead 10 rfl) rfl rfl (x_dup (dA d_In_comeAhead 11 rfl) rfl (x_getI (dA d_In_comeAhead 12 rfl) f_In_15 (L.sh (x := (7, 2)) rfl) (by decide) (by decide) rfl (x_aload_n (dA d_In_comeAhead 13 rfl) rfl rfl (x_getI (dA d_In_comeAhead 14 rfl) f_In_19 oa1.1 (by decide) (by decide) rfl hq))))) ?_
      refine z_gd (fun g3 => ?_)
      refine z_go (fun Q hq => x_isub (dA d_In_comeAhead 15 rfl) hq) ?_
      refine z_sto (Ext.pi (L.sh (x := (7, 2)) rfl) (by decide) g3) (fun Q hq => x_putI (dA d_In_comeAhead 16 rfl) p_In_15 (L.sh (x := (7, 2)) rfl) (by decide) cl_In rfl hq) (fun h4 e5 => ?_)
      have L6 := L.ext e5
      refine z_go (fun Q hq => x_aload_n (dA d_In_comeAhead 17 rfl) rfl rfl (x_getR (dA d_In_comeAhead 18 rfl) f_In_24 (oa1.ext e5).1 (by decide) (by decide) rfl (oa1.ext e5).2.1 (x_iconst (dA d_In_comeAhead 19 rfl) (x_aload_n (dA d_In_comeAhead 20 rfl) rfl rfl (x_getR (dA d_In_comeAhead 21 rfl) f_In_11 (L6.sh (x := (7, 2)) rfl) (by decide) (by decide) rfl (L6.rf 78 rfl) (x_aload_n (dA d_In_comeAhead 22 rfl) rfl rfl (x_getI (dA d_In_comeAhead 23 rfl) f_In_15 (L6.sh (x := (7, 2)) rfl) (by decide) (by decide) rfl (x_aload_n (dA d_In_comeAhead 24 rfl) rfl rfl (x_getI (dA d_In_comeAhead 25 rfl) f_In_19 (oa1.ext e5).1 (by decide) (by decide) rfl hq))))))))) ?_
      refine z_gd (fun g7 => ?_)
      refine z_sto (Ext.cpI (oa1.ext e5).2.2.1 (L6.sh (x := (101, 500)) rfl)) (fun Q hq => x_copyCI (dA d_In_comeAhead 26 rfl) lk_In_25 (oa1.ext e5).2.2.1 (L6.sh (x := (101, 500)) rfl) g7 (oa1.ext e5).2.2.2 (by decide) L6.2.2.1 (Nat.le_of_ble_eq_true rfl) hq) (fun h8 e9 => ?_)
      have L10 := L6.ext e9
      refine z_go (fun Q hq => x_iconst (dA d_In_comeAhead 27 rfl) hq) ?_
      exact z_retz (dA d_In_comeAhead 28 rfl) rfl (.inr rfl)
    · refine z_go (fun Q hq => x_iconst (dA d_In_comeAhead 8 rfl) hq) ?_
      exact z_retz (dA d_In_comeAhead 9 rfl) rfl (.inl rfl)
  · refine z_go (fun Q hq => x_iconst (dA d_In_comeAhead 8 rfl) hq) ?_
    exact z_retz (dA d_In_comeAhead 9 rfl) rfl (.inl rfl)
/-! TwoMills$FirstMill.comeAhead()V -/
noncomputable def F_Fm_comeAhead (h : MH) : RS Unit := bnd (F_In_comeAhead 84 500 h) fun x3 h1 => if x3 = 0 then bnd (F_Fm_fail (1 : Int) h1) fun x9 h7 => some (.inl (), h7) else some (.inl (), h1)
theorem S_Fm_comeAhead {d : Nat} (hd : 1 ≤ d) {h : MH} (L : LayC h) : OK d k_Fm_comeAhead 0 [mR 3] [] h cV pT (F_Fm_comeAhead   h) := by
  unfold F_Fm_comeAhead
  refine z_go (fun Q hq => x_aload_n (dA d_Fm_comeAhead 0 rfl) rfl rfl (x_getR (dA d_Fm_comeAhead 1 rfl) f_Fm_30 (L.sh (x := (6, 7)) rfl) (by decide) (by decide) rfl (L.rf 6 rfl) (x_aload_n (dA d_Fm_comeAhead 2 rfl) rfl rfl (x_getR (dA d_Fm_comeAhead 3 rfl) f_Fm_41 (L.sh (x := (6, 7)) rfl) (by decide) (by decide) rfl (L.rf 8 rfl) hq)))) ?_
  refine z_bnd (rest := []) (st1 := fun v => mI v :: []) (S_In_comeAhead (d := 0) (Nat.le_refl _) L (L.le rfl 85 rfl rfl (by decide))) (fun _ hx => absurd hx List.not_mem_nil) (fun _ => rfl) (fun Q' Q => x_callV (as := [mR 84]) (rest := []) (k' := k_In_comeAhead) (dA d_Fm_comeAhead 4 rfl) o_In_comeAhead lk_Fm_230 im_In_comeAhead se_In_comeAhead rfl (L.sh (x := (7, 2)) rfl) (by decide) (Nat.le_of_ble_eq_true rfl) (Nat.le_trans (Nat.le_of_ble_eq_true rfl) hd) (Nat.le_of_ble_eq_true rfl)) (fun x3 h1 e2 p4 => ?_)
  have L5 := L.ext e2
  refine z_brn (fun Q => x_if_ne (dA d_Fm_comeAhead 5 rfl) rfl p4.inR) (fun c6 => ?_) (fun c6 => ?_)
  · refine z_go (fun Q hq => x_aload_n (dA d_Fm_comeAhead 6 rfl) rfl rfl (x_iconst (dA d_Fm_comeAhead 7 rfl) hq)) ?_
    refine z_bnd (rest := []) (st1 := fun _ => []) (S_Fm_fail (d := 0) (Nat.le_refl _) L5 (inR_lit (1 : Int) rfl)) (fun _ hx => absurd hx List.not_mem_nil) (fun _ => rfl) (fun Q' Q => x_callV (as := [mI (1 : Int)]) (rest := []) (k' := k_Fm_fail) (dA d_Fm_comeAhead 8 rfl) o_Fm_fail lk_Fm_87 im_Fm_fail se_Fm_fail rfl (L5.sh (x := (6, 7)) rfl) (by decide) (Nat.le_of_ble_eq_true rfl) (Nat.le_trans (Nat.le_of_ble_eq_true rfl) hd) (Nat.le_of_ble_eq_true rfl)) (fun x9 h7 e8 p10 => ?_)
    have L11 := L5.ext e8
    exact z_retv (dA d_Fm_comeAhead 9 rfl) rfl
  · exact z_retv (dA d_Fm_comeAhead 9 rfl) rfl
/-! TwoMills$Definitions.make([CII)I -/
noncomputable def F_De_make_6_b (G6 : Nat → Nat → Int → Int → Int → MH → RS Int) (v1 : Nat) (v1n : Nat) (v2 : Int) (v3 : Int) (v4 : Int) (h : MH) : RS Int := if (16 : Int) ≤ v4 then some (.inl (-1 : Int), h) else if (10 : Int) ≤ (mGi h 6 4) then some (.inl (-1 : Int), h) else gd (0 ≤ v4 ∧ v4 < 16) (gd (0 ≤ (mGi h 10 v4.toNat) ∧ (mGi h 10 v4.toNat) < 16) (if (mGi h 9 (mGi h 10 v4.toNat).toNat) = 0 then gd (0 ≤ (mGi h 6 4) ∧ (mGi h 6 4) < 16) (sto (mPi h 10 v4.toNat (mGi h 10 (mGi h 6 4).toNat)) fun h7 => gd (0 ≤ (mGi h7 6 4) ∧ (mGi h7 6 4) < 16) (sto (mPi h7 10 (mGi h7 6 4).toNat (mGi h 10 v4.toNat)) fun h11 => gd (inR ((mGi h11 6 4) + (1 : Int))) (sto (mPi h11 6 4 ((mGi h11 6 4) + (1 : Int))) fun h15 => bnd (F_Le_empty (11 + 4 * (mGi h 10 v4.toNat).toNat) 8 h15) fun x21 h19 => bnd (F_Le_addAll (11 + 4 * (mGi h 10 v4.toNat).toNat) 8 v1 v1n v2 v3 h19) fun x27 h25 => some (.inl (mGi h 10 v4.toNat), h25)))) else gd (inR (v4 + (1 : Int))) (G6 v1 v1n v2 v3 (v4 + (1 : Int)) h)))
theorem S_De_make_6_b {d : Nat} (hd : 1 ≤ d) {G6 : Nat → Nat → Int → Int → Int → MH → RS Int} (hG6 : ∀ (v1 : Nat) (v1n : Nat) (v2 : Int) (v3 : Int) (v4 : Int) (h : MH), LayC h → ArO h v1 101 v1n → inR v2 → inR v3 → inR v4 → OK d k_De_make 6 [mR 6, mR v1, mI v2, mI v3, mI v4, mN] [] h cI inR (G6 v1 v1n v2 v3 v4 h)) {v1 : Nat} {v1n : Nat} {v2 : Int} {v3 : Int} {v4 : Int} {h : MH} (L : LayC h) (ov1 : ArO h v1 101 v1n) (rv2 : inR v2) (rv3 : inR v3) (rv4 : inR v4) : OK d k_De_make 6 [mR 6, mR v1, mI v2, mI v3, mI v4, mN] [] h cI inR (F_De_make_6_b G6 v1 v1n v2 v3 v4 h) := by
  unfold F_De_make_6_b
  refine z_go (fun Q hq => x_iload (dA d_De_make 3 rfl) rfl (x_bipush (dA d_De_make 4 rfl) (by decide) hq)) ?_
  refine z_br (fun Q => x_icmp_ge (dA d_De_make 5 rfl) rfl rv4 (inR_lit (16 : Int) rfl)) (fun c1 => ?_) (fun c1 => ?_)
  · refine z_go (fun Q hq => x_iconst (dA d_De_make 58 rfl) hq) ?_
    exact z_reti (dA d_De_make 59 rfl) rfl (inR_lit (-1 : Int) rfl)
  · refine z_go (fun Q hq => x_aload_n (dA d_De_make 6 rfl) rfl rfl (x_getI (dA d_De_make 7 rfl) f_De_30 (L.sh (x := (3, 5)) rfl) (by decide) (by decide) rfl (x_bipush (dA d_De_make 8 rfl) (by decide) hq))) ?_
    refine z_br (fun Q => x_icmp_ge (dA d_De_make 9 rfl) rfl (L.rg _ _) (inR_lit (10 : Int) rfl)) (fun c2 => ?_) (fun c2 => ?_)
    · refine z_go (fun Q hq => x_iconst (dA d_De_make 58 rfl) hq) ?_
      exact z_reti (dA d_De_make 59 rfl) rfl (inR_lit (-1 : Int) rfl)
    · refine z_go (fun Q hq => x_aload_n (dA d_De_make 10 rfl) rfl rfl (x_getR (dA d_De_make 11 rfl) f_De_24 (L.sh (x := (3, 5)) rfl) (by decide) (by decide) rfl (L.rf 13 rfl) (x_iload (dA d_De_make 12 rfl) rfl hq))) ?_
      refine z_gd (fun g3 => ?_)
      refine z_go (fun Q hq => x_iald (dA d_De_make 13 rfl) (L.sh (x := (100, 16)) rfl) g3.1 g3.2 (by decide) (x_istore (dA d_De_make 14 rfl) (by decide) rfl (x_aload_n (dA d_De_make 15 rfl) rfl rfl (x_getR (dA d_De_make 16 rfl) f_De_20 (L.sh (x := (3, 5)) rfl) (by decide) (by decide) rfl (L.rf 12 rfl) (x_iload (dA d_De_make 17 rfl) rfl hq))))) ?_
      refine z_gd (fun g4 => ?_)
      refine z_go (fun Q hq => x_iald (dA d_De_make 18 rfl) (L.sh (x := (100, 16)) rfl) g4.1 g4.2 (by decide) hq) ?_
      refine z_brn (fun Q => x_if_ne (dA d_De_make 19 rfl) rfl (L.rg _ _)) (fun c5 => ?_) (fun c5 => ?_)
      · refine z_go (fun Q hq => x_aload_n (dA d_De_make 20 rfl) rfl rfl (x_getR (dA d_De_make 21 rfl) f_De_24 (L.sh (x := (3, 5)) rfl) (by decide) (by decide) rfl (L.rf 13 rfl) (x_iload (dA d_De_make 22 rfl) rfl (x_aload_n (dA d_De_make 23 rfl) rfl rfl (x_getR (dA d_De_make 24 rfl) f_De_24 (L.sh (x := (3, 5)) rfl) (by decide) (by decide) rfl (L.rf 13 rfl) (x_aload_n (dA d_De_make 25 rfl) rfl rfl (x_getI (dA d_De_make 26 rfl) f_De_30 (L.sh (x := (3, 5)) rfl) (by decide) (by decide) rfl hq))))))) ?_
        refine z_gd (fun g6 => ?_)
        refine z_go (fun Q hq => x_iald (dA d_De_make 27 rfl) (L.sh (x := (100, 16)) rfl) g6.1 g6.2 (by decide) hq) ?_
        refine z_sto (Ext.pi (L.sh (x := (100, 16)) rfl) (by decide) (L.rg _ _)) (fun Q hq => x_iast (dA d_De_make 28 rfl) (L.sh (x := (100, 16)) rfl) g3.1 g3.2 (by decide) hq) (fun h7 e8 => ?_)
        have L9 := L.ext e8
        refine z_go (fun Q hq => x_aload_n (dA d_De_make 29 rfl) rfl rfl (x_getR (dA d_De_make 30 rfl) f_De_24 (L9.sh (x := (3, 5)) rfl) (by decide) (by decide) rfl (L9.rf 13 rfl) (x_aload_n (dA d_De_make 31 rfl) rfl rfl (x_getI (dA d_De_make 32 rfl) f_De_30 (L9.sh (x := (3, 5)) rfl) (by decide) (by decide) rfl (x_iload (dA d_De_make 33 rfl) rfl hq))))) ?_
        refine z_gd (fun g10 => ?_)
        refine z_sto (Ext.pi (L9.sh (x := (100, 16)) rfl) (by decide) (L.rg _ _)) (fun Q hq => x_iast (dA d_De_make 34 rfl) (L9.sh (x := (100, 16)) rfl) g10.1 g10.2 (by decide) hq) (fun h11 e12 => ?_)
        have L13 := L9.ext e12
        refine z_go (fun Q hq => x_aload_n (dA d_De_make 35 rfl) rfl rfl (x_dup (dA d_De_make 36 rfl) rfl (x_getI (dA d_De_make 37 rfl) f_De_30 (L13.sh (x := (3, 5)) rfl) (by decide) (by decide) rfl (x_iconst (dA d_De_make 38 rfl) hq)))) ?_
        refine z_gd (fun g14 => ?_)
        refine z_go (fun Q hq => x_iadd (dA d_De_make 39 rfl) hq) ?_
        refine z_sto (Ext.pi (L13.sh (x := (3, 5)) rfl) (by decide) g14) (fun Q hq => x_putI (dA d_De_make 40 rfl) p_De_30 (L13.sh (x := (3, 5)) rfl) (by decide) cl_De rfl hq) (fun h15 e16 => ?_)
        have L17 := L13.ext e16
        refine z_go (fun Q hq => x_aload_n (dA d_De_make 41 rfl) rfl rfl (x_getR (dA d_De_make 42 rfl) f_De_13 (L17.sh (x := (3, 5)) rfl) (by decide) (by decide) rfl (L17.rf 10 rfl) (x_iload (dA d_De_make 43 rfl) rfl (x_aald (dA d_De_make 44 rfl) (L17.sh (x := (110, 16)) rfl) (.inl rfl) g4.1 g4.2 (by decide) (L17.wr g4) hq)))) ?_
        have o18 := (L17.wo g4)
        refine z_bnd (rest := []) (st1 := fun _ => []) (S_Le_empty (d := 0) (Nat.le_refl _) L17 o18) (fun _ hx => absurd hx List.not_mem_nil) (fun _ => rfl) (fun Q' Q => x_callV (as := []) (rest := []) (k' := k_Le_empty) (dA d_De_make 45 rfl) o_Le_empty lk_De_38 im_Le_empty se_Le_empty rfl o18.1 (by decide) (Nat.le_of_ble_eq_true rfl) (Nat.le_trans (Nat.le_of_ble_eq_true rfl) hd) (Nat.le_of_ble_eq_true rfl)) (fun x21 h19 e20 p22 => ?_)
        have L23 := L17.ext e20
        refine z_go (fun Q hq => x_aload_n (dA d_De_make 46 rfl) rfl rfl (x_getR (dA d_De_make 47 rfl) f_De_13 (L23.sh (x := (3, 5)) rfl) (by decide) (by decide) rfl (L23.rf 10 rfl) (x_iload (dA d_De_make 48 rfl) rfl (x_aald (dA d_De_make 49 rfl) (L23.sh (x := (110, 16)) rfl) (.inl rfl) g4.1 g4.2 (by decide) (L23.wr g4) hq)))) ?_
        have o24 := (L23.wo g4)
        refine z_go (fun Q hq => x_aload_n (dA d_De_make 50 rfl) rfl rfl (x_iload_n (dA d_De_make 51 rfl) rfl rfl (x_iload_n (dA d_De_make 52 rfl) rfl rfl hq))) ?_
        refine z_bnd (rest := []) (st1 := fun _ => []) (S_Le_addAll (d := 0) (Nat.le_refl _) L23 o24 ((((ov1.ext e8).ext e12).ext e16).ext e20) rv2 rv3) (fun _ hx => absurd hx List.not_mem_nil) (fun _ => rfl) (fun Q' Q => x_callV (as := [mR v1, mI v2, mI v3]) (rest := []) (k' := k_Le_addAll) (dA d_De_make 53 rfl) o_Le_addAll lk_De_41 im_Le_addAll se_Le_addAll rfl o24.1 (by decide) (Nat.le_of_ble_eq_true rfl) (Nat.le_trans (Nat.le_of_ble_eq_true rfl) hd) (Nat.le_of_ble_eq_true rfl)) (fun x27 h25 e26 p28 => ?_)
        have L29 := L23.ext e26
        refine z_go (fun Q hq => x_iload (dA d_De_make 54 rfl) rfl hq) ?_
        exact z_reti (dA d_De_make 55 rfl) rfl (L.rg _ _)
      · refine z_gd (fun g30 => ?_)
        refine z_go (fun Q hq => x_iinc (dA d_De_make 56 rfl) rfl (by decide) rfl (x_goto (dA d_De_make 57 rfl) rfl hq)) ?_
        refine z_fgt (ls' := [mR 6, mR v1, mI v2, mI v3, mI (v4 + (1 : Int)), mN]) ⟨.inr rfl, .inr rfl, .inr rfl, .inr rfl, .inr rfl, .inl rfl, trivial⟩ ?_
        exact hG6 v1 v1n v2 v3 (v4 + (1 : Int)) h L ov1 rv2 rv3 g30
noncomputable def F_De_make_6 (v1 : Nat) (v1n : Nat) (v2 : Int) (v3 : Int) (v4 : Int) (h : MH) : RS Int := itr (fun self (q : Nat × Nat × Int × Int × Int × MH) => F_De_make_6_b (fun v1 v1n v2 v3 v4 h => self (v1, v1n, v2, v3, v4, h)) q.1 q.2.1 q.2.2.1 q.2.2.2.1 q.2.2.2.2.1 q.2.2.2.2.2) FU (v1, v1n, v2, v3, v4, h)
theorem S_De_make_6 {d : Nat} (hd : 1 ≤ d) {v1 : Nat} {v1n : Nat} {v2 : Int} {v3 : Int} {v4 : Int} {h : MH} (L : LayC h) (ov1 : ArO h v1 101 v1n) (rv2 : inR v2) (rv3 : inR v3) (rv4 : inR v4) : OK d k_De_make 6 [mR 6, mR v1, mI v2, mI v3, mI v4, mN] [] h cI inR (F_De_make_6  v1 v1n v2 v3 v4 h) := by
  unfold F_De_make_6
  refine z_itr (P := fun q : Nat × Nat × Int × Int × Int × MH => LayC q.2.2.2.2.2 ∧ ArO q.2.2.2.2.2 q.1 101 q.2.1 ∧ inR q.2.2.1 ∧ inR q.2.2.2.1 ∧ inR q.2.2.2.2.1 ∧ True) (ls := fun q : Nat × Nat × Int × Int × Int × MH => [mR 6, mR q.1, mI q.2.2.1, mI q.2.2.2.1, mI q.2.2.2.2.1, mN]) (hp := fun q : Nat × Nat × Int × Int × Int × MH => q.2.2.2.2.2) (fun self hs q hq => ?_) FU (v1, v1n, v2, v3, v4, h) ⟨L, ov1, rv2, rv3, rv4, trivial⟩
  exact S_De_make_6_b hd (fun v1 v1n v2 v3 v4 h L ov1 rv2 rv3 rv4 => hs (v1, v1n, v2, v3, v4, h) ⟨L, ov1, rv2, rv3, rv4, trivial⟩) hq.1 hq.2.1 hq.2.2.1 hq.2.2.2.1 hq.2.2.2.2.1
noncomputable def F_De_make (a1 : Nat) (a1n : Nat) (a2 : Int) (a3 : Int) (h : MH) : RS Int := F_De_make_6 a1 a1n a2 a3 (mGi h 6 4) h
theorem S_De_make {d : Nat} (hd : 1 ≤ d) {a1 : Nat} {a1n : Nat} {a2 : Int} {a3 : Int} {h : MH} (L : LayC h) (oa1 : ArO h a1 101 a1n) (ra2 : inR a2) (ra3 : inR a3) : OK d k_De_make 0 [mR 6, mR a1, mI a2, mI a3, mN, mN] [] h cI inR (F_De_make  a1 a1n a2 a3 h) := by
  unfold F_De_make
  refine z_go (fun Q hq => x_aload_n (dA d_De_make 0 rfl) rfl rfl (x_getI (dA d_De_make 1 rfl) f_De_30 (L.sh (x := (3, 5)) rfl) (by decide) (by decide) rfl (x_istore (dA d_De_make 2 rfl) (by decide) rfl hq))) ?_
  exact S_De_make_6 hd  L oa1 ra2 ra3 (L.rg _ _)
/-! TwoMills.isWordStart(I)Z -/
noncomputable def F_T_isWordStart_30 (h : MH) : RS Int := some (.inl (1 : Int), h)
theorem S_T_isWordStart_30 {d : Nat} (hd : 0 ≤ d) {h : MH} (L : LayC h) : OK d k_T_isWordStart 30 [mN] [] h cI p01 (F_T_isWordStart_30   h) := by
  unfold F_T_isWordStart_30
  refine z_go (fun Q hq => x_iconst (dA d_T_isWordStart 15 rfl) (x_goto (dA d_T_isWordStart 16 rfl) rfl hq)) ?_
  exact z_retz (dA d_T_isWordStart 18 rfl) rfl (.inr rfl)
noncomputable def F_T_isWordStart_24 (v0 : Int) (h : MH) : RS Int := if v0 = (95 : Int) then F_T_isWordStart_30  h else some (.inl (0 : Int), h)
theorem S_T_isWordStart_24 {d : Nat} (hd : 0 ≤ d) {v0 : Int} {h : MH} (L : LayC h) (rv0 : inR v0) : OK d k_T_isWordStart 24 [mI v0] [] h cI p01 (F_T_isWordStart_24  v0 h) := by
  unfold F_T_isWordStart_24
  refine z_go (fun Q hq => x_iload_n (dA d_T_isWordStart 12 rfl) rfl rfl (x_bipush (dA d_T_isWordStart 13 rfl) (by decide) hq)) ?_
  refine z_brn (fun Q => x_icmp_ne (dA d_T_isWordStart 14 rfl) rfl rv0 (inR_lit (95 : Int) rfl)) (fun c1 => ?_) (fun c1 => ?_)
  · refine z_fgt (ls' := [mN]) ⟨.inl rfl, trivial⟩ ?_
    exact S_T_isWordStart_30 hd  L 
  · refine z_go (fun Q hq => x_iconst (dA d_T_isWordStart 17 rfl) hq) ?_
    exact z_retz (dA d_T_isWordStart 18 rfl) rfl (.inl rfl)
noncomputable def F_T_isWordStart_12 (v0 : Int) (h : MH) : RS Int := if v0 < (65 : Int) then F_T_isWordStart_24 v0 h else if v0 ≤ (90 : Int) then F_T_isWordStart_30  h else F_T_isWordStart_24 v0 h
theorem S_T_isWordStart_12 {d : Nat} (hd : 0 ≤ d) {v0 : Int} {h : MH} (L : LayC h) (rv0 : inR v0) : OK d k_T_isWordStart 12 [mI v0] [] h cI p01 (F_T_isWordStart_12  v0 h) := by
  unfold F_T_isWordStart_12
  refine z_go (fun Q hq => x_iload_n (dA d_T_isWordStart 6 rfl) rfl rfl (x_bipush (dA d_T_isWordStart 7 rfl) (by decide) hq)) ?_
  refine z_br (fun Q => x_icmp_lt (dA d_T_isWordStart 8 rfl) rfl rv0 (inR_lit (65 : Int) rfl)) (fun c2 => ?_) (fun c2 => ?_)
  · exact S_T_isWordStart_24 hd  L rv0
  · refine z_go (fun Q hq => x_iload_n (dA d_T_isWordStart 9 rfl) rfl rfl (x_bipush (dA d_T_isWordStart 10 rfl) (by decide) hq)) ?_
    refine z_br (fun Q => x_icmp_le (dA d_T_isWordStart 11 rfl) rfl rv0 (inR_lit (90 : Int) rfl)) (fun c3 => ?_) (fun c3 => ?_)
    · refine z_fgt (ls' := [mN]) ⟨.inl rfl, trivial⟩ ?_
      exact S_T_isWordStart_30 hd  L 
    · exact S_T_isWordStart_24 hd  L rv0
noncomputable def F_T_isWordStart (a1 : Int) (h : MH) : RS Int := if a1 < (97 : Int) then F_T_isWordStart_12 a1 h else if a1 ≤ (122 : Int) then F_T_isWordStart_30  h else F_T_isWordStart_12 a1 h
theorem S_T_isWordStart {d : Nat} (hd : 0 ≤ d) {a1 : Int} {h : MH} (L : LayC h) (ra1 : inR a1) : OK d k_T_isWordStart 0 [mI a1] [] h cI p01 (F_T_isWordStart  a1 h) := by
  unfold F_T_isWordStart
  refine z_go (fun Q hq => x_iload_n (dA d_T_isWordStart 0 rfl) rfl rfl (x_bipush (dA d_T_isWordStart 1 rfl) (by decide) hq)) ?_
  refine z_br (fun Q => x_icmp_lt (dA d_T_isWordStart 2 rfl) rfl ra1 (inR_lit (97 : Int) rfl)) (fun c4 => ?_) (fun c4 => ?_)
  · exact S_T_isWordStart_12 hd  L ra1
  · refine z_go (fun Q hq => x_iload_n (dA d_T_isWordStart 3 rfl) rfl rfl (x_bipush (dA d_T_isWordStart 4 rfl) (by decide) hq)) ?_
    refine z_br (fun Q => x_icmp_le (dA d_T_isWordStart 5 rfl) rfl ra1 (inR_lit (122 : Int) rfl)) (fun c5 => ?_) (fun c5 => ?_)
    · refine z_fgt (ls' := [mN]) ⟨.inl rfl, trivial⟩ ?_
      exact S_T_isWordStart_30 hd  L 
    · exact S_T_isWordStart_12 hd  L ra1
/-! TwoMills.isWordPart(I)Z -/
noncomputable def F_T_isWordPart_46 (h : MH) : RS Int := some (.inl (0 : Int), h)
theorem S_T_isWordPart_46 {d : Nat} (hd : 0 ≤ d) {h : MH} (L : LayC h) : OK d k_T_isWordPart 46 [mN] [] h cI p01 (F_T_isWordPart_46   h) := by
  unfold F_T_isWordPart_46
  refine z_go (fun Q hq => x_iconst (dA d_T_isWordPart 23 rfl) hq) ?_
  exact z_retz (dA d_T_isWordPart 24 rfl) rfl (.inl rfl)
noncomputable def F_T_isWordPart_42 (h : MH) : RS Int := some (.inl (1 : Int), h)
theorem S_T_isWordPart_42 {d : Nat} (hd : 0 ≤ d) {h : MH} (L : LayC h) : OK d k_T_isWordPart 42 [mN] [] h cI p01 (F_T_isWordPart_42   h) := by
  unfold F_T_isWordPart_42
  refine z_go (fun Q hq => x_iconst (dA d_T_isWordPart 21 rfl) (x_goto (dA d_T_isWordPart 22 rfl) rfl hq)) ?_
  exact z_retz (dA d_T_isWordPart 24 rfl) rfl (.inr rfl)
noncomputable def F_T_isWordPart_24 (v0 : Int) (h : MH) : RS Int := if v0 = (95 : Int) then F_T_isWordPart_42  h else if v0 < (48 : Int) then F_T_isWordPart_46  h else if (57 : Int) < v0 then F_T_isWordPart_46  h else F_T_isWordPart_42  h
theorem S_T_isWordPart_24 {d : Nat} (hd : 0 ≤ d) {v0 : Int} {h : MH} (L : LayC h) (rv0 : inR v0) : OK d k_T_isWordPart 24 [mI v0] [] h cI p01 (F_T_isWordPart_24  v0 h) := by
  unfold F_T_isWordPart_24
  refine z_go (fun Q hq => x_iload_n (dA d_T_isWordPart 12 rfl) rfl rfl (x_bipush (dA d_T_isWordPart 13 rfl) (by decide) hq)) ?_
  refine z_br (fun Q => x_icmp_eq (dA d_T_isWordPart 14 rfl) rfl rv0 (inR_lit (95 : Int) rfl)) (fun c1 => ?_) (fun c1 => ?_)
  · refine z_fgt (ls' := [mN]) ⟨.inl rfl, trivial⟩ ?_
    exact S_T_isWordPart_42 hd  L 
  · refine z_go (fun Q hq => x_iload_n (dA d_T_isWordPart 15 rfl) rfl rfl (x_bipush (dA d_T_isWordPart 16 rfl) (by decide) hq)) ?_
    refine z_br (fun Q => x_icmp_lt (dA d_T_isWordPart 17 rfl) rfl rv0 (inR_lit (48 : Int) rfl)) (fun c2 => ?_) (fun c2 => ?_)
    · refine z_fgt (ls' := [mN]) ⟨.inl rfl, trivial⟩ ?_
      exact S_T_isWordPart_46 hd  L 
    · refine z_go (fun Q hq => x_iload_n (dA d_T_isWordPart 18 rfl) rfl rfl (x_bipush (dA d_T_isWordPart 19 rfl) (by decide) hq)) ?_
      refine z_br (fun Q => x_icmp_gt (dA d_T_isWordPart 20 rfl) rfl rv0 (inR_lit (57 : Int) rfl)) (fun c3 => ?_) (fun c3 => ?_)
      · refine z_fgt (ls' := [mN]) ⟨.inl rfl, trivial⟩ ?_
        exact S_T_isWordPart_46 hd  L 
      · refine z_fgt (ls' := [mN]) ⟨.inl rfl, trivial⟩ ?_
        exact S_T_isWordPart_42 hd  L 
noncomputable def F_T_isWordPart_12 (v0 : Int) (h : MH) : RS Int := if v0 < (65 : Int) then F_T_isWordPart_24 v0 h else if v0 ≤ (90 : Int) then F_T_isWordPart_42  h else F_T_isWordPart_24 v0 h
theorem S_T_isWordPart_12 {d : Nat} (hd : 0 ≤ d) {v0 : Int} {h : MH} (L : LayC h) (rv0 : inR v0) : OK d k_T_isWordPart 12 [mI v0] [] h cI p01 (F_T_isWordPart_12  v0 h) := by
  unfold F_T_isWordPart_12
  refine z_go (fun Q hq => x_iload_n (dA d_T_isWordPart 6 rfl) rfl rfl (x_bipush (dA d_T_isWordPart 7 rfl) (by decide) hq)) ?_
  refine z_br (fun Q => x_icmp_lt (dA d_T_isWordPart 8 rfl) rfl rv0 (inR_lit (65 : Int) rfl)) (fun c4 => ?_) (fun c4 => ?_)
  · exact S_T_isWordPart_24 hd  L rv0
  · refine z_go (fun Q hq => x_iload_n (dA d_T_isWordPart 9 rfl) rfl rfl (x_bipush (dA d_T_isWordPart 10 rfl) (by decide) hq)) ?_
    refine z_br (fun Q => x_icmp_le (dA d_T_isWordPart 11 rfl) rfl rv0 (inR_lit (90 : Int) rfl)) (fun c5 => ?_) (fun c5 => ?_)
    · refine z_fgt (ls' := [mN]) ⟨.inl rfl, trivial⟩ ?_
      exact S_T_isWordPart_42 hd  L 
    · exact S_T_isWordPart_24 hd  L rv0
noncomputable def F_T_isWordPart (a1 : Int) (h : MH) : RS Int := if a1 < (97 : Int) then F_T_isWordPart_12 a1 h else if a1 ≤ (122 : Int) then F_T_isWordPart_42  h else F_T_isWordPart_12 a1 h
theorem S_T_isWordPart {d : Nat} (hd : 0 ≤ d) {a1 : Int} {h : MH} (L : LayC h) (ra1 : inR a1) : OK d k_T_isWordPart 0 [mI a1] [] h cI p01 (F_T_isWordPart  a1 h) := by
  unfold F_T_isWordPart
  refine z_go (fun Q hq => x_iload_n (dA d_T_isWordPart 0 rfl) rfl rfl (x_bipush (dA d_T_isWordPart 1 rfl) (by decide) hq)) ?_
  refine z_br (fun Q => x_icmp_lt (dA d_T_isWordPart 2 rfl) rfl ra1 (inR_lit (97 : Int) rfl)) (fun c6 => ?_) (fun c6 => ?_)
  · exact S_T_isWordPart_12 hd  L ra1
  · refine z_go (fun Q hq => x_iload_n (dA d_T_isWordPart 3 rfl) rfl rfl (x_bipush (dA d_T_isWordPart 4 rfl) (by decide) hq)) ?_
    refine z_br (fun Q => x_icmp_le (dA d_T_isWordPart 5 rfl) rfl ra1 (inR_lit (122 : Int) rfl)) (fun c7 => ?_) (fun c7 => ?_)
    · refine z_fgt (ls' := [mN]) ⟨.inl rfl, trivial⟩ ?_
      exact S_T_isWordPart_42 hd  L 
    · exact S_T_isWordPart_12 hd  L ra1
/-! TwoMills.wordLength([CII)I -/
noncomputable def F_T_wordLength_2_b (G2 : Nat → Nat → Int → Int → Int → MH → RS Int) (v0 : Nat) (v0n : Nat) (v1 : Int) (v2 : Int) (v3 : Int) (h : MH) : RS Int := if v2 ≤ v3 then gd (inR (v3 - v1)) (some (.inl (v3 - v1), h)) else gd (0 ≤ v3 ∧ v3 < v0n) (bnd (F_T_isWordPart (mGi h v0 v3.toNat) h) fun x6 h4 => if x6 = 0 then gd (inR (v3 - v1)) (some (.inl (v3 - v1), h4)) else gd (inR (v3 + (1 : Int))) (G2 v0 v0n v1 v2 (v3 + (1 : Int)) h4))
theorem S_T_wordLength_2_b {d : Nat} (hd : 1 ≤ d) {G2 : Nat → Nat → Int → Int → Int → MH → RS Int} (hG2 : ∀ (v0 : Nat) (v0n : Nat) (v1 : Int) (v2 : Int) (v3 : Int) (h : MH), LayC h → ArO h v0 101 v0n → inR v1 → inR v2 → inR v3 → OK d k_T_wordLength 2 [mR v0, mI v1, mI v2, mI v3] [] h cI inR (G2 v0 v0n v1 v2 v3 h)) {v0 : Nat} {v0n : Nat} {v1 : Int} {v2 : Int} {v3 : Int} {h : MH} (L : LayC h) (ov0 : ArO h v0 101 v0n) (rv1 : inR v1) (rv2 : inR v2) (rv3 : inR v3) : OK d k_T_wordLength 2 [mR v0, mI v1, mI v2, mI v3] [] h cI inR (F_T_wordLength_2_b G2 v0 v0n v1 v2 v3 h) := by
  unfold F_T_wordLength_2_b
  refine z_go (fun Q hq => x_iload_n (dA d_T_wordLength 2 rfl) rfl rfl (x_iload_n (dA d_T_wordLength 3 rfl) rfl rfl hq)) ?_
  refine z_br (fun Q => x_icmp_ge (dA d_T_wordLength 4 rfl) rfl rv3 rv2) (fun c1 => ?_) (fun c1 => ?_)
  · refine z_go (fun Q hq => x_iload_n (dA d_T_wordLength 12 rfl) rfl rfl (x_iload_n (dA d_T_wordLength 13 rfl) rfl rfl hq)) ?_
    refine z_gd (fun g2 => ?_)
    refine z_go (fun Q hq => x_isub (dA d_T_wordLength 14 rfl) hq) ?_
    exact z_reti (dA d_T_wordLength 15 rfl) rfl g2
  · refine z_go (fun Q hq => x_aload_n (dA d_T_wordLength 5 rfl) rfl rfl (x_iload_n (dA d_T_wordLength 6 rfl) rfl rfl hq)) ?_
    refine z_gd (fun g3 => ?_)
    refine z_go (fun Q hq => x_cald (dA d_T_wordLength 7 rfl) ov0.1 g3.1 g3.2 ov0.2 hq) ?_
    refine z_bnd (rest := []) (st1 := fun v => mI v :: []) (S_T_isWordPart (d := 0) (Nat.le_refl _) L (L.rg _ _)) (fun _ hx => absurd hx List.not_mem_nil) (fun _ => rfl) (fun Q' Q => x_callS (as := [mI (mGi h v0 v3.toNat)]) (rest := []) (k' := k_T_isWordPart) (dA d_T_wordLength 8 rfl) o_T_isWordPart lk_T_120 st_T_isWordPart (Nat.le_of_ble_eq_true rfl) (Nat.le_trans (Nat.le_of_ble_eq_true rfl) hd) (Nat.le_of_ble_eq_true rfl)) (fun x6 h4 e5 p7 => ?_)
    have L8 := L.ext e5
    refine z_br (fun Q => x_if_eq (dA d_T_wordLength 9 rfl) rfl p7.inR) (fun c9 => ?_) (fun c9 => ?_)
    · refine z_go (fun Q hq => x_iload_n (dA d_T_wordLength 12 rfl) rfl rfl (x_iload_n (dA d_T_wordLength 13 rfl) rfl rfl hq)) ?_
      refine z_gd (fun g10 => ?_)
      refine z_go (fun Q hq => x_isub (dA d_T_wordLength 14 rfl) hq) ?_
      exact z_reti (dA d_T_wordLength 15 rfl) rfl g10
    · refine z_gd (fun g11 => ?_)
      refine z_go (fun Q hq => x_iinc (dA d_T_wordLength 10 rfl) rfl (by decide) rfl (x_goto (dA d_T_wordLength 11 rfl) rfl hq)) ?_
      exact hG2 v0 v0n v1 v2 (v3 + (1 : Int)) h4 L8 (ov0.ext e5) rv1 rv2 g11
noncomputable def F_T_wordLength_2 (v0 : Nat) (v0n : Nat) (v1 : Int) (v2 : Int) (v3 : Int) (h : MH) : RS Int := itr (fun self (q : Nat × Nat × Int × Int × Int × MH) => F_T_wordLength_2_b (fun v0 v0n v1 v2 v3 h => self (v0, v0n, v1, v2, v3, h)) q.1 q.2.1 q.2.2.1 q.2.2.2.1 q.2.2.2.2.1 q.2.2.2.2.2) FU (v0, v0n, v1, v2, v3, h)
theorem S_T_wordLength_2 {d : Nat} (hd : 1 ≤ d) {v0 : Nat} {v0n : Nat} {v1 : Int} {v2 : Int} {v3 : Int} {h : MH} (L : LayC h) (ov0 : ArO h v0 101 v0n) (rv1 : inR v1) (rv2 : inR v2) (rv3 : inR v3) : OK d k_T_wordLength 2 [mR v0, mI v1, mI v2, mI v3] [] h cI inR (F_T_wordLength_2  v0 v0n v1 v2 v3 h) := by
  unfold F_T_wordLength_2
  refine z_itr (P := fun q : Nat × Nat × Int × Int × Int × MH => LayC q.2.2.2.2.2 ∧ ArO q.2.2.2.2.2 q.1 101 q.2.1 ∧ inR q.2.2.1 ∧ inR q.2.2.2.1 ∧ inR q.2.2.2.2.1 ∧ True) (ls := fun q : Nat × Nat × Int × Int × Int × MH => [mR q.1, mI q.2.2.1, mI q.2.2.2.1, mI q.2.2.2.2.1]) (hp := fun q : Nat × Nat × Int × Int × Int × MH => q.2.2.2.2.2) (fun self hs q hq => ?_) FU (v0, v0n, v1, v2, v3, h) ⟨L, ov0, rv1, rv2, rv3, trivial⟩
  exact S_T_wordLength_2_b hd (fun v0 v0n v1 v2 v3 h L ov0 rv1 rv2 rv3 => hs (v0, v0n, v1, v2, v3, h) ⟨L, ov0, rv1, rv2, rv3, trivial⟩) hq.1 hq.2.1 hq.2.2.1 hq.2.2.2.1 hq.2.2.2.2.1
noncomputable def F_T_wordLength (a1 : Nat) (a1n : Nat) (a2 : Int) (a3 : Int) (h : MH) : RS Int := F_T_wordLength_2 a1 a1n a2 a3 a2 h
theorem S_T_wordLength {d : Nat} (hd : 1 ≤ d) {a1 : Nat} {a1n : Nat} {a2 : Int} {a3 : Int} {h : MH} (L : LayC h) (oa1 : ArO h a1 101 a1n) (ra2 : inR a2) (ra3 : inR a3) : OK d k_T_wordLength 0 [mR a1, mI a2, mI a3, mN] [] h cI inR (F_T_wordLength  a1 a1n a2 a3 h) := by
  unfold F_T_wordLength
  refine z_go (fun Q hq => x_iload_n (dA d_T_wordLength 0 rfl) rfl rfl (x_istore_n (dA d_T_wordLength 1 rfl) rfl (by decide) rfl hq)) ?_
  exact S_T_wordLength_2 hd  L oa1 ra2 ra3 ra2
/-! TwoMills$FirstMill.define(I)V -/
noncomputable def F_Fm_define_115 (v5 : Int) (h : MH) : RS Unit := gd (0 ≤ v5 ∧ v5 < 16) (bnd (F_Le_empty (13 + 4 * v5.toNat) 40 h) fun x5 h3 => bnd (F_Ar_start (1 : Int) h3) fun x10 h8 => bnd (F_Ar_length (1 : Int) h8) fun x15 h13 => bnd (F_Le_addAll (13 + 4 * v5.toNat) 40 79 200 x10 x15 h13) fun x20 h18 => some (.inl (), h18))
theorem S_Fm_define_115 {d : Nat} (hd : 2 ≤ d) {v5 : Int} {h : MH} (L : LayC h) (rv5 : inR v5) : OK d k_Fm_define 115 [mR 3, mN, mR 79, mN, mN, mI v5, mN] [] h cV pT (F_Fm_define_115  v5 h) := by
  unfold F_Fm_define_115
  refine z_go (fun Q hq => x_aload_n (dA d_Fm_define 59 rfl) rfl rfl (x_getR (dA d_Fm_define 60 rfl) f_Fm_23 (L.sh (x := (6, 7)) rfl) (by decide) (by decide) rfl (L.rf 5 rfl) (x_getR (dA d_Fm_define 61 rfl) f_Fm_233 (L.sh (x := (3, 5)) rfl) (by decide) (by decide) rfl (L.rf 11 rfl) (x_iload (dA d_Fm_define 62 rfl) rfl hq)))) ?_
  refine z_gd (fun g1 => ?_)
  refine z_go (fun Q hq => x_aald (dA d_Fm_define 63 rfl) (L.sh (x := (110, 16)) rfl) (.inl rfl) g1.1 g1.2 (by decide) (L.tr g1) hq) ?_
  have o2 := (L.to g1)
  refine z_go (fun Q hq => x_astore (dA d_Fm_define 64 rfl) (by decide) rfl (x_aload (dA d_Fm_define 65 rfl) rfl hq)) ?_
  refine z_bnd (rest := []) (st1 := fun _ => []) (S_Le_empty (d := 0) (Nat.le_refl _) L o2) (fun _ hx => absurd hx List.not_mem_nil) (fun _ => rfl) (fun Q' Q => x_callV (as := []) (rest := []) (k' := k_Le_empty) (dA d_Fm_define 66 rfl) o_Le_empty lk_Fm_44 im_Le_empty se_Le_empty rfl o2.1 (by decide) (Nat.le_of_ble_eq_true rfl) (Nat.le_trans (Nat.le_of_ble_eq_true rfl) hd) (Nat.le_of_ble_eq_true rfl)) (fun x5 h3 e4 p6 => ?_)
  have L7 := L.ext e4
  refine z_go (fun Q hq => x_aload (dA d_Fm_define 67 rfl) rfl (x_aload_n (dA d_Fm_define 68 rfl) rfl rfl (x_aload_n (dA d_Fm_define 69 rfl) rfl rfl (x_getR (dA d_Fm_define 70 rfl) f_Fm_37 (L7.sh (x := (6, 7)) rfl) (by decide) (by decide) rfl (L7.rf 7 rfl) (x_iconst (dA d_Fm_define 71 rfl) hq))))) ?_
  refine z_bnd (rest := [mR 79, mR (13 + 4 * v5.toNat)]) (st1 := fun v => mI v :: [mR 79, mR (13 + 4 * v5.toNat)]) (S_Ar_start (d := 0) (Nat.le_refl _) L7 (inR_lit (1 : Int) rfl)) (fun _ hx => absurd hx List.not_mem_nil) (fun _ => rfl) (fun Q' Q => x_callV (as := [mI (1 : Int)]) (rest := [mR 79, mR (13 + 4 * v5.toNat)]) (k' := k_Ar_start) (dA d_Fm_define 72 rfl) o_Ar_start lk_Fm_199 im_Ar_start se_Ar_start rfl (L7.sh (x := (2, 6)) rfl) (by decide) (Nat.le_of_ble_eq_true rfl) (Nat.le_trans (Nat.le_of_ble_eq_true rfl) hd) (Nat.le_of_ble_eq_true rfl)) (fun x10 h8 e9 p11 => ?_)
  have L12 := L7.ext e9
  refine z_go (fun Q hq => x_aload_n (dA d_Fm_define 73 rfl) rfl rfl (x_getR (dA d_Fm_define 74 rfl) f_Fm_37 (L12.sh (x := (6, 7)) rfl) (by decide) (by decide) rfl (L12.rf 7 rfl) (x_iconst (dA d_Fm_define 75 rfl) hq))) ?_
  refine z_bnd (rest := [mI x10, mR 79, mR (13 + 4 * v5.toNat)]) (st1 := fun v => mI v :: [mI x10, mR 79, mR (13 + 4 * v5.toNat)]) (S_Ar_length (d := 1) (Nat.le_refl _) L12 (inR_lit (1 : Int) rfl)) (fun _ hx => absurd hx List.not_mem_nil) (fun _ => rfl) (fun Q' Q => x_callV (as := [mI (1 : Int)]) (rest := [mI x10, mR 79, mR (13 + 4 * v5.toNat)]) (k' := k_Ar_length) (dA d_Fm_define 76 rfl) o_Ar_length lk_Fm_202 im_Ar_length se_Ar_length rfl (L12.sh (x := (2, 6)) rfl) (by decide) (Nat.le_of_ble_eq_true rfl) (Nat.le_trans (Nat.le_of_ble_eq_true rfl) hd) (Nat.le_of_ble_eq_true rfl)) (fun x15 h13 e14 p16 => ?_)
  have L17 := L12.ext e14
  refine z_bnd (rest := []) (st1 := fun _ => []) (S_Le_addAll (d := 0) (Nat.le_refl _) L17 (((o2.ext e4).ext e9).ext e14) ⟨L17.sh rfl, by decide⟩ p11 p16) (fun _ hx => absurd hx List.not_mem_nil) (fun _ => rfl) (fun Q' Q => x_callV (as := [mR 79, mI x10, mI x15]) (rest := []) (k' := k_Le_addAll) (dA d_Fm_define 77 rfl) o_Le_addAll lk_Fm_187 im_Le_addAll se_Le_addAll rfl (((o2.ext e4).ext e9).ext e14).1 (by decide) (Nat.le_of_ble_eq_true rfl) (Nat.le_trans (Nat.le_of_ble_eq_true rfl) hd) (Nat.le_of_ble_eq_true rfl)) (fun x20 h18 e19 p21 => ?_)
  have L22 := L17.ext e19
  exact z_retv (dA d_Fm_define 78 rfl) rfl
noncomputable def F_Fm_define_103 (s0 : Int) (h : MH) : RS Unit := if 0 ≤ s0 then F_Fm_define_115 s0 h else bnd (F_Fm_fail (1 : Int) h) fun x26 h24 => F_Fm_define_115 s0 h24
theorem S_Fm_define_103 {d : Nat} (hd : 2 ≤ d) {s0 : Int} {h : MH} (L : LayC h) (rs0 : inR s0) : OK d k_Fm_define 103 [mR 3, mN, mR 79, mN, mN, mN, mN] [mI s0] h cV pT (F_Fm_define_103  s0 h) := by
  unfold F_Fm_define_103
  refine z_go (fun Q hq => x_istore (dA d_Fm_define 53 rfl) (by decide) rfl (x_iload (dA d_Fm_define 54 rfl) rfl hq)) ?_
  refine z_br (fun Q => x_if_ge (dA d_Fm_define 55 rfl) rfl rs0) (fun c23 => ?_) (fun c23 => ?_)
  · exact S_Fm_define_115 hd  L rs0
  · refine z_go (fun Q hq => x_aload_n (dA d_Fm_define 56 rfl) rfl rfl (x_iconst (dA d_Fm_define 57 rfl) hq)) ?_
    refine z_bnd (rest := []) (st1 := fun _ => []) (S_Fm_fail (d := 0) (Nat.le_refl _) L (inR_lit (1 : Int) rfl)) (fun _ hx => absurd hx List.not_mem_nil) (fun _ => rfl) (fun Q' Q => x_callV (as := [mI (1 : Int)]) (rest := []) (k' := k_Fm_fail) (dA d_Fm_define 58 rfl) o_Fm_fail lk_Fm_87 im_Fm_fail se_Fm_fail rfl (L.sh (x := (6, 7)) rfl) (by decide) (Nat.le_of_ble_eq_true rfl) (Nat.le_trans (Nat.le_of_ble_eq_true rfl) hd) (Nat.le_of_ble_eq_true rfl)) (fun x26 h24 e25 p27 => ?_)
    have L28 := L.ext e25
    exact S_Fm_define_115 hd  L28 rs0
noncomputable def F_Fm_define_84 (v1 : Int) (v3 : Int) (v4 : Int) (h : MH) : RS Unit := if v1 < 0 then bnd (F_De_make 79 200 v3 v4 h) fun x32 h30 => F_Fm_define_103 x32 h30 else F_Fm_define_103 v1 h
theorem S_Fm_define_84 {d : Nat} (hd : 2 ≤ d) {v1 : Int} {v3 : Int} {v4 : Int} {h : MH} (L : LayC h) (rv1 : inR v1) (rv3 : inR v3) (rv4 : inR v4) : OK d k_Fm_define 84 [mR 3, mI v1, mR 79, mI v3, mI v4, mN, mN] [] h cV pT (F_Fm_define_84  v1 v3 v4 h) := by
  unfold F_Fm_define_84
  refine z_go (fun Q hq => x_iload_n (dA d_Fm_define 43 rfl) rfl rfl hq) ?_
  refine z_br (fun Q => x_if_lt (dA d_Fm_define 44 rfl) rfl rv1) (fun c29 => ?_) (fun c29 => ?_)
  · refine z_go (fun Q hq => x_aload_n (dA d_Fm_define 47 rfl) rfl rfl (x_getR (dA d_Fm_define 48 rfl) f_Fm_23 (L.sh (x := (6, 7)) rfl) (by decide) (by decide) rfl (L.rf 5 rfl) (x_aload_n (dA d_Fm_define 49 rfl) rfl rfl (x_iload_n (dA d_Fm_define 50 rfl) rfl rfl (x_iload (dA d_Fm_define 51 rfl) rfl hq))))) ?_
    refine z_bnd (rest := []) (st1 := fun v => mI v :: []) (S_De_make (d := 1) (Nat.le_refl _) L ⟨L.sh rfl, by decide⟩ rv3 rv4) (fun _ hx => absurd hx List.not_mem_nil) (fun _ => rfl) (fun Q' Q => x_callV (as := [mR 79, mI v3, mI v4]) (rest := []) (k' := k_De_make) (dA d_Fm_define 52 rfl) o_De_make lk_Fm_250 im_De_make se_De_make rfl (L.sh (x := (3, 5)) rfl) (by decide) (Nat.le_of_ble_eq_true rfl) (Nat.le_trans (Nat.le_of_ble_eq_true rfl) hd) (Nat.le_of_ble_eq_true rfl)) (fun x32 h30 e31 p33 => ?_)
    have L34 := L.ext e31
    refine z_fgt (ls' := [mR 3, mN, mR 79, mN, mN, mN, mN]) ⟨.inr rfl, .inl rfl, .inr rfl, .inl rfl, .inl rfl, .inl rfl, .inl rfl, trivial⟩ ?_
    exact S_Fm_define_103 hd  L34 p33
  · refine z_go (fun Q hq => x_iload_n (dA d_Fm_define 45 rfl) rfl rfl (x_goto (dA d_Fm_define 46 rfl) rfl hq)) ?_
    refine z_fgt (ls' := [mR 3, mN, mR 79, mN, mN, mN, mN]) ⟨.inr rfl, .inl rfl, .inr rfl, .inl rfl, .inl rfl, .inl rfl, .inl rfl, trivial⟩ ?_
    exact S_Fm_define_103 hd  L rv1
noncomputable def F_Fm_define (a1 : Int) (h : MH) : RS Unit := bnd (F_Ar_start (0 : Int) h) fun x37 h35 => bnd (F_Ar_length (0 : Int) h35) fun x42 h40 => if x42 = 0 then some (.inl (), h40) else if (8 : Int) < x42 then some (.inl (), h40) else gd (0 ≤ x37 ∧ x37 < 200) (bnd (F_T_isWordStart (mGi h40 79 x37.toNat) h40) fun x50 h48 => if x50 = 0 then some (.inl (), h48) else gd (inR (x37 + x42)) (bnd (F_T_wordLength 79 200 x37 (x37 + x42) h48) fun x57 h55 => if x57 = x42 then bnd (F_Ar_length (1 : Int) h55) fun x63 h61 => if x63 ≤ (40 : Int) then F_Fm_define_84 a1 x37 x42 h61 else bnd (F_Fm_fail (1 : Int) h61) fun x69 h67 => F_Fm_define_84 a1 x37 x42 h67 else some (.inl (), h55)))
theorem S_Fm_define {d : Nat} (hd : 2 ≤ d) {a1 : Int} {h : MH} (L : LayC h) (ra1 : inR a1) : OK d k_Fm_define 0 [mR 3, mI a1, mN, mN, mN, mN, mN] [] h cV pT (F_Fm_define  a1 h) := by
  unfold F_Fm_define
  refine z_go (fun Q hq => x_aload_n (dA d_Fm_define 0 rfl) rfl rfl (x_getR (dA d_Fm_define 1 rfl) f_Fm_37 (L.sh (x := (6, 7)) rfl) (by decide) (by decide) rfl (L.rf 7 rfl) (x_getR (dA d_Fm_define 2 rfl) f_Fm_184 (L.sh (x := (2, 6)) rfl) (by decide) (by decide) rfl (L.rf 79 rfl) (x_getR (dA d_Fm_define 3 rfl) f_Fm_198 (L.sh (x := (1, 3)) rfl) (by decide) (by decide) rfl (L.rf 84 rfl) (x_astore_n (dA d_Fm_define 4 rfl) rfl (by decide) rfl (x_aload_n (dA d_Fm_define 5 rfl) rfl rfl (x_getR (dA d_Fm_define 6 rfl) f_Fm_37 (L.sh (x := (6, 7)) rfl) (by decide) (by decide) rfl (L.rf 7 rfl) (x_iconst (dA d_Fm_define 7 rfl) hq)))))))) ?_
  refine z_bnd (rest := []) (st1 := fun v => mI v :: []) (S_Ar_start (d := 0) (Nat.le_refl _) L (inR_lit (0 : Int) rfl)) (fun _ hx => absurd hx List.not_mem_nil) (fun _ => rfl) (fun Q' Q => x_callV (as := [mI (0 : Int)]) (rest := []) (k' := k_Ar_start) (dA d_Fm_define 8 rfl) o_Ar_start lk_Fm_199 im_Ar_start se_Ar_start rfl (L.sh (x := (2, 6)) rfl) (by decide) (Nat.le_of_ble_eq_true rfl) (Nat.le_trans (Nat.le_of_ble_eq_true rfl) hd) (Nat.le_of_ble_eq_true rfl)) (fun x37 h35 e36 p38 => ?_)
  have L39 := L.ext e36
  refine z_go (fun Q hq => x_istore_n (dA d_Fm_define 9 rfl) rfl (by decide) rfl (x_aload_n (dA d_Fm_define 10 rfl) rfl rfl (x_getR (dA d_Fm_define 11 rfl) f_Fm_37 (L39.sh (x := (6, 7)) rfl) (by decide) (by decide) rfl (L39.rf 7 rfl) (x_iconst (dA d_Fm_define 12 rfl) hq)))) ?_
  refine z_bnd (rest := []) (st1 := fun v => mI v :: []) (S_Ar_length (d := 1) (Nat.le_refl _) L39 (inR_lit (0 : Int) rfl)) (fun _ hx => absurd hx List.not_mem_nil) (fun _ => rfl) (fun Q' Q => x_callV (as := [mI (0 : Int)]) (rest := []) (k' := k_Ar_length) (dA d_Fm_define 13 rfl) o_Ar_length lk_Fm_202 im_Ar_length se_Ar_length rfl (L39.sh (x := (2, 6)) rfl) (by decide) (Nat.le_of_ble_eq_true rfl) (Nat.le_trans (Nat.le_of_ble_eq_true rfl) hd) (Nat.le_of_ble_eq_true rfl)) (fun x42 h40 e41 p43 => ?_)
  have L44 := L39.ext e41
  refine z_go (fun Q hq => x_istore (dA d_Fm_define 14 rfl) (by decide) rfl (x_iload (dA d_Fm_define 15 rfl) rfl hq)) ?_
  refine z_br (fun Q => x_if_eq (dA d_Fm_define 16 rfl) rfl p43) (fun c45 => ?_) (fun c45 => ?_)
  · exact z_retv (dA d_Fm_define 33 rfl) rfl
  · refine z_go (fun Q hq => x_iload (dA d_Fm_define 17 rfl) rfl (x_bipush (dA d_Fm_define 18 rfl) (by decide) hq)) ?_
    refine z_br (fun Q => x_icmp_gt (dA d_Fm_define 19 rfl) rfl p43 (inR_lit (8 : Int) rfl)) (fun c46 => ?_) (fun c46 => ?_)
    · exact z_retv (dA d_Fm_define 33 rfl) rfl
    · refine z_go (fun Q hq => x_aload_n (dA d_Fm_define 20 rfl) rfl rfl (x_iload_n (dA d_Fm_define 21 rfl) rfl rfl hq)) ?_
      refine z_gd (fun g47 => ?_)
      refine z_go (fun Q hq => x_cald (dA d_Fm_define 22 rfl) (L44.sh (x := (101, 200)) rfl) g47.1 g47.2 (by decide) hq) ?_
      refine z_bnd (rest := []) (st1 := fun v => mI v :: []) (S_T_isWordStart (d := 0) (Nat.le_refl _) L44 (L44.rg _ _)) (fun _ hx => absurd hx List.not_mem_nil) (fun _ => rfl) (fun Q' Q => x_callSN (as := [mI (mGi h40 79 x37.toNat)]) (rest := []) (k' := k_T_isWordStart) (dA d_Fm_define 23 rfl) o_T_isWordStart lk_Fm_74 st_T_isWordStart (Nat.le_of_ble_eq_true rfl) (Nat.le_trans (Nat.le_of_ble_eq_true rfl) hd) (Nat.le_of_ble_eq_true rfl)) (fun x50 h48 e49 p51 => ?_)
      have L52 := L44.ext e49
      refine z_br (fun Q => x_if_eq (dA d_Fm_define 24 rfl) rfl p51.inR) (fun c53 => ?_) (fun c53 => ?_)
      · exact z_retv (dA d_Fm_define 33 rfl) rfl
      · refine z_go (fun Q hq => x_aload_n (dA d_Fm_define 25 rfl) rfl rfl (x_iload_n (dA d_Fm_define 26 rfl) rfl rfl (x_iload_n (dA d_Fm_define 27 rfl) rfl rfl (x_iload (dA d_Fm_define 28 rfl) rfl hq)))) ?_
        refine z_gd (fun g54 => ?_)
        refine z_go (fun Q hq => x_iadd (dA d_Fm_define 29 rfl) hq) ?_
        refine z_bnd (rest := []) (st1 := fun v => mI v :: []) (S_T_wordLength (d := 1) (Nat.le_refl _) L52 ⟨L52.sh rfl, by decide⟩ p38 g54) (fun _ hx => absurd hx List.not_mem_nil) (fun _ => rfl) (fun Q' Q => x_callSN (as := [mR 79, mI x37, mI (x37 + x42)]) (rest := []) (k' := k_T_wordLength) (dA d_Fm_define 30 rfl) o_T_wordLength lk_Fm_111 st_T_wordLength (Nat.le_of_ble_eq_true rfl) (Nat.le_trans (Nat.le_of_ble_eq_true rfl) hd) (Nat.le_of_ble_eq_true rfl)) (fun x57 h55 e56 p58 => ?_)
        have L59 := L52.ext e56
        refine z_go (fun Q hq => x_iload (dA d_Fm_define 31 rfl) rfl hq) ?_
        refine z_br (fun Q => x_icmp_eq (dA d_Fm_define 32 rfl) rfl p58 p43) (fun c60 => ?_) (fun c60 => ?_)
        · refine z_go (fun Q hq => x_aload_n (dA d_Fm_define 34 rfl) rfl rfl (x_getR (dA d_Fm_define 35 rfl) f_Fm_37 (L59.sh (x := (6, 7)) rfl) (by decide) (by decide) rfl (L59.rf 7 rfl) (x_iconst (dA d_Fm_define 36 rfl) hq))) ?_
          refine z_bnd (rest := []) (st1 := fun v => mI v :: []) (S_Ar_length (d := 1) (Nat.le_refl _) L59 (inR_lit (1 : Int) rfl)) (fun _ hx => absurd hx List.not_mem_nil) (fun _ => rfl) (fun Q' Q => x_callV (as := [mI (1 : Int)]) (rest := []) (k' := k_Ar_length) (dA d_Fm_define 37 rfl) o_Ar_length lk_Fm_202 im_Ar_length se_Ar_length rfl (L59.sh (x := (2, 6)) rfl) (by decide) (Nat.le_of_ble_eq_true rfl) (Nat.le_trans (Nat.le_of_ble_eq_true rfl) hd) (Nat.le_of_ble_eq_true rfl)) (fun x63 h61 e62 p64 => ?_)
          have L65 := L59.ext e62
          refine z_go (fun Q hq => x_bipush (dA d_Fm_define 38 rfl) (by decide) hq) ?_
          refine z_br (fun Q => x_icmp_le (dA d_Fm_define 39 rfl) rfl p64 (inR_lit (40 : Int) rfl)) (fun c66 => ?_) (fun c66 => ?_)
          · exact S_Fm_define_84 hd  L65 ra1 p38 p43
          · refine z_go (fun Q hq => x_aload_n (dA d_Fm_define 40 rfl) rfl rfl (x_iconst (dA d_Fm_define 41 rfl) hq)) ?_
            refine z_bnd (rest := []) (st1 := fun _ => []) (S_Fm_fail (d := 0) (Nat.le_refl _) L65 (inR_lit (1 : Int) rfl)) (fun _ hx => absurd hx List.not_mem_nil) (fun _ => rfl) (fun Q' Q => x_callV (as := [mI (1 : Int)]) (rest := []) (k' := k_Fm_fail) (dA d_Fm_define 42 rfl) o_Fm_fail lk_Fm_87 im_Fm_fail se_Fm_fail rfl (L65.sh (x := (6, 7)) rfl) (by decide) (Nat.le_of_ble_eq_true rfl) (Nat.le_trans (Nat.le_of_ble_eq_true rfl) hd) (Nat.le_of_ble_eq_true rfl)) (fun x69 h67 e68 p70 => ?_)
            have L71 := L65.ext e68
            exact S_Fm_define_84 hd  L71 ra1 p38 p43
        · exact z_retv (dA d_Fm_define 33 rfl) rfl
end Fns
