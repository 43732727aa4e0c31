section Fns
/-! TwoMillsModel.orderLine()V -/
noncomputable def F_M_orderLine_164 (h : MH) : RS Unit := bnd (F_M_isActive h) fun x3 h1 => if x3 = 0 then some (.inl (), h1) else if (mGi h1 107 29) ≤ (1 : Int) then some (.inl (), h1) else bnd (F_M_fail (6 : Int) h1) fun x10 h8 => some (.inl (), h8)
theorem S_M_orderLine_164 {d : Nat} (hd : 8 ≤ d) {h : MH} (L : LayC h) : OK d k_M_orderLine 164 [mR 107, mN, mN] [] h cV pT (F_M_orderLine_164   h) := by
  unfold F_M_orderLine_164
  refine z_go (fun Q hq => x_aload_n (dA d_M_orderLine 78 rfl) rfl rfl hq) ?_
  refine z_bnd (rest := []) (st1 := fun v => mI v :: []) (S_M_isActive (d := 0) (Nat.le_refl _) L ) (fun _ hx => absurd hx List.not_mem_nil) (fun _ => rfl) (fun Q' Q => x_callV (as := []) (rest := []) (k' := k_M_isActive) (dA d_M_orderLine 79 rfl) o_M_isActive lk_M_506 im_M_isActive se_M_isActive rfl (L.sh (x := (12, 66)) rfl) (by decide) (Nat.le_of_ble_eq_true rfl) (Nat.le_trans (Nat.le_of_ble_eq_true rfl) hd) (Nat.le_of_ble_eq_true rfl)) (fun x3 h1 e2 p4 => ?_)
  have L5 := L.ext e2
  refine z_br (fun Q => x_if_eq (dA d_M_orderLine 80 rfl) rfl p4.inR) (fun c6 => ?_) (fun c6 => ?_)
  · exact z_retv (dA d_M_orderLine 88 rfl) rfl
  · refine z_go (fun Q hq => x_aload_n (dA d_M_orderLine 81 rfl) rfl rfl (x_getI (dA d_M_orderLine 82 rfl) f_M_340 (L5.sh (x := (12, 66)) rfl) (by decide) (by decide) rfl (x_iconst (dA d_M_orderLine 83 rfl) hq))) ?_
    refine z_br (fun Q => x_icmp_le (dA d_M_orderLine 84 rfl) rfl (L5.rg _ _) (inR_lit (1 : Int) rfl)) (fun c7 => ?_) (fun c7 => ?_)
    · exact z_retv (dA d_M_orderLine 88 rfl) rfl
    · refine z_go (fun Q hq => x_aload_n (dA d_M_orderLine 85 rfl) rfl rfl (x_bipush (dA d_M_orderLine 86 rfl) (by decide) hq)) ?_
      refine z_bnd (rest := []) (st1 := fun _ => []) (S_M_fail (d := 0) (Nat.le_refl _) L5 (inR_lit (6 : Int) rfl)) (fun _ hx => absurd hx List.not_mem_nil) (fun _ => rfl) (fun Q' Q => x_callV (as := [mI (6 : Int)]) (rest := []) (k' := k_M_fail) (dA d_M_orderLine 87 rfl) o_M_fail lk_M_146 im_M_fail se_M_fail rfl (L5.sh (x := (12, 66)) rfl) (by decide) (Nat.le_of_ble_eq_true rfl) (Nat.le_trans (Nat.le_of_ble_eq_true rfl) hd) (Nat.le_of_ble_eq_true rfl)) (fun x10 h8 e9 p11 => ?_)
      have L12 := L5.ext e9
      exact z_retv (dA d_M_orderLine 88 rfl) rfl
noncomputable def F_M_orderLine_139 (v1 : Int64) (h : MH) : RS Unit := bnd (F_M_is v1 (439787744885 : Int64) h) fun x15 h13 => if x15 = 0 then F_M_orderLine_164  h13 else bnd (F_M_isActive h13) fun x21 h19 => if x21 = 0 then F_M_orderLine_164  h19 else bnd (F_M_undefine h19) fun x27 h25 => some (.inl (), h25)
theorem S_M_orderLine_139 {d : Nat} (hd : 8 ≤ d) {v1 : Int64} {h : MH} (L : LayC h) : OK d k_M_orderLine 139 [mR 107, mL v1, mN] [] h cV pT (F_M_orderLine_139  v1 h) := by
  unfold F_M_orderLine_139
  refine z_go (fun Q hq => x_aload_n (dA d_M_orderLine 67 rfl) rfl rfl (x_lload_n (dA d_M_orderLine 68 rfl) rfl rfl (x_ldc2 (dA d_M_orderLine 69 rfl) kl_M_530 hq))) ?_
  refine z_bnd (rest := []) (st1 := fun v => mI v :: []) (S_M_is (d := 1) (Nat.le_refl _) L ) (fun _ hx => absurd hx List.not_mem_nil) (fun _ => rfl) (fun Q' Q => x_callV (as := [mL v1, mL (439787744885 : Int64)]) (rest := []) (k' := k_M_is) (dA d_M_orderLine 70 rfl) o_M_is lk_M_493 im_M_is se_M_is rfl (L.sh (x := (12, 66)) rfl) (by decide) (Nat.le_of_ble_eq_true rfl) (Nat.le_trans (Nat.le_of_ble_eq_true rfl) hd) (Nat.le_of_ble_eq_true rfl)) (fun x15 h13 e14 p16 => ?_)
  have L17 := L.ext e14
  refine z_br (fun Q => x_if_eq (dA d_M_orderLine 71 rfl) rfl p16.inR) (fun c18 => ?_) (fun c18 => ?_)
  · refine z_fgt (ls' := [mR 107, mN, mN]) ⟨.inr rfl, .inl rfl, .inl rfl, trivial⟩ ?_
    exact S_M_orderLine_164 hd  L17 
  · refine z_go (fun Q hq => x_aload_n (dA d_M_orderLine 72 rfl) rfl rfl hq) ?_
    refine z_bnd (rest := []) (st1 := fun v => mI v :: []) (S_M_isActive (d := 0) (Nat.le_refl _) L17 ) (fun _ hx => absurd hx List.not_mem_nil) (fun _ => rfl) (fun Q' Q => x_callV (as := []) (rest := []) (k' := k_M_isActive) (dA d_M_orderLine 73 rfl) o_M_isActive lk_M_506 im_M_isActive se_M_isActive rfl (L17.sh (x := (12, 66)) rfl) (by decide) (Nat.le_of_ble_eq_true rfl) (Nat.le_trans (Nat.le_of_ble_eq_true rfl) hd) (Nat.le_of_ble_eq_true rfl)) (fun x21 h19 e20 p22 => ?_)
    have L23 := L17.ext e20
    refine z_br (fun Q => x_if_eq (dA d_M_orderLine 74 rfl) rfl p22.inR) (fun c24 => ?_) (fun c24 => ?_)
    · refine z_fgt (ls' := [mR 107, mN, mN]) ⟨.inr rfl, .inl rfl, .inl rfl, trivial⟩ ?_
      exact S_M_orderLine_164 hd  L23 
    · refine z_go (fun Q hq => x_aload_n (dA d_M_orderLine 75 rfl) rfl rfl hq) ?_
      refine z_bnd (rest := []) (st1 := fun _ => []) (S_M_undefine (d := 3) (Nat.le_refl _) L23 ) (fun _ hx => absurd hx List.not_mem_nil) (fun _ => rfl) (fun Q' Q => x_callV (as := []) (rest := []) (k' := k_M_undefine) (dA d_M_orderLine 76 rfl) o_M_undefine lk_M_532 im_M_undefine se_M_undefine rfl (L23.sh (x := (12, 66)) rfl) (by decide) (Nat.le_of_ble_eq_true rfl) (Nat.le_trans (Nat.le_of_ble_eq_true rfl) hd) (Nat.le_of_ble_eq_true rfl)) (fun x27 h25 e26 p28 => ?_)
      have L29 := L23.ext e26
      refine z_go (fun Q hq => x_goto (dA d_M_orderLine 77 rfl) rfl hq) ?_
      exact z_retv (dA d_M_orderLine 88 rfl) rfl
noncomputable def F_M_orderLine_18 (s0 : Int64) (h : MH) : RS Unit := bnd (F_M_is s0 (26217 : Int64) h) fun x32 h30 => if x32 = 0 then bnd (F_M_is s0 (439787742825 : Int64) h30) fun x38 h36 => if x38 = 0 then bnd (F_M_is s0 (112585662686825 : Int64) h36) fun x44 h42 => if x44 = 0 then bnd (F_M_is s0 (1702063205 : Int64) h42) fun x50 h48 => if x50 = 0 then bnd (F_M_is s0 (439854853733 : Int64) h48) fun x56 h54 => if x56 = 0 then bnd (F_M_is s0 (111524889126244 : Int64) h54) fun x62 h60 => if x62 = 0 then F_M_orderLine_139 s0 h60 else bnd (F_M_isActive h60) fun x68 h66 => if x68 = 0 then F_M_orderLine_139 s0 h66 else bnd (F_M_defineName h66) fun x74 h72 => some (.inl (), h72) else bnd (F_M_turnOrEnd (0 : Int) h54) fun x79 h77 => some (.inl (), h77) else bnd (F_M_turnOrEnd (1 : Int) h48) fun x84 h82 => some (.inl (), h82) else bnd (F_M_beginLevel (2 : Int) h42) fun x89 h87 => some (.inl (), h87) else bnd (F_M_beginLevel (1 : Int) h36) fun x94 h92 => some (.inl (), h92) else bnd (F_M_beginLevel (0 : Int) h30) fun x99 h97 => some (.inl (), h97)
theorem S_M_orderLine_18 {d : Nat} (hd : 8 ≤ d) {s0 : Int64} {h : MH} (L : LayC h) : OK d k_M_orderLine 18 [mR 107, mN, mN] [mL s0] h cV pT (F_M_orderLine_18  s0 h) := by
  unfold F_M_orderLine_18
  refine z_go (fun Q hq => x_lstore_n (dA d_M_orderLine 10 rfl) rfl (by decide) rfl (x_aload_n (dA d_M_orderLine 11 rfl) rfl rfl (x_lload_n (dA d_M_orderLine 12 rfl) rfl rfl (x_ldc2 (dA d_M_orderLine 13 rfl) kl_M_512 hq)))) ?_
  refine z_bnd (rest := []) (st1 := fun v => mI v :: []) (S_M_is (d := 1) (Nat.le_refl _) L ) (fun _ hx => absurd hx List.not_mem_nil) (fun _ => rfl) (fun Q' Q => x_callV (as := [mL s0, mL (26217 : Int64)]) (rest := []) (k' := k_M_is) (dA d_M_orderLine 14 rfl) o_M_is lk_M_493 im_M_is se_M_is rfl (L.sh (x := (12, 66)) rfl) (by decide) (Nat.le_of_ble_eq_true rfl) (Nat.le_trans (Nat.le_of_ble_eq_true rfl) hd) (Nat.le_of_ble_eq_true rfl)) (fun x32 h30 e31 p33 => ?_)
  have L34 := L.ext e31
  refine z_br (fun Q => x_if_eq (dA d_M_orderLine 15 rfl) rfl p33.inR) (fun c35 => ?_) (fun c35 => ?_)
  · refine z_go (fun Q hq => x_aload_n (dA d_M_orderLine 20 rfl) rfl rfl (x_lload_n (dA d_M_orderLine 21 rfl) rfl rfl (x_ldc2 (dA d_M_orderLine 22 rfl) kl_M_271 hq))) ?_
    refine z_bnd (rest := []) (st1 := fun v => mI v :: []) (S_M_is (d := 1) (Nat.le_refl _) L34 ) (fun _ hx => absurd hx List.not_mem_nil) (fun _ => rfl) (fun Q' Q => x_callV (as := [mL s0, mL (439787742825 : Int64)]) (rest := []) (k' := k_M_is) (dA d_M_orderLine 23 rfl) o_M_is lk_M_493 im_M_is se_M_is rfl (L34.sh (x := (12, 66)) rfl) (by decide) (Nat.le_of_ble_eq_true rfl) (Nat.le_trans (Nat.le_of_ble_eq_true rfl) hd) (Nat.le_of_ble_eq_true rfl)) (fun x38 h36 e37 p39 => ?_)
    have L40 := L34.ext e37
    refine z_br (fun Q => x_if_eq (dA d_M_orderLine 24 rfl) rfl p39.inR) (fun c41 => ?_) (fun c41 => ?_)
    · refine z_go (fun Q hq => x_aload_n (dA d_M_orderLine 29 rfl) rfl rfl (x_lload_n (dA d_M_orderLine 30 rfl) rfl rfl (x_ldc2 (dA d_M_orderLine 31 rfl) kl_M_517 hq))) ?_
      refine z_bnd (rest := []) (st1 := fun v => mI v :: []) (S_M_is (d := 1) (Nat.le_refl _) L40 ) (fun _ hx => absurd hx List.not_mem_nil) (fun _ => rfl) (fun Q' Q => x_callV (as := [mL s0, mL (112585662686825 : Int64)]) (rest := []) (k' := k_M_is) (dA d_M_orderLine 32 rfl) o_M_is lk_M_493 im_M_is se_M_is rfl (L40.sh (x := (12, 66)) rfl) (by decide) (Nat.le_of_ble_eq_true rfl) (Nat.le_trans (Nat.le_of_ble_eq_true rfl) hd) (Nat.le_of_ble_eq_true rfl)) (fun x44 h42 e43 p45 => ?_)
      have L46 := L40.ext e43
      refine z_br (fun Q => x_if_eq (dA d_M_orderLine 33 rfl) rfl p45.inR) (fun c47 => ?_) (fun c47 => ?_)
      · refine z_go (fun Q hq => x_aload_n (dA d_M_orderLine 38 rfl) rfl rfl (x_lload_n (dA d_M_orderLine 39 rfl) rfl rfl (x_ldc2 (dA d_M_orderLine 40 rfl) kl_M_519 hq))) ?_
        refine z_bnd (rest := []) (st1 := fun v => mI v :: []) (S_M_is (d := 1) (Nat.le_refl _) L46 ) (fun _ hx => absurd hx List.not_mem_nil) (fun _ => rfl) (fun Q' Q => x_callV (as := [mL s0, mL (1702063205 : Int64)]) (rest := []) (k' := k_M_is) (dA d_M_orderLine 41 rfl) o_M_is lk_M_493 im_M_is se_M_is rfl (L46.sh (x := (12, 66)) rfl) (by decide) (Nat.le_of_ble_eq_true rfl) (Nat.le_trans (Nat.le_of_ble_eq_true rfl) hd) (Nat.le_of_ble_eq_true rfl)) (fun x50 h48 e49 p51 => ?_)
        have L52 := L46.ext e49
        refine z_br (fun Q => x_if_eq (dA d_M_orderLine 42 rfl) rfl p51.inR) (fun c53 => ?_) (fun c53 => ?_)
        · refine z_go (fun Q hq => x_aload_n (dA d_M_orderLine 47 rfl) rfl rfl (x_lload_n (dA d_M_orderLine 48 rfl) rfl rfl (x_ldc2 (dA d_M_orderLine 49 rfl) kl_M_525 hq))) ?_
          refine z_bnd (rest := []) (st1 := fun v => mI v :: []) (S_M_is (d := 1) (Nat.le_refl _) L52 ) (fun _ hx => absurd hx List.not_mem_nil) (fun _ => rfl) (fun Q' Q => x_callV (as := [mL s0, mL (439854853733 : Int64)]) (rest := []) (k' := k_M_is) (dA d_M_orderLine 50 rfl) o_M_is lk_M_493 im_M_is se_M_is rfl (L52.sh (x := (12, 66)) rfl) (by decide) (Nat.le_of_ble_eq_true rfl) (Nat.le_trans (Nat.le_of_ble_eq_true rfl) hd) (Nat.le_of_ble_eq_true rfl)) (fun x56 h54 e55 p57 => ?_)
          have L58 := L52.ext e55
          refine z_br (fun Q => x_if_eq (dA d_M_orderLine 51 rfl) rfl p57.inR) (fun c59 => ?_) (fun c59 => ?_)
          · refine z_go (fun Q hq => x_aload_n (dA d_M_orderLine 56 rfl) rfl rfl (x_lload_n (dA d_M_orderLine 57 rfl) rfl rfl (x_ldc2 (dA d_M_orderLine 58 rfl) kl_M_265 hq))) ?_
            refine z_bnd (rest := []) (st1 := fun v => mI v :: []) (S_M_is (d := 1) (Nat.le_refl _) L58 ) (fun _ hx => absurd hx List.not_mem_nil) (fun _ => rfl) (fun Q' Q => x_callV (as := [mL s0, mL (111524889126244 : Int64)]) (rest := []) (k' := k_M_is) (dA d_M_orderLine 59 rfl) o_M_is lk_M_493 im_M_is se_M_is rfl (L58.sh (x := (12, 66)) rfl) (by decide) (Nat.le_of_ble_eq_true rfl) (Nat.le_trans (Nat.le_of_ble_eq_true rfl) hd) (Nat.le_of_ble_eq_true rfl)) (fun x62 h60 e61 p63 => ?_)
            have L64 := L58.ext e61
            refine z_br (fun Q => x_if_eq (dA d_M_orderLine 60 rfl) rfl p63.inR) (fun c65 => ?_) (fun c65 => ?_)
            · exact S_M_orderLine_139 hd  L64 
            · refine z_go (fun Q hq => x_aload_n (dA d_M_orderLine 61 rfl) rfl rfl hq) ?_
              refine z_bnd (rest := []) (st1 := fun v => mI v :: []) (S_M_isActive (d := 0) (Nat.le_refl _) L64 ) (fun _ hx => absurd hx List.not_mem_nil) (fun _ => rfl) (fun Q' Q => x_callV (as := []) (rest := []) (k' := k_M_isActive) (dA d_M_orderLine 62 rfl) o_M_isActive lk_M_506 im_M_isActive se_M_isActive rfl (L64.sh (x := (12, 66)) rfl) (by decide) (Nat.le_of_ble_eq_true rfl) (Nat.le_trans (Nat.le_of_ble_eq_true rfl) hd) (Nat.le_of_ble_eq_true rfl)) (fun x68 h66 e67 p69 => ?_)
              have L70 := L64.ext e67
              refine z_br (fun Q => x_if_eq (dA d_M_orderLine 63 rfl) rfl p69.inR) (fun c71 => ?_) (fun c71 => ?_)
              · exact S_M_orderLine_139 hd  L70 
              · refine z_go (fun Q hq => x_aload_n (dA d_M_orderLine 64 rfl) rfl rfl hq) ?_
                refine z_bnd (rest := []) (st1 := fun _ => []) (S_M_defineName (d := 4) (Nat.le_refl _) L70 ) (fun _ hx => absurd hx List.not_mem_nil) (fun _ => rfl) (fun Q' Q => x_callV (as := []) (rest := []) (k' := k_M_defineName) (dA d_M_orderLine 65 rfl) o_M_defineName lk_M_527 im_M_defineName se_M_defineName rfl (L70.sh (x := (12, 66)) rfl) (by decide) (Nat.le_of_ble_eq_true rfl) (Nat.le_trans (Nat.le_of_ble_eq_true rfl) hd) (Nat.le_of_ble_eq_true rfl)) (fun x74 h72 e73 p75 => ?_)
                have L76 := L70.ext e73
                refine z_go (fun Q hq => x_goto (dA d_M_orderLine 66 rfl) rfl hq) ?_
                exact z_retv (dA d_M_orderLine 88 rfl) rfl
          · refine z_go (fun Q hq => x_aload_n (dA d_M_orderLine 52 rfl) rfl rfl (x_iconst (dA d_M_orderLine 53 rfl) hq)) ?_
            refine z_bnd (rest := []) (st1 := fun _ => []) (S_M_turnOrEnd (d := 2) (Nat.le_refl _) L58 (.inl rfl)) (fun _ hx => absurd hx List.not_mem_nil) (fun _ => rfl) (fun Q' Q => x_callV (as := [mI (0 : Int)]) (rest := []) (k' := k_M_turnOrEnd) (dA d_M_orderLine 54 rfl) o_M_turnOrEnd lk_M_521 im_M_turnOrEnd se_M_turnOrEnd rfl (L58.sh (x := (12, 66)) rfl) (by decide) (Nat.le_of_ble_eq_true rfl) (Nat.le_trans (Nat.le_of_ble_eq_true rfl) hd) (Nat.le_of_ble_eq_true rfl)) (fun x79 h77 e78 p80 => ?_)
            have L81 := L58.ext e78
            refine z_go (fun Q hq => x_goto (dA d_M_orderLine 55 rfl) rfl hq) ?_
            exact z_retv (dA d_M_orderLine 88 rfl) rfl
        · refine z_go (fun Q hq => x_aload_n (dA d_M_orderLine 43 rfl) rfl rfl (x_iconst (dA d_M_orderLine 44 rfl) hq)) ?_
          refine z_bnd (rest := []) (st1 := fun _ => []) (S_M_turnOrEnd (d := 2) (Nat.le_refl _) L52 (.inr rfl)) (fun _ hx => absurd hx List.not_mem_nil) (fun _ => rfl) (fun Q' Q => x_callV (as := [mI (1 : Int)]) (rest := []) (k' := k_M_turnOrEnd) (dA d_M_orderLine 45 rfl) o_M_turnOrEnd lk_M_521 im_M_turnOrEnd se_M_turnOrEnd rfl (L52.sh (x := (12, 66)) rfl) (by decide) (Nat.le_of_ble_eq_true rfl) (Nat.le_trans (Nat.le_of_ble_eq_true rfl) hd) (Nat.le_of_ble_eq_true rfl)) (fun x84 h82 e83 p85 => ?_)
          have L86 := L52.ext e83
          refine z_go (fun Q hq => x_goto (dA d_M_orderLine 46 rfl) rfl hq) ?_
          exact z_retv (dA d_M_orderLine 88 rfl) rfl
      · refine z_go (fun Q hq => x_aload_n (dA d_M_orderLine 34 rfl) rfl rfl (x_iconst (dA d_M_orderLine 35 rfl) hq)) ?_
        refine z_bnd (rest := []) (st1 := fun _ => []) (S_M_beginLevel (d := 7) (Nat.le_refl _) L46 (inR_lit (2 : Int) rfl)) (fun _ hx => absurd hx List.not_mem_nil) (fun _ => rfl) (fun Q' Q => x_callV (as := [mI (2 : Int)]) (rest := []) (k' := k_M_beginLevel) (dA d_M_orderLine 36 rfl) o_M_beginLevel lk_M_514 im_M_beginLevel se_M_beginLevel rfl (L46.sh (x := (12, 66)) rfl) (by decide) (Nat.le_of_ble_eq_true rfl) (Nat.le_trans (Nat.le_of_ble_eq_true rfl) hd) (Nat.le_of_ble_eq_true rfl)) (fun x89 h87 e88 p90 => ?_)
        have L91 := L46.ext e88
        refine z_go (fun Q hq => x_goto (dA d_M_orderLine 37 rfl) rfl hq) ?_
        exact z_retv (dA d_M_orderLine 88 rfl) rfl
    · refine z_go (fun Q hq => x_aload_n (dA d_M_orderLine 25 rfl) rfl rfl (x_iconst (dA d_M_orderLine 26 rfl) hq)) ?_
      refine z_bnd (rest := []) (st1 := fun _ => []) (S_M_beginLevel (d := 7) (Nat.le_refl _) L40 (inR_lit (1 : Int) rfl)) (fun _ hx => absurd hx List.not_mem_nil) (fun _ => rfl) (fun Q' Q => x_callV (as := [mI (1 : Int)]) (rest := []) (k' := k_M_beginLevel) (dA d_M_orderLine 27 rfl) o_M_beginLevel lk_M_514 im_M_beginLevel se_M_beginLevel rfl (L40.sh (x := (12, 66)) rfl) (by decide) (Nat.le_of_ble_eq_true rfl) (Nat.le_trans (Nat.le_of_ble_eq_true rfl) hd) (Nat.le_of_ble_eq_true rfl)) (fun x94 h92 e93 p95 => ?_)
      have L96 := L40.ext e93
      refine z_go (fun Q hq => x_goto (dA d_M_orderLine 28 rfl) rfl hq) ?_
      exact z_retv (dA d_M_orderLine 88 rfl) rfl
  · refine z_go (fun Q hq => x_aload_n (dA d_M_orderLine 16 rfl) rfl rfl (x_iconst (dA d_M_orderLine 17 rfl) hq)) ?_
    refine z_bnd (rest := []) (st1 := fun _ => []) (S_M_beginLevel (d := 7) (Nat.le_refl _) L34 (inR_lit (0 : Int) rfl)) (fun _ hx => absurd hx List.not_mem_nil) (fun _ => rfl) (fun Q' Q => x_callV (as := [mI (0 : Int)]) (rest := []) (k' := k_M_beginLevel) (dA d_M_orderLine 18 rfl) o_M_beginLevel lk_M_514 im_M_beginLevel se_M_beginLevel rfl (L34.sh (x := (12, 66)) rfl) (by decide) (Nat.le_of_ble_eq_true rfl) (Nat.le_trans (Nat.le_of_ble_eq_true rfl) hd) (Nat.le_of_ble_eq_true rfl)) (fun x99 h97 e98 p100 => ?_)
    have L101 := L34.ext e98
    refine z_go (fun Q hq => x_goto (dA d_M_orderLine 19 rfl) rfl hq) ?_
    exact z_retv (dA d_M_orderLine 88 rfl) rfl
noncomputable def F_M_orderLine (h : MH) : RS Unit := if (mGi h 107 29) ≤ (1 : Int) then F_M_orderLine_18 (0 : Int64) h else gd (0 ≤ (1 : Int) ∧ (1 : Int) < 400) (F_M_orderLine_18 (mGl h 123 (1 : Int).toNat) h)
theorem S_M_orderLine {d : Nat} (hd : 8 ≤ d) {h : MH} (L : LayC h) : OK d k_M_orderLine 0 [mR 107, mN, mN] [] h cV pT (F_M_orderLine   h) := by
  unfold F_M_orderLine
  refine z_go (fun Q hq => x_aload_n (dA d_M_orderLine 0 rfl) rfl rfl (x_getI (dA d_M_orderLine 1 rfl) f_M_340 (L.sh (x := (12, 66)) rfl) (by decide) (by decide) rfl (x_iconst (dA d_M_orderLine 2 rfl) hq))) ?_
  refine z_br (fun Q => x_icmp_le (dA d_M_orderLine 3 rfl) rfl (L.rg _ _) (inR_lit (1 : Int) rfl)) (fun c102 => ?_) (fun c102 => ?_)
  · refine z_go (fun Q hq => x_lconst (v := 0) (dA d_M_orderLine 9 rfl) rfl hq) ?_
    exact S_M_orderLine_18 hd  L 
  · refine z_go (fun Q hq => x_aload_n (dA d_M_orderLine 4 rfl) rfl rfl (x_getR (dA d_M_orderLine 5 rfl) f_M_57 (L.sh (x := (12, 66)) rfl) (by decide) (by decide) rfl (L.rf 124 rfl) (x_iconst (dA d_M_orderLine 6 rfl) hq))) ?_
    refine z_gd (fun g103 => ?_)
    refine z_go (fun Q hq => x_lald (dA d_M_orderLine 7 rfl) (L.sh (x := (103, 400)) rfl) g103.1 g103.2 (by decide) (x_goto (dA d_M_orderLine 8 rfl) rfl hq)) ?_
    exact S_M_orderLine_18 hd  L 
/-! TwoMillsModel.write(I)V -/
noncomputable def F_M_write (a1 : Int) (h : MH) : RS Unit := gd (0 ≤ a1 ∧ a1 < 65536) (gd (0 ≤ (mGi h 107 26) ∧ (mGi h 107 26) < 600) (sto (mPi h 122 (mGi h 107 26).toNat a1) fun h3 => gd (inR ((mGi h3 107 26) + (1 : Int))) (sto (mPi h3 107 26 ((mGi h3 107 26) + (1 : Int))) fun h7 => some (.inl (), h7))))
theorem S_M_write {d : Nat} (hd : 0 ≤ d) {a1 : Int} {h : MH} (L : LayC h) (ra1 : inR a1) : OK d k_M_write 0 [mR 107, mI a1] [] h cV pT (F_M_write  a1 h) := by
  unfold F_M_write
  refine z_go (fun Q hq => x_aload_n (dA d_M_write 0 rfl) rfl rfl (x_getR (dA d_M_write 1 rfl) f_M_54 (L.sh (x := (12, 66)) rfl) (by decide) (by decide) rfl (L.rf 123 rfl) (x_aload_n (dA d_M_write 2 rfl) rfl rfl (x_getI (dA d_M_write 3 rfl) f_M_535 (L.sh (x := (12, 66)) rfl) (by decide) (by decide) rfl (x_iload_n (dA d_M_write 4 rfl) rfl rfl hq))))) ?_
  refine z_gd (fun g1 => ?_)
  refine z_go (fun Q hq => x_i2c (dA d_M_write 5 rfl) g1.1 g1.2 hq) ?_
  refine z_gd (fun g2 => ?_)
  refine z_sto (Ext.pc g1.1 g1.2) (fun Q hq => x_cast (dA d_M_write 6 rfl) (L.sh (x := (101, 600)) rfl) g2.1 g2.2 (by decide) g1.1 g1.2 hq) (fun h3 e4 => ?_)
  have L5 := L.ext e4
  refine z_go (fun Q hq => x_aload_n (dA d_M_write 7 rfl) rfl rfl (x_dup (dA d_M_write 8 rfl) rfl (x_getI (dA d_M_write 9 rfl) f_M_535 (L5.sh (x := (12, 66)) rfl) (by decide) (by decide) rfl (x_iconst (dA d_M_write 10 rfl) hq)))) ?_
  refine z_gd (fun g6 => ?_)
  refine z_go (fun Q hq => x_iadd (dA d_M_write 11 rfl) hq) ?_
  refine z_sto (Ext.pi (L5.sh (x := (12, 66)) rfl) (by decide) g6) (fun Q hq => x_putI (dA d_M_write 12 rfl) p_M_535 (L5.sh (x := (12, 66)) rfl) (by decide) cl_M rfl hq) (fun h7 e8 => ?_)
  have L9 := L5.ext e8
  exact z_retv (dA d_M_write 13 rfl) rfl
/-! TwoMillsModel.writeLine()V -/
noncomputable def F_M_writeLine_126 (G62 : Int → Int → MH → RS Unit) (v1 : Int) (v3 : Int) (s1 : Int) (h : MH) : RS Unit := bnd (F_M_write s1 h) fun x3 h1 => gd (inR (v3 + (1 : Int))) (G62 v1 (v3 + (1 : Int)) h1)
theorem S_M_writeLine_126 {d : Nat} (hd : 2 ≤ d) {G62 : Int → Int → MH → RS Unit} (hG62 : ∀ (v1 : Int) (v3 : Int) (h : MH), LayC h → inR v1 → inR v3 → OK d k_M_writeLine 62 [mR 107, mI v1, mN, mI v3, mN] [] h cV pT (G62 v1 v3 h)) {v1 : Int} {v3 : Int} {s1 : Int} {h : MH} (L : LayC h) (rv1 : inR v1) (rv3 : inR v3) (rs1 : inR s1) : OK d k_M_writeLine 126 [mR 107, mI v1, mN, mI v3, mN] [mI s1, mR 107] h cV pT (F_M_writeLine_126 G62 v1 v3 s1 h) := by
  unfold F_M_writeLine_126
  refine z_bnd (rest := []) (st1 := fun _ => []) (S_M_write (d := 0) (Nat.le_refl _) L rs1) (fun _ hx => absurd hx List.not_mem_nil) (fun _ => rfl) (fun Q' Q => x_callV (as := [mI s1]) (rest := []) (k' := k_M_write) (dA d_M_writeLine 73 rfl) o_M_write lk_M_538 im_M_write se_M_write rfl (L.sh (x := (12, 66)) rfl) (by decide) (Nat.le_of_ble_eq_true rfl) (Nat.le_trans (Nat.le_of_ble_eq_true rfl) hd) (Nat.le_of_ble_eq_true rfl)) (fun x3 h1 e2 p4 => ?_)
  have L5 := L.ext e2
  refine z_gd (fun g6 => ?_)
  refine z_go (fun Q hq => x_iinc (dA d_M_writeLine 74 rfl) rfl (by decide) rfl (x_goto (dA d_M_writeLine 75 rfl) rfl hq)) ?_
  exact hG62 v1 (v3 + (1 : Int)) h1 L5 rv1 g6
noncomputable def F_M_writeLine_70_b (G62 : Int → Int → MH → RS Unit) (G70 : Int → Int → Int → MH → RS Unit) (v1 : Int) (v3 : Int) (v4 : Int) (h : MH) : RS Unit := gd (0 ≤ v3 ∧ v3 < 800) (bnd (F_M_sizeOf (mGl h 136 v3.toNat) h) fun x10 h8 => if x10 ≤ v4 then gd (inR (v3 + (1 : Int))) (if v1 ≤ (v3 + (1 : Int)) then F_M_writeLine_126 G62 v1 v3 (10 : Int) h8 else F_M_writeLine_126 G62 v1 v3 (32 : Int) h8) else bnd (F_M_placeOf (mGl h8 136 v3.toNat) h8) fun x18 h16 => gd (inR (x18 + v4)) (gd (0 ≤ (x18 + v4) ∧ (x18 + v4) < 1302) (bnd (F_M_write (mGi h16 121 (x18 + v4).toNat) h16) fun x25 h23 => gd (inR (v4 + (1 : Int))) (G70 v1 v3 (v4 + (1 : Int)) h23))))
theorem S_M_writeLine_70_b {d : Nat} (hd : 2 ≤ d) {G62 : Int → Int → MH → RS Unit} (hG62 : ∀ (v1 : Int) (v3 : Int) (h : MH), LayC h → inR v1 → inR v3 → OK d k_M_writeLine 62 [mR 107, mI v1, mN, mI v3, mN] [] h cV pT (G62 v1 v3 h)) {G70 : Int → Int → Int → MH → RS Unit} (hG70 : ∀ (v1 : Int) (v3 : Int) (v4 : Int) (h : MH), LayC h → inR v1 → inR v3 → inR v4 → OK d k_M_writeLine 70 [mR 107, mI v1, mN, mI v3, mI v4] [] h cV pT (G70 v1 v3 v4 h)) {v1 : Int} {v3 : Int} {v4 : Int} {h : MH} (L : LayC h) (rv1 : inR v1) (rv3 : inR v3) (rv4 : inR v4) : OK d k_M_writeLine 70 [mR 107, mI v1, mN, mI v3, mI v4] [] h cV pT (F_M_writeLine_70_b G62 G70 v1 v3 v4 h) := by
  unfold F_M_writeLine_70_b
  refine z_go (fun Q hq => x_iload (dA d_M_writeLine 43 rfl) rfl (x_aload_n (dA d_M_writeLine 44 rfl) rfl rfl (x_getR (dA d_M_writeLine 45 rfl) f_M_97 (L.sh (x := (12, 66)) rfl) (by decide) (by decide) rfl (L.rf 137 rfl) (x_iload_n (dA d_M_writeLine 46 rfl) rfl rfl hq)))) ?_
  refine z_gd (fun g7 => ?_)
  refine z_go (fun Q hq => x_lald (dA d_M_writeLine 47 rfl) (L.sh (x := (103, 800)) rfl) g7.1 g7.2 (by decide) hq) ?_
  refine z_bnd (rest := [mI v4]) (st1 := fun v => mI v :: [mI v4]) (S_M_sizeOf (d := 0) (Nat.le_refl _) L ) (fun _ hx => absurd hx List.not_mem_nil) (fun _ => rfl) (fun Q' Q => x_callS (as := [mL (mGl h 136 v3.toNat)]) (rest := [mI v4]) (k' := k_M_sizeOf) (dA d_M_writeLine 48 rfl) o_M_sizeOf lk_M_324 st_M_sizeOf (Nat.le_of_ble_eq_true rfl) (Nat.le_trans (Nat.le_of_ble_eq_true rfl) hd) (Nat.le_of_ble_eq_true rfl)) (fun x10 h8 e9 p11 => ?_)
  have L12 := L.ext e9
  refine z_br (fun Q => x_icmp_ge (dA d_M_writeLine 49 rfl) rfl rv4 p11) (fun c13 => ?_) (fun c13 => ?_)
  · refine z_go (fun Q hq => x_aload_n (dA d_M_writeLine 64 rfl) rfl rfl (x_iload_n (dA d_M_writeLine 65 rfl) rfl rfl (x_iconst (dA d_M_writeLine 66 rfl) hq))) ?_
    refine z_gd (fun g14 => ?_)
    refine z_go (fun Q hq => x_iadd (dA d_M_writeLine 67 rfl) (x_iload_n (dA d_M_writeLine 68 rfl) rfl rfl hq)) ?_
    refine z_br (fun Q => x_icmp_ge (dA d_M_writeLine 69 rfl) rfl g14 rv1) (fun c15 => ?_) (fun c15 => ?_)
    · refine z_go (fun Q hq => x_bipush (dA d_M_writeLine 72 rfl) (by decide) hq) ?_
      refine z_fgt (ls' := [mR 107, mI v1, mN, mI v3, mN]) ⟨.inr rfl, .inr rfl, .inl rfl, .inr rfl, .inl rfl, trivial⟩ ?_
      exact S_M_writeLine_126 hd hG62 L12 rv1 rv3 (inR_lit (10 : Int) rfl)
    · refine z_go (fun Q hq => x_bipush (dA d_M_writeLine 70 rfl) (by decide) (x_goto (dA d_M_writeLine 71 rfl) rfl hq)) ?_
      refine z_fgt (ls' := [mR 107, mI v1, mN, mI v3, mN]) ⟨.inr rfl, .inr rfl, .inl rfl, .inr rfl, .inl rfl, trivial⟩ ?_
      exact S_M_writeLine_126 hd hG62 L12 rv1 rv3 (inR_lit (32 : Int) rfl)
  · refine z_go (fun Q hq => x_aload_n (dA d_M_writeLine 50 rfl) rfl rfl (x_aload_n (dA d_M_writeLine 51 rfl) rfl rfl (x_getR (dA d_M_writeLine 52 rfl) f_M_51 (L12.sh (x := (12, 66)) rfl) (by decide) (by decide) rfl (L12.rf 122 rfl) (x_aload_n (dA d_M_writeLine 53 rfl) rfl rfl (x_getR (dA d_M_writeLine 54 rfl) f_M_97 (L12.sh (x := (12, 66)) rfl) (by decide) (by decide) rfl (L12.rf 137 rfl) (x_iload_n (dA d_M_writeLine 55 rfl) rfl rfl (x_lald (dA d_M_writeLine 56 rfl) (L12.sh (x := (103, 800)) rfl) g7.1 g7.2 (by decide) hq))))))) ?_
    refine z_bnd (rest := [mR 121, mR 107]) (st1 := fun v => mI v :: [mR 121, mR 107]) (S_M_placeOf (d := 0) (Nat.le_refl _) L12 ) (fun _ hx => absurd hx List.not_mem_nil) (fun _ => rfl) (fun Q' Q => x_callS (as := [mL (mGl h8 136 v3.toNat)]) (rest := [mR 121, mR 107]) (k' := k_M_placeOf) (dA d_M_writeLine 57 rfl) o_M_placeOf lk_M_327 st_M_placeOf (Nat.le_of_ble_eq_true rfl) (Nat.le_trans (Nat.le_of_ble_eq_true rfl) hd) (Nat.le_of_ble_eq_true rfl)) (fun x18 h16 e17 p19 => ?_)
    have L20 := L12.ext e17
    refine z_go (fun Q hq => x_iload (dA d_M_writeLine 58 rfl) rfl hq) ?_
    refine z_gd (fun g21 => ?_)
    refine z_go (fun Q hq => x_iadd (dA d_M_writeLine 59 rfl) hq) ?_
    refine z_gd (fun g22 => ?_)
    refine z_go (fun Q hq => x_cald (dA d_M_writeLine 60 rfl) (L20.sh (x := (101, 1302)) rfl) g22.1 g22.2 (by decide) hq) ?_
    refine z_bnd (rest := []) (st1 := fun _ => []) (S_M_write (d := 0) (Nat.le_refl _) L20 (L20.rg _ _)) (fun _ hx => absurd hx List.not_mem_nil) (fun _ => rfl) (fun Q' Q => x_callV (as := [mI (mGi h16 121 (x18 + v4).toNat)]) (rest := []) (k' := k_M_write) (dA d_M_writeLine 61 rfl) o_M_write lk_M_538 im_M_write se_M_write rfl (L20.sh (x := (12, 66)) rfl) (by decide) (Nat.le_of_ble_eq_true rfl) (Nat.le_trans (Nat.le_of_ble_eq_true rfl) hd) (Nat.le_of_ble_eq_true rfl)) (fun x25 h23 e24 p26 => ?_)
    have L27 := L20.ext e24
    refine z_gd (fun g28 => ?_)
    refine z_go (fun Q hq => x_iinc (dA d_M_writeLine 62 rfl) rfl (by decide) rfl (x_goto (dA d_M_writeLine 63 rfl) rfl hq)) ?_
    exact hG70 v1 v3 (v4 + (1 : Int)) h23 L27 rv1 rv3 g28
noncomputable def F_M_writeLine_70 (G62 : Int → Int → MH → RS Unit) (v1 : Int) (v3 : Int) (v4 : Int) (h : MH) : RS Unit := itr (fun self (q : Int × Int × Int × MH) => F_M_writeLine_70_b G62 (fun v1 v3 v4 h => self (v1, v3, v4, h)) q.1 q.2.1 q.2.2.1 q.2.2.2) FU (v1, v3, v4, h)
theorem S_M_writeLine_70 {d : Nat} (hd : 2 ≤ d) {G62 : Int → Int → MH → RS Unit} (hG62 : ∀ (v1 : Int) (v3 : Int) (h : MH), LayC h → inR v1 → inR v3 → OK d k_M_writeLine 62 [mR 107, mI v1, mN, mI v3, mN] [] h cV pT (G62 v1 v3 h)) {v1 : Int} {v3 : Int} {v4 : Int} {h : MH} (L : LayC h) (rv1 : inR v1) (rv3 : inR v3) (rv4 : inR v4) : OK d k_M_writeLine 70 [mR 107, mI v1, mN, mI v3, mI v4] [] h cV pT (F_M_writeLine_70 G62 v1 v3 v4 h) := by
  unfold F_M_writeLine_70
  refine z_itr (P := fun q : Int × Int × Int × MH => LayC q.2.2.2 ∧ inR q.1 ∧ inR q.2.1 ∧ inR q.2.2.1 ∧ True) (ls := fun q : Int × Int × Int × MH => [mR 107, mI q.1, mN, mI q.2.1, mI q.2.2.1]) (hp := fun q : Int × Int × Int × MH => q.2.2.2) (fun self hs q hq => ?_) FU (v1, v3, v4, h) ⟨L, rv1, rv3, rv4, trivial⟩
  exact S_M_writeLine_70_b hd hG62 (fun v1 v3 v4 h L rv1 rv3 rv4 => hs (v1, v3, v4, h) ⟨L, rv1, rv3, rv4, trivial⟩) hq.1 hq.2.1 hq.2.2.1 hq.2.2.2.1
noncomputable def F_M_writeLine_62_b (G62 : Int → Int → MH → RS Unit) (v1 : Int) (v3 : Int) (h : MH) : RS Unit := if v1 ≤ v3 then some (.inl (), h) else F_M_writeLine_70 G62 v1 v3 (0 : Int) h
theorem S_M_writeLine_62_b {d : Nat} (hd : 2 ≤ d) {G62 : Int → Int → MH → RS Unit} (hG62 : ∀ (v1 : Int) (v3 : Int) (h : MH), LayC h → inR v1 → inR v3 → OK d k_M_writeLine 62 [mR 107, mI v1, mN, mI v3, mN] [] h cV pT (G62 v1 v3 h)) {v1 : Int} {v3 : Int} {h : MH} (L : LayC h) (rv1 : inR v1) (rv3 : inR v3) : OK d k_M_writeLine 62 [mR 107, mI v1, mN, mI v3, mN] [] h cV pT (F_M_writeLine_62_b G62 v1 v3 h) := by
  unfold F_M_writeLine_62_b
  refine z_go (fun Q hq => x_iload_n (dA d_M_writeLine 38 rfl) rfl rfl (x_iload_n (dA d_M_writeLine 39 rfl) rfl rfl hq)) ?_
  refine z_br (fun Q => x_icmp_ge (dA d_M_writeLine 40 rfl) rfl rv3 rv1) (fun c29 => ?_) (fun c29 => ?_)
  · exact z_retv (dA d_M_writeLine 76 rfl) rfl
  · refine z_go (fun Q hq => x_iconst (dA d_M_writeLine 41 rfl) (x_istore (dA d_M_writeLine 42 rfl) (by decide) rfl hq)) ?_
    exact S_M_writeLine_70 hd hG62 L rv1 rv3 (inR_lit (0 : Int) rfl)
noncomputable def F_M_writeLine_62 (v1 : Int) (v3 : Int) (h : MH) : RS Unit := itr (fun self (q : Int × Int × MH) => F_M_writeLine_62_b (fun v1 v3 h => self (v1, v3, h)) q.1 q.2.1 q.2.2) FU (v1, v3, h)
theorem S_M_writeLine_62 {d : Nat} (hd : 2 ≤ d) {v1 : Int} {v3 : Int} {h : MH} (L : LayC h) (rv1 : inR v1) (rv3 : inR v3) : OK d k_M_writeLine 62 [mR 107, mI v1, mN, mI v3, mN] [] h cV pT (F_M_writeLine_62  v1 v3 h) := by
  unfold F_M_writeLine_62
  refine z_itr (P := fun q : Int × Int × MH => LayC q.2.2 ∧ inR q.1 ∧ inR q.2.1 ∧ True) (ls := fun q : Int × Int × MH => [mR 107, mI q.1, mN, mI q.2.1, mN]) (hp := fun q : Int × Int × MH => q.2.2) (fun self hs q hq => ?_) FU (v1, v3, h) ⟨L, rv1, rv3, trivial⟩
  exact S_M_writeLine_62_b hd (fun v1 v3 h L rv1 rv3 => hs (v1, v3, h) ⟨L, rv1, rv3, trivial⟩) hq.1 hq.2.1 hq.2.2.1
noncomputable def F_M_writeLine_52 (v1 : Int) (s1 : Int) (h : MH) : RS Unit := gd (p01 s1) (bnd (F_M_need s1 (1 : Int) h) fun x33 h31 => if x33 = 0 then some (.inl (), h31) else F_M_writeLine_62 v1 (0 : Int) h31)
theorem S_M_writeLine_52 {d : Nat} (hd : 2 ≤ d) {v1 : Int} {s1 : Int} {h : MH} (L : LayC h) (rv1 : inR v1) (rs1 : inR s1) : OK d k_M_writeLine 52 [mR 107, mI v1, mN, mN, mN] [mI s1, mR 107] h cV pT (F_M_writeLine_52  v1 s1 h) := by
  unfold F_M_writeLine_52
  refine z_go (fun Q hq => x_iconst (dA d_M_writeLine 32 rfl) hq) ?_
  refine z_gd (fun g30 => ?_)
  refine z_bnd (rest := []) (st1 := fun v => mI v :: []) (S_M_need (d := 1) (Nat.le_refl _) L g30 (inR_lit (1 : Int) rfl)) (fun _ hx => absurd hx List.not_mem_nil) (fun _ => rfl) (fun Q' Q => x_callV (as := [mI s1, mI (1 : Int)]) (rest := []) (k' := k_M_need) (dA d_M_writeLine 33 rfl) o_M_need lk_M_181 im_M_need se_M_need rfl (L.sh (x := (12, 66)) rfl) (by decide) (Nat.le_of_ble_eq_true rfl) (Nat.le_trans (Nat.le_of_ble_eq_true rfl) hd) (Nat.le_of_ble_eq_true rfl)) (fun x33 h31 e32 p34 => ?_)
  have L35 := L.ext e32
  refine z_brn (fun Q => x_if_ne (dA d_M_writeLine 34 rfl) rfl p34.inR) (fun c36 => ?_) (fun c36 => ?_)
  · exact z_retv (dA d_M_writeLine 35 rfl) rfl
  · refine z_go (fun Q hq => x_iconst (dA d_M_writeLine 36 rfl) (x_istore_n (dA d_M_writeLine 37 rfl) rfl (by decide) rfl hq)) ?_
    exact S_M_writeLine_62 hd  L35 rv1 (inR_lit (0 : Int) rfl)
noncomputable def F_M_writeLine_11_b (G11 : Int → Int → Int → MH → RS Unit) (v1 : Int) (v2 : Int) (v3 : Int) (h : MH) : RS Unit := if v1 ≤ v3 then gd (inR ((mGi h 107 26) + v2)) (if (600 : Int) < ((mGi h 107 26) + v2) then F_M_writeLine_52 v1 (0 : Int) h else F_M_writeLine_52 v1 (1 : Int) h) else gd (0 ≤ v3 ∧ v3 < 800) (bnd (F_M_sizeOf (mGl h 136 v3.toNat) h) fun x43 h41 => gd (inR (v2 + x43)) (gd (inR (v3 + (1 : Int))) (G11 v1 (v2 + x43) (v3 + (1 : Int)) h41)))
theorem S_M_writeLine_11_b {d : Nat} (hd : 2 ≤ d) {G11 : Int → Int → Int → MH → RS Unit} (hG11 : ∀ (v1 : Int) (v2 : Int) (v3 : Int) (h : MH), LayC h → inR v1 → inR v2 → inR v3 → OK d k_M_writeLine 11 [mR 107, mI v1, mI v2, mI v3, mN] [] h cV pT (G11 v1 v2 v3 h)) {v1 : Int} {v2 : Int} {v3 : Int} {h : MH} (L : LayC h) (rv1 : inR v1) (rv2 : inR v2) (rv3 : inR v3) : OK d k_M_writeLine 11 [mR 107, mI v1, mI v2, mI v3, mN] [] h cV pT (F_M_writeLine_11_b G11 v1 v2 v3 h) := by
  unfold F_M_writeLine_11_b
  refine z_go (fun Q hq => x_iload_n (dA d_M_writeLine 9 rfl) rfl rfl (x_iload_n (dA d_M_writeLine 10 rfl) rfl rfl hq)) ?_
  refine z_br (fun Q => x_icmp_ge (dA d_M_writeLine 11 rfl) rfl rv3 rv1) (fun c37 => ?_) (fun c37 => ?_)
  · refine z_go (fun Q hq => x_aload_n (dA d_M_writeLine 22 rfl) rfl rfl (x_aload_n (dA d_M_writeLine 23 rfl) rfl rfl (x_getI (dA d_M_writeLine 24 rfl) f_M_535 (L.sh (x := (12, 66)) rfl) (by decide) (by decide) rfl (x_iload_n (dA d_M_writeLine 25 rfl) rfl rfl hq)))) ?_
    refine z_gd (fun g38 => ?_)
    refine z_go (fun Q hq => x_iadd (dA d_M_writeLine 26 rfl) (x_sipush (dA d_M_writeLine 27 rfl) (by decide) hq)) ?_
    refine z_br (fun Q => x_icmp_gt (dA d_M_writeLine 28 rfl) rfl g38 (inR_lit (600 : Int) rfl)) (fun c39 => ?_) (fun c39 => ?_)
    · refine z_go (fun Q hq => x_iconst (dA d_M_writeLine 31 rfl) hq) ?_
      refine z_fgt (ls' := [mR 107, mI v1, mN, mN, mN]) ⟨.inr rfl, .inr rfl, .inl rfl, .inl rfl, .inl rfl, trivial⟩ ?_
      exact S_M_writeLine_52 hd  L rv1 (inR_lit (0 : Int) rfl)
    · refine z_go (fun Q hq => x_iconst (dA d_M_writeLine 29 rfl) (x_goto (dA d_M_writeLine 30 rfl) rfl hq)) ?_
      refine z_fgt (ls' := [mR 107, mI v1, mN, mN, mN]) ⟨.inr rfl, .inr rfl, .inl rfl, .inl rfl, .inl rfl, trivial⟩ ?_
      exact S_M_writeLine_52 hd  L rv1 (inR_lit (1 : Int) rfl)
  · refine z_go (fun Q hq => x_iload_n (dA d_M_writeLine 12 rfl) rfl rfl (x_aload_n (dA d_M_writeLine 13 rfl) rfl rfl (x_getR (dA d_M_writeLine 14 rfl) f_M_97 (L.sh (x := (12, 66)) rfl) (by decide) (by decide) rfl (L.rf 137 rfl) (x_iload_n (dA d_M_writeLine 15 rfl) rfl rfl hq)))) ?_
    refine z_gd (fun g40 => ?_)
    refine z_go (fun Q hq => x_lald (dA d_M_writeLine 16 rfl) (L.sh (x := (103, 800)) rfl) g40.1 g40.2 (by decide) hq) ?_
    refine z_bnd (rest := [mI v2]) (st1 := fun v => mI v :: [mI v2]) (S_M_sizeOf (d := 0) (Nat.le_refl _) L ) (fun _ hx => absurd hx List.not_mem_nil) (fun _ => rfl) (fun Q' Q => x_callS (as := [mL (mGl h 136 v3.toNat)]) (rest := [mI v2]) (k' := k_M_sizeOf) (dA d_M_writeLine 17 rfl) o_M_sizeOf lk_M_324 st_M_sizeOf (Nat.le_of_ble_eq_true rfl) (Nat.le_trans (Nat.le_of_ble_eq_true rfl) hd) (Nat.le_of_ble_eq_true rfl)) (fun x43 h41 e42 p44 => ?_)
    have L45 := L.ext e42
    refine z_gd (fun g46 => ?_)
    refine z_go (fun Q hq => x_iadd (dA d_M_writeLine 18 rfl) (x_istore_n (dA d_M_writeLine 19 rfl) rfl (by decide) rfl hq)) ?_
    refine z_gd (fun g47 => ?_)
    refine z_go (fun Q hq => x_iinc (dA d_M_writeLine 20 rfl) rfl (by decide) rfl (x_goto (dA d_M_writeLine 21 rfl) rfl hq)) ?_
    exact hG11 v1 (v2 + x43) (v3 + (1 : Int)) h41 L45 rv1 g46 g47
noncomputable def F_M_writeLine_11 (v1 : Int) (v2 : Int) (v3 : Int) (h : MH) : RS Unit := itr (fun self (q : Int × Int × Int × MH) => F_M_writeLine_11_b (fun v1 v2 v3 h => self (v1, v2, v3, h)) q.1 q.2.1 q.2.2.1 q.2.2.2) FU (v1, v2, v3, h)
theorem S_M_writeLine_11 {d : Nat} (hd : 2 ≤ d) {v1 : Int} {v2 : Int} {v3 : Int} {h : MH} (L : LayC h) (rv1 : inR v1) (rv2 : inR v2) (rv3 : inR v3) : OK d k_M_writeLine 11 [mR 107, mI v1, mI v2, mI v3, mN] [] h cV pT (F_M_writeLine_11  v1 v2 v3 h) := by
  unfold F_M_writeLine_11
  refine z_itr (P := fun q : Int × Int × Int × MH => LayC q.2.2.2 ∧ inR q.1 ∧ inR q.2.1 ∧ inR q.2.2.1 ∧ True) (ls := fun q : Int × Int × Int × MH => [mR 107, mI q.1, mI q.2.1, mI q.2.2.1, mN]) (hp := fun q : Int × Int × Int × MH => q.2.2.2) (fun self hs q hq => ?_) FU (v1, v2, v3, h) ⟨L, rv1, rv2, rv3, trivial⟩
  exact S_M_writeLine_11_b hd (fun v1 v2 v3 h L rv1 rv2 rv3 => hs (v1, v2, v3, h) ⟨L, rv1, rv2, rv3, trivial⟩) hq.1 hq.2.1 hq.2.2.1 hq.2.2.2.1
noncomputable def F_M_writeLine (h : MH) : RS Unit := gd (0 ≤ (0 : Int) ∧ (0 : Int) < 8) (F_M_writeLine_11 (mGi h 141 (0 : Int).toNat) (mGi h 141 (0 : Int).toNat) (0 : Int) h)
theorem S_M_writeLine {d : Nat} (hd : 2 ≤ d) {h : MH} (L : LayC h) : OK d k_M_writeLine 0 [mR 107, mN, mN, mN, mN] [] h cV pT (F_M_writeLine   h) := by
  unfold F_M_writeLine
  refine z_go (fun Q hq => x_aload_n (dA d_M_writeLine 0 rfl) rfl rfl (x_getR (dA d_M_writeLine 1 rfl) f_M_112 (L.sh (x := (12, 66)) rfl) (by decide) (by decide) rfl (L.rf 142 rfl) (x_iconst (dA d_M_writeLine 2 rfl) hq))) ?_
  refine z_gd (fun g48 => ?_)
  refine z_go (fun Q hq => x_iald (dA d_M_writeLine 3 rfl) (L.sh (x := (100, 8)) rfl) g48.1 g48.2 (by decide) (x_istore_n (dA d_M_writeLine 4 rfl) rfl (by decide) rfl (x_iload_n (dA d_M_writeLine 5 rfl) rfl rfl (x_istore_n (dA d_M_writeLine 6 rfl) rfl (by decide) rfl (x_iconst (dA d_M_writeLine 7 rfl) (x_istore_n (dA d_M_writeLine 8 rfl) rfl (by decide) rfl hq)))))) ?_
  exact S_M_writeLine_11 hd  L (L.rg _ _) (L.rg _ _) (inR_lit (0 : Int) rfl)
/-! TwoMillsModel.mill(II)V -/
noncomputable def F_M_mill (a1 : Int) (a2 : Int) (h : MH) : RS Unit := bnd (F_M_takeLine a1 a2 h) fun x3 h1 => bnd (F_M_isSignAt (0 : Int) (35 : Int) h1) fun x8 h6 => if x8 = 0 then bnd (F_M_isActive h6) fun x14 h12 => if x14 = 0 then some (.inl (), h12) else bnd (F_M_expand (0 : Int) (mGi h12 107 29) h12) fun x20 h18 => if (mGi h18 107 1) = 0 then bnd (F_M_writeLine h18) fun x26 h24 => some (.inl (), h24) else some (.inl (), h18) else bnd (F_M_orderLine h6) fun x31 h29 => some (.inl (), h29)
theorem S_M_mill {d : Nat} (hd : 9 ≤ d) {a1 : Int} {a2 : Int} {h : MH} (L : LayC h) (ra1 : inR a1) (ra2 : inR a2) : OK d k_M_mill 0 [mR 107, mI a1, mI a2] [] h cV pT (F_M_mill  a1 a2 h) := by
  unfold F_M_mill
  refine z_go (fun Q hq => x_aload_n (dA d_M_mill 0 rfl) rfl rfl (x_iload_n (dA d_M_mill 1 rfl) rfl rfl (x_iload_n (dA d_M_mill 2 rfl) rfl rfl hq))) ?_
  refine z_bnd (rest := []) (st1 := fun _ => []) (S_M_takeLine (d := 3) (Nat.le_refl _) L ra1 ra2) (fun _ hx => absurd hx List.not_mem_nil) (fun _ => rfl) (fun Q' Q => x_callV (as := [mI a1, mI a2]) (rest := []) (k' := k_M_takeLine) (dA d_M_mill 3 rfl) o_M_takeLine lk_M_541 im_M_takeLine se_M_takeLine rfl (L.sh (x := (12, 66)) rfl) (by decide) (Nat.le_of_ble_eq_true rfl) (Nat.le_trans (Nat.le_of_ble_eq_true rfl) hd) (Nat.le_of_ble_eq_true rfl)) (fun x3 h1 e2 p4 => ?_)
  have L5 := L.ext e2
  refine z_go (fun Q hq => x_aload_n (dA d_M_mill 4 rfl) rfl rfl (x_iconst (dA d_M_mill 5 rfl) (x_bipush (dA d_M_mill 6 rfl) (by decide) hq))) ?_
  refine z_bnd (rest := []) (st1 := fun v => mI v :: []) (S_M_isSignAt (d := 2) (Nat.le_refl _) L5 (inR_lit (0 : Int) rfl) (inR_lit (35 : Int) rfl)) (fun _ hx => absurd hx List.not_mem_nil) (fun _ => rfl) (fun Q' Q => x_callV (as := [mI (0 : Int), mI (35 : Int)]) (rest := []) (k' := k_M_isSignAt) (dA d_M_mill 7 rfl) o_M_isSignAt lk_M_358 im_M_isSignAt se_M_isSignAt rfl (L5.sh (x := (12, 66)) rfl) (by decide) (Nat.le_of_ble_eq_true rfl) (Nat.le_trans (Nat.le_of_ble_eq_true rfl) hd) (Nat.le_of_ble_eq_true rfl)) (fun x8 h6 e7 p9 => ?_)
  have L10 := L5.ext e7
  refine z_br (fun Q => x_if_eq (dA d_M_mill 8 rfl) rfl p9.inR) (fun c11 => ?_) (fun c11 => ?_)
  · refine z_go (fun Q hq => x_aload_n (dA d_M_mill 12 rfl) rfl rfl hq) ?_
    refine z_bnd (rest := []) (st1 := fun v => mI v :: []) (S_M_isActive (d := 0) (Nat.le_refl _) L10 ) (fun _ hx => absurd hx List.not_mem_nil) (fun _ => rfl) (fun Q' Q => x_callV (as := []) (rest := []) (k' := k_M_isActive) (dA d_M_mill 13 rfl) o_M_isActive lk_M_506 im_M_isActive se_M_isActive rfl (L10.sh (x := (12, 66)) rfl) (by decide) (Nat.le_of_ble_eq_true rfl) (Nat.le_trans (Nat.le_of_ble_eq_true rfl) hd) (Nat.le_of_ble_eq_true rfl)) (fun x14 h12 e13 p15 => ?_)
    have L16 := L10.ext e13
    refine z_br (fun Q => x_if_eq (dA d_M_mill 14 rfl) rfl p15.inR) (fun c17 => ?_) (fun c17 => ?_)
    · exact z_retv (dA d_M_mill 25 rfl) rfl
    · refine z_go (fun Q hq => x_aload_n (dA d_M_mill 15 rfl) rfl rfl (x_iconst (dA d_M_mill 16 rfl) (x_aload_n (dA d_M_mill 17 rfl) rfl rfl (x_getI (dA d_M_mill 18 rfl) f_M_340 (L16.sh (x := (12, 66)) rfl) (by decide) (by decide) rfl hq)))) ?_
      refine z_bnd (rest := []) (st1 := fun _ => []) (S_M_expand (d := 5) (Nat.le_refl _) L16 (inR_lit (0 : Int) rfl) (L16.rg _ _)) (fun _ hx => absurd hx List.not_mem_nil) (fun _ => rfl) (fun Q' Q => x_callV (as := [mI (0 : Int), mI (mGi h12 107 29)]) (rest := []) (k' := k_M_expand) (dA d_M_mill 19 rfl) o_M_expand lk_M_496 im_M_expand se_M_expand rfl (L16.sh (x := (12, 66)) rfl) (by decide) (Nat.le_of_ble_eq_true rfl) (Nat.le_trans (Nat.le_of_ble_eq_true rfl) hd) (Nat.le_of_ble_eq_true rfl)) (fun x20 h18 e19 p21 => ?_)
      have L22 := L16.ext e19
      refine z_go (fun Q hq => x_aload_n (dA d_M_mill 20 rfl) rfl rfl (x_getI (dA d_M_mill 21 rfl) f_M_140 (L22.sh (x := (12, 66)) rfl) (by decide) (by decide) rfl hq)) ?_
      refine z_brn (fun Q => x_if_ne (dA d_M_mill 22 rfl) rfl (L22.rg _ _)) (fun c23 => ?_) (fun c23 => ?_)
      · refine z_go (fun Q hq => x_aload_n (dA d_M_mill 23 rfl) rfl rfl hq) ?_
        refine z_bnd (rest := []) (st1 := fun _ => []) (S_M_writeLine (d := 2) (Nat.le_refl _) L22 ) (fun _ hx => absurd hx List.not_mem_nil) (fun _ => rfl) (fun Q' Q => x_callV (as := []) (rest := []) (k' := k_M_writeLine) (dA d_M_mill 24 rfl) o_M_writeLine lk_M_547 im_M_writeLine se_M_writeLine rfl (L22.sh (x := (12, 66)) rfl) (by decide) (Nat.le_of_ble_eq_true rfl) (Nat.le_trans (Nat.le_of_ble_eq_true rfl) hd) (Nat.le_of_ble_eq_true rfl)) (fun x26 h24 e25 p27 => ?_)
        have L28 := L22.ext e25
        exact z_retv (dA d_M_mill 25 rfl) rfl
      · exact z_retv (dA d_M_mill 25 rfl) rfl
  · refine z_go (fun Q hq => x_aload_n (dA d_M_mill 9 rfl) rfl rfl hq) ?_
    refine z_bnd (rest := []) (st1 := fun _ => []) (S_M_orderLine (d := 8) (Nat.le_refl _) L10 ) (fun _ hx => absurd hx List.not_mem_nil) (fun _ => rfl) (fun Q' Q => x_callV (as := []) (rest := []) (k' := k_M_orderLine) (dA d_M_mill 10 rfl) o_M_orderLine lk_M_544 im_M_orderLine se_M_orderLine rfl (L10.sh (x := (12, 66)) rfl) (by decide) (Nat.le_of_ble_eq_true rfl) (Nat.le_trans (Nat.le_of_ble_eq_true rfl) hd) (Nat.le_of_ble_eq_true rfl)) (fun x31 h29 e30 p32 => ?_)
    have L33 := L10.ext e30
    refine z_go (fun Q hq => x_goto (dA d_M_mill 11 rfl) rfl hq) ?_
    exact z_retv (dA d_M_mill 25 rfl) rfl
/-! TwoMillsModel.second()I -/
noncomputable def F_M_second_200 (v4 : Int) (s1 : Int) (h : MH) : RS Int := sto (mPi h 107 27 s1) fun h1 => if v4 = 0 then bnd (F_M_refuse (1 : Int) h1) fun x7 h5 => some (.inl x7, h5) else some (.inl (mGi h1 107 26), h1)
theorem S_M_second_200 {d : Nat} (hd : 10 ≤ d) {v4 : Int} {s1 : Int} {h : MH} (L : LayC h) (rv4 : inR v4) (rs1 : inR s1) : OK d k_M_second 200 [mR 107, mN, mN, mN, mI v4] [mI s1, mR 107] h cI inR (F_M_second_200  v4 s1 h) := by
  unfold F_M_second_200
  refine z_sto (Ext.pi (L.sh (x := (12, 66)) rfl) (by decide) rs1) (fun Q hq => x_putI (dA d_M_second 114 rfl) p_M_143 (L.sh (x := (12, 66)) rfl) (by decide) cl_M rfl hq) (fun h1 e2 => ?_)
  have L3 := L.ext e2
  refine z_go (fun Q hq => x_iload (dA d_M_second 115 rfl) rfl hq) ?_
  refine z_br (fun Q => x_if_eq (dA d_M_second 116 rfl) rfl rv4) (fun c4 => ?_) (fun c4 => ?_)
  · refine z_go (fun Q hq => x_aload_n (dA d_M_second 120 rfl) rfl rfl (x_iconst (dA d_M_second 121 rfl) hq)) ?_
    refine z_bnd (rest := []) (st1 := fun v => mI v :: []) (S_M_refuse (d := 0) (Nat.le_refl _) L3 (inR_lit (1 : Int) rfl)) (fun _ hx => absurd hx List.not_mem_nil) (fun _ => rfl) (fun Q' Q => x_callV (as := [mI (1 : Int)]) (rest := []) (k' := k_M_refuse) (dA d_M_second 122 rfl) o_M_refuse lk_M_313 im_M_refuse se_M_refuse rfl (L3.sh (x := (12, 66)) rfl) (by decide) (Nat.le_of_ble_eq_true rfl) (Nat.le_trans (Nat.le_of_ble_eq_true rfl) hd) (Nat.le_of_ble_eq_true rfl)) (fun x7 h5 e6 p8 => ?_)
    have L9 := L3.ext e6
    exact z_reti (dA d_M_second 123 rfl) rfl p8
  · refine z_go (fun Q hq => x_aload_n (dA d_M_second 117 rfl) rfl rfl (x_getI (dA d_M_second 118 rfl) f_M_535 (L3.sh (x := (12, 66)) rfl) (by decide) (by decide) rfl (x_goto (dA d_M_second 119 rfl) rfl hq))) ?_
    exact z_reti (dA d_M_second 123 rfl) rfl (L3.rg _ _)
noncomputable def F_M_second_182 (v2 : Int) (s1 : Int) (h : MH) : RS Int := gd (p01 s1) (bnd (F_M_need s1 (10 : Int) h) fun x13 h11 => if x13 = 0 then F_M_second_200 x13 v2 h11 else F_M_second_200 x13 (0 : Int) h11)
theorem S_M_second_182 {d : Nat} (hd : 10 ≤ d) {v2 : Int} {s1 : Int} {h : MH} (L : LayC h) (rv2 : inR v2) (rs1 : inR s1) : OK d k_M_second 182 [mR 107, mN, mI v2, mN, mN] [mI s1, mR 107] h cI inR (F_M_second_182  v2 s1 h) := by
  unfold F_M_second_182
  refine z_go (fun Q hq => x_bipush (dA d_M_second 105 rfl) (by decide) hq) ?_
  refine z_gd (fun g10 => ?_)
  refine z_bnd (rest := []) (st1 := fun v => mI v :: []) (S_M_need (d := 1) (Nat.le_refl _) L g10 (inR_lit (10 : Int) rfl)) (fun _ hx => absurd hx List.not_mem_nil) (fun _ => rfl) (fun Q' Q => x_callV (as := [mI s1, mI (10 : Int)]) (rest := []) (k' := k_M_need) (dA d_M_second 106 rfl) o_M_need lk_M_181 im_M_need se_M_need rfl (L.sh (x := (12, 66)) rfl) (by decide) (Nat.le_of_ble_eq_true rfl) (Nat.le_trans (Nat.le_of_ble_eq_true rfl) hd) (Nat.le_of_ble_eq_true rfl)) (fun x13 h11 e12 p14 => ?_)
  have L15 := L.ext e12
  refine z_go (fun Q hq => x_istore (dA d_M_second 107 rfl) (by decide) rfl (x_aload_n (dA d_M_second 108 rfl) rfl rfl (x_iload (dA d_M_second 109 rfl) rfl hq))) ?_
  refine z_br (fun Q => x_if_eq (dA d_M_second 110 rfl) rfl p14.inR) (fun c16 => ?_) (fun c16 => ?_)
  · refine z_go (fun Q hq => x_iload_n (dA d_M_second 113 rfl) rfl rfl hq) ?_
    refine z_fgt (ls' := [mR 107, mN, mN, mN, mI x13]) ⟨.inr rfl, .inl rfl, .inl rfl, .inl rfl, .inr rfl, trivial⟩ ?_
    exact S_M_second_200 hd  L15 p14.inR rv2
  · refine z_go (fun Q hq => x_iconst (dA d_M_second 111 rfl) (x_goto (dA d_M_second 112 rfl) rfl hq)) ?_
    refine z_fgt (ls' := [mR 107, mN, mN, mN, mI x13]) ⟨.inr rfl, .inl rfl, .inl rfl, .inl rfl, .inr rfl, trivial⟩ ?_
    exact S_M_second_200 hd  L15 p14.inR (inR_lit (0 : Int) rfl)
noncomputable def F_M_second_169 (v2 : Int) (h : MH) : RS Int := if (mGi h 107 33) = 0 then F_M_second_182 v2 (1 : Int) h else F_M_second_182 v2 (0 : Int) h
theorem S_M_second_169 {d : Nat} (hd : 10 ≤ d) {v2 : Int} {h : MH} (L : LayC h) (rv2 : inR v2) : OK d k_M_second 169 [mR 107, mN, mI v2, mN, mN] [] h cI inR (F_M_second_169  v2 h) := by
  unfold F_M_second_169
  refine z_go (fun Q hq => x_aload_n (dA d_M_second 98 rfl) rfl rfl (x_aload_n (dA d_M_second 99 rfl) rfl rfl (x_getI (dA d_M_second 100 rfl) f_M_503 (L.sh (x := (12, 66)) rfl) (by decide) (by decide) rfl hq))) ?_
  refine z_brn (fun Q => x_if_ne (dA d_M_second 101 rfl) rfl (L.rg _ _)) (fun c17 => ?_) (fun c17 => ?_)
  · refine z_go (fun Q hq => x_iconst (dA d_M_second 102 rfl) (x_goto (dA d_M_second 103 rfl) rfl hq)) ?_
    exact S_M_second_182 hd  L rv2 (inR_lit (1 : Int) rfl)
  · refine z_go (fun Q hq => x_iconst (dA d_M_second 104 rfl) hq) ?_
    exact S_M_second_182 hd  L rv2 (inR_lit (0 : Int) rfl)
noncomputable def F_M_second_151 (G112 : Int → Int → Int → MH → RS Int) (v1 : Int) (v2 : Int) (v3 : Int) (v4 : Int) (h : MH) : RS Int := gd (inR (v2 + (1 : Int))) (bnd (F_M_mill v3 v4 h) fun x21 h19 => gd (inR (v4 + (1 : Int))) (G112 v1 (v2 + (1 : Int)) (v4 + (1 : Int)) h19))
theorem S_M_second_151 {d : Nat} (hd : 10 ≤ d) {G112 : Int → Int → Int → MH → RS Int} (hG112 : ∀ (v1 : Int) (v2 : Int) (v3 : Int) (h : MH), LayC h → inR v1 → inR v2 → inR v3 → OK d k_M_second 112 [mR 107, mI v1, mI v2, mI v3, mN] [] h cI inR (G112 v1 v2 v3 h)) {v1 : Int} {v2 : Int} {v3 : Int} {v4 : Int} {h : MH} (L : LayC h) (rv1 : inR v1) (rv2 : inR v2) (rv3 : inR v3) (rv4 : inR v4) : OK d k_M_second 151 [mR 107, mI v1, mI v2, mI v3, mI v4] [] h cI inR (F_M_second_151 G112 v1 v2 v3 v4 h) := by
  unfold F_M_second_151
  refine z_gd (fun g18 => ?_)
  refine z_go (fun Q hq => x_iinc (dA d_M_second 88 rfl) rfl (by decide) rfl (x_aload_n (dA d_M_second 89 rfl) rfl rfl (x_iload_n (dA d_M_second 90 rfl) rfl rfl (x_iload (dA d_M_second 91 rfl) rfl hq)))) ?_
  refine z_bnd (rest := []) (st1 := fun _ => []) (S_M_mill (d := 9) (Nat.le_refl _) L rv3 rv4) (fun _ hx => absurd hx List.not_mem_nil) (fun _ => rfl) (fun Q' Q => x_callV (as := [mI v3, mI v4]) (rest := []) (k' := k_M_mill) (dA d_M_second 92 rfl) o_M_mill lk_M_550 im_M_mill se_M_mill rfl (L.sh (x := (12, 66)) rfl) (by decide) (Nat.le_of_ble_eq_true rfl) (Nat.le_trans (Nat.le_of_ble_eq_true rfl) hd) (Nat.le_of_ble_eq_true rfl)) (fun x21 h19 e20 p22 => ?_)
  have L23 := L.ext e20
  refine z_go (fun Q hq => x_iload (dA d_M_second 93 rfl) rfl (x_iconst (dA d_M_second 94 rfl) hq)) ?_
  refine z_gd (fun g24 => ?_)
  refine z_go (fun Q hq => x_iadd (dA d_M_second 95 rfl) (x_istore_n (dA d_M_second 96 rfl) rfl (by decide) rfl (x_goto (dA d_M_second 97 rfl) rfl hq))) ?_
  refine z_fgt (ls' := [mR 107, mI v1, mI (v2 + (1 : Int)), mI (v4 + (1 : Int)), mN]) ⟨.inr rfl, .inr rfl, .inr rfl, .inr rfl, .inl rfl, trivial⟩ ?_
  exact hG112 v1 (v2 + (1 : Int)) (v4 + (1 : Int)) h19 L23 rv1 g18 g24
noncomputable def F_M_second_127_b (G112 : Int → Int → Int → MH → RS Int) (G127 : Int → Int → Int → Int → MH → RS Int) (v1 : Int) (v2 : Int) (v3 : Int) (v4 : Int) (h : MH) : RS Int := if v1 ≤ v4 then F_M_second_151 G112 v1 v2 v3 v4 h else gd (0 ≤ v4 ∧ v4 < 1302) (if (mGi h 121 v4.toNat) = (10 : Int) then F_M_second_151 G112 v1 v2 v3 v4 h else gd (inR (v4 + (1 : Int))) (G127 v1 v2 v3 (v4 + (1 : Int)) h))
theorem S_M_second_127_b {d : Nat} (hd : 10 ≤ d) {G112 : Int → Int → Int → MH → RS Int} (hG112 : ∀ (v1 : Int) (v2 : Int) (v3 : Int) (h : MH), LayC h → inR v1 → inR v2 → inR v3 → OK d k_M_second 112 [mR 107, mI v1, mI v2, mI v3, mN] [] h cI inR (G112 v1 v2 v3 h)) {G127 : Int → Int → Int → Int → MH → RS Int} (hG127 : ∀ (v1 : Int) (v2 : Int) (v3 : Int) (v4 : Int) (h : MH), LayC h → inR v1 → inR v2 → inR v3 → inR v4 → OK d k_M_second 127 [mR 107, mI v1, mI v2, mI v3, mI v4] [] h cI inR (G127 v1 v2 v3 v4 h)) {v1 : Int} {v2 : Int} {v3 : Int} {v4 : Int} {h : MH} (L : LayC h) (rv1 : inR v1) (rv2 : inR v2) (rv3 : inR v3) (rv4 : inR v4) : OK d k_M_second 127 [mR 107, mI v1, mI v2, mI v3, mI v4] [] h cI inR (F_M_second_127_b G112 G127 v1 v2 v3 v4 h) := by
  unfold F_M_second_127_b
  refine z_go (fun Q hq => x_iload (dA d_M_second 77 rfl) rfl (x_iload_n (dA d_M_second 78 rfl) rfl rfl hq)) ?_
  refine z_br (fun Q => x_icmp_ge (dA d_M_second 79 rfl) rfl rv4 rv1) (fun c25 => ?_) (fun c25 => ?_)
  · exact S_M_second_151 hd hG112 L rv1 rv2 rv3 rv4
  · refine z_go (fun Q hq => x_aload_n (dA d_M_second 80 rfl) rfl rfl (x_getR (dA d_M_second 81 rfl) f_M_51 (L.sh (x := (12, 66)) rfl) (by decide) (by decide) rfl (L.rf 122 rfl) (x_iload (dA d_M_second 82 rfl) rfl hq))) ?_
    refine z_gd (fun g26 => ?_)
    refine z_go (fun Q hq => x_cald (dA d_M_second 83 rfl) (L.sh (x := (101, 1302)) rfl) g26.1 g26.2 (by decide) (x_bipush (dA d_M_second 84 rfl) (by decide) hq)) ?_
    refine z_br (fun Q => x_icmp_eq (dA d_M_second 85 rfl) rfl (L.rg _ _) (inR_lit (10 : Int) rfl)) (fun c27 => ?_) (fun c27 => ?_)
    · exact S_M_second_151 hd hG112 L rv1 rv2 rv3 rv4
    · refine z_gd (fun g28 => ?_)
      refine z_go (fun Q hq => x_iinc (dA d_M_second 86 rfl) rfl (by decide) rfl (x_goto (dA d_M_second 87 rfl) rfl hq)) ?_
      exact hG127 v1 v2 v3 (v4 + (1 : Int)) h L rv1 rv2 rv3 g28
noncomputable def F_M_second_127 (G112 : Int → Int → Int → MH → RS Int) (v1 : Int) (v2 : Int) (v3 : Int) (v4 : Int) (h : MH) : RS Int := itr (fun self (q : Int × Int × Int × Int × MH) => F_M_second_127_b G112 (fun v1 v2 v3 v4 h => self (v1, v2, v3, v4, h)) q.1 q.2.1 q.2.2.1 q.2.2.2.1 q.2.2.2.2) FU (v1, v2, v3, v4, h)
theorem S_M_second_127 {d : Nat} (hd : 10 ≤ d) {G112 : Int → Int → Int → MH → RS Int} (hG112 : ∀ (v1 : Int) (v2 : Int) (v3 : Int) (h : MH), LayC h → inR v1 → inR v2 → inR v3 → OK d k_M_second 112 [mR 107, mI v1, mI v2, mI v3, mN] [] h cI inR (G112 v1 v2 v3 h)) {v1 : Int} {v2 : Int} {v3 : Int} {v4 : Int} {h : MH} (L : LayC h) (rv1 : inR v1) (rv2 : inR v2) (rv3 : inR v3) (rv4 : inR v4) : OK d k_M_second 127 [mR 107, mI v1, mI v2, mI v3, mI v4] [] h cI inR (F_M_second_127 G112 v1 v2 v3 v4 h) := by
  unfold F_M_second_127
  refine z_itr (P := fun q : Int × Int × Int × Int × MH => LayC q.2.2.2.2 ∧ inR q.1 ∧ inR q.2.1 ∧ inR q.2.2.1 ∧ inR q.2.2.2.1 ∧ True) (ls := fun q : Int × Int × Int × Int × MH => [mR 107, mI q.1, mI q.2.1, mI q.2.2.1, mI q.2.2.2.1]) (hp := fun q : Int × Int × Int × Int × MH => q.2.2.2.2) (fun self hs q hq => ?_) FU (v1, v2, v3, v4, h) ⟨L, rv1, rv2, rv3, rv4, trivial⟩
  exact S_M_second_127_b hd hG112 (fun v1 v2 v3 v4 h L rv1 rv2 rv3 rv4 => hs (v1, v2, v3, v4, h) ⟨L, rv1, rv2, rv3, rv4, trivial⟩) hq.1 hq.2.1 hq.2.2.1 hq.2.2.2.1 hq.2.2.2.2.1
noncomputable def F_M_second_112_b (G112 : Int → Int → Int → MH → RS Int) (v1 : Int) (v2 : Int) (v3 : Int) (h : MH) : RS Int := if v1 ≤ v3 then F_M_second_169 v2 h else if (mGi h 107 1) = 0 then F_M_second_127 G112 v1 v2 v3 v3 h else F_M_second_169 v2 h
theorem S_M_second_112_b {d : Nat} (hd : 10 ≤ d) {G112 : Int → Int → Int → MH → RS Int} (hG112 : ∀ (v1 : Int) (v2 : Int) (v3 : Int) (h : MH), LayC h → inR v1 → inR v2 → inR v3 → OK d k_M_second 112 [mR 107, mI v1, mI v2, mI v3, mN] [] h cI inR (G112 v1 v2 v3 h)) {v1 : Int} {v2 : Int} {v3 : Int} {h : MH} (L : LayC h) (rv1 : inR v1) (rv2 : inR v2) (rv3 : inR v3) : OK d k_M_second 112 [mR 107, mI v1, mI v2, mI v3, mN] [] h cI inR (F_M_second_112_b G112 v1 v2 v3 h) := by
  unfold F_M_second_112_b
  refine z_go (fun Q hq => x_iload_n (dA d_M_second 69 rfl) rfl rfl (x_iload_n (dA d_M_second 70 rfl) rfl rfl hq)) ?_
  refine z_br (fun Q => x_icmp_ge (dA d_M_second 71 rfl) rfl rv3 rv1) (fun c29 => ?_) (fun c29 => ?_)
  · refine z_fgt (ls' := [mR 107, mN, mI v2, mN, mN]) ⟨.inr rfl, .inl rfl, .inr rfl, .inl rfl, .inl rfl, trivial⟩ ?_
    exact S_M_second_169 hd  L rv2
  · refine z_go (fun Q hq => x_aload_n (dA d_M_second 72 rfl) rfl rfl (x_getI (dA d_M_second 73 rfl) f_M_140 (L.sh (x := (12, 66)) rfl) (by decide) (by decide) rfl hq)) ?_
    refine z_brn (fun Q => x_if_ne (dA d_M_second 74 rfl) rfl (L.rg _ _)) (fun c30 => ?_) (fun c30 => ?_)
    · refine z_go (fun Q hq => x_iload_n (dA d_M_second 75 rfl) rfl rfl (x_istore (dA d_M_second 76 rfl) (by decide) rfl hq)) ?_
      exact S_M_second_127 hd hG112 L rv1 rv2 rv3 rv3
    · refine z_fgt (ls' := [mR 107, mN, mI v2, mN, mN]) ⟨.inr rfl, .inl rfl, .inr rfl, .inl rfl, .inl rfl, trivial⟩ ?_
      exact S_M_second_169 hd  L rv2
noncomputable def F_M_second_112 (v1 : Int) (v2 : Int) (v3 : Int) (h : MH) : RS Int := itr (fun self (q : Int × Int × Int × MH) => F_M_second_112_b (fun v1 v2 v3 h => self (v1, v2, v3, h)) q.1 q.2.1 q.2.2.1 q.2.2.2) FU (v1, v2, v3, h)
theorem S_M_second_112 {d : Nat} (hd : 10 ≤ d) {v1 : Int} {v2 : Int} {v3 : Int} {h : MH} (L : LayC h) (rv1 : inR v1) (rv2 : inR v2) (rv3 : inR v3) : OK d k_M_second 112 [mR 107, mI v1, mI v2, mI v3, mN] [] h cI inR (F_M_second_112  v1 v2 v3 h) := by
  unfold F_M_second_112
  refine z_itr (P := fun q : Int × Int × Int × MH => LayC q.2.2.2 ∧ inR q.1 ∧ inR q.2.1 ∧ inR q.2.2.1 ∧ True) (ls := fun q : Int × Int × Int × MH => [mR 107, mI q.1, mI q.2.1, mI q.2.2.1, mN]) (hp := fun q : Int × Int × Int × MH => q.2.2.2) (fun self hs q hq => ?_) FU (v1, v2, v3, h) ⟨L, rv1, rv2, rv3, trivial⟩
  exact S_M_second_112_b hd (fun v1 v2 v3 h L rv1 rv2 rv3 => hs (v1, v2, v3, h) ⟨L, rv1, rv2, rv3, trivial⟩) hq.1 hq.2.1 hq.2.2.1 hq.2.2.2.1
noncomputable def F_M_second_68_b (G68 : Int → MH → RS Int) (v1 : Int) (h : MH) : RS Int := if (mGi h 107 5) ≤ v1 then gd (inR ((mGi h 107 5) + (2 : Int))) (sto (mPi h 107 24 ((mGi h 107 5) + (2 : Int))) fun h33 => F_M_second_112 ((mGi h 107 5) + (2 : Int)) (-1 : Int) (2 : Int) h33) else gd (inR ((2 : Int) + v1)) (gd (0 ≤ v1 ∧ v1 < 400) (gd (0 ≤ ((2 : Int) + v1) ∧ ((2 : Int) + v1) < 1302) (sto (mPi h 121 ((2 : Int) + v1).toNat (mGi h 110 v1.toNat)) fun h39 => gd (inR (v1 + (1 : Int))) (G68 (v1 + (1 : Int)) h39))))
theorem S_M_second_68_b {d : Nat} (hd : 10 ≤ d) {G68 : Int → MH → RS Int} (hG68 : ∀ (v1 : Int) (h : MH), LayC h → inR v1 → OK d k_M_second 68 [mR 107, mI v1, mN, mN, mN] [] h cI inR (G68 v1 h)) {v1 : Int} {h : MH} (L : LayC h) (rv1 : inR v1) : OK d k_M_second 68 [mR 107, mI v1, mN, mN, mN] [] h cI inR (F_M_second_68_b G68 v1 h) := by
  unfold F_M_second_68_b
  refine z_go (fun Q hq => x_iload_n (dA d_M_second 41 rfl) rfl rfl (x_aload_n (dA d_M_second 42 rfl) rfl rfl (x_getI (dA d_M_second 43 rfl) f_M_178 (L.sh (x := (12, 66)) rfl) (by decide) (by decide) rfl hq))) ?_
  refine z_br (fun Q => x_icmp_ge (dA d_M_second 44 rfl) rfl rv1 (L.rg _ _)) (fun c31 => ?_) (fun c31 => ?_)
  · refine z_go (fun Q hq => x_aload_n (dA d_M_second 57 rfl) rfl rfl (x_getI (dA d_M_second 58 rfl) f_M_178 (L.sh (x := (12, 66)) rfl) (by decide) (by decide) rfl (x_iconst (dA d_M_second 59 rfl) hq))) ?_
    refine z_gd (fun g32 => ?_)
    refine z_go (fun Q hq => x_iadd (dA d_M_second 60 rfl) (x_istore_n (dA d_M_second 61 rfl) rfl (by decide) rfl (x_aload_n (dA d_M_second 62 rfl) rfl rfl (x_iload_n (dA d_M_second 63 rfl) rfl rfl hq)))) ?_
    refine z_sto (Ext.pi (L.sh (x := (12, 66)) rfl) (by decide) g32) (fun Q hq => x_putI (dA d_M_second 64 rfl) p_M_428 (L.sh (x := (12, 66)) rfl) (by decide) cl_M rfl hq) (fun h33 e34 => ?_)
    have L35 := L.ext e34
    refine z_go (fun Q hq => x_iconst (dA d_M_second 65 rfl) (x_istore_n (dA d_M_second 66 rfl) rfl (by decide) rfl (x_iconst (dA d_M_second 67 rfl) (x_istore_n (dA d_M_second 68 rfl) rfl (by decide) rfl hq)))) ?_
    exact S_M_second_112 hd  L35 g32 (inR_lit (-1 : Int) rfl) (inR_lit (2 : Int) rfl)
  · refine z_go (fun Q hq => x_aload_n (dA d_M_second 45 rfl) rfl rfl (x_getR (dA d_M_second 46 rfl) f_M_51 (L.sh (x := (12, 66)) rfl) (by decide) (by decide) rfl (L.rf 122 rfl) (x_iconst (dA d_M_second 47 rfl) (x_iload_n (dA d_M_second 48 rfl) rfl rfl hq)))) ?_
    refine z_gd (fun g36 => ?_)
    refine z_go (fun Q hq => x_iadd (dA d_M_second 49 rfl) (x_aload_n (dA d_M_second 50 rfl) rfl rfl (x_getR (dA d_M_second 51 rfl) f_M_16 (L.sh (x := (12, 66)) rfl) (by decide) (by decide) rfl (L.rf 111 rfl) (x_iload_n (dA d_M_second 52 rfl) rfl rfl hq)))) ?_
    refine z_gd (fun g37 => ?_)
    refine z_go (fun Q hq => x_cald (dA d_M_second 53 rfl) (L.sh (x := (101, 400)) rfl) g37.1 g37.2 (by decide) hq) ?_
    refine z_gd (fun g38 => ?_)
    refine z_sto (Ext.pc (L.ch (L.sh (x := (101, 400)) rfl) _).1 (L.ch (L.sh (x := (101, 400)) rfl) _).2) (fun Q hq => x_cast (dA d_M_second 54 rfl) (L.sh (x := (101, 1302)) rfl) g38.1 g38.2 (by decide) (L.ch (L.sh (x := (101, 400)) rfl) _).1 (L.ch (L.sh (x := (101, 400)) rfl) _).2 hq) (fun h39 e40 => ?_)
    have L41 := L.ext e40
    refine z_gd (fun g42 => ?_)
    refine z_go (fun Q hq => x_iinc (dA d_M_second 55 rfl) rfl (by decide) rfl (x_goto (dA d_M_second 56 rfl) rfl hq)) ?_
    exact hG68 (v1 + (1 : Int)) h39 L41 g42
noncomputable def F_M_second_68 (v1 : Int) (h : MH) : RS Int := itr (fun self (q : Int × MH) => F_M_second_68_b (fun v1 h => self (v1, h)) q.1 q.2) FU (v1, h)
theorem S_M_second_68 {d : Nat} (hd : 10 ≤ d) {v1 : Int} {h : MH} (L : LayC h) (rv1 : inR v1) : OK d k_M_second 68 [mR 107, mI v1, mN, mN, mN] [] h cI inR (F_M_second_68  v1 h) := by
  unfold F_M_second_68
  refine z_itr (P := fun q : Int × MH => LayC q.2 ∧ inR q.1 ∧ True) (ls := fun q : Int × MH => [mR 107, mI q.1, mN, mN, mN]) (hp := fun q : Int × MH => q.2) (fun self hs q hq => ?_) FU (v1, h) ⟨L, rv1, trivial⟩
  exact S_M_second_68_b hd (fun v1 h L rv1 => hs (v1, h) ⟨L, rv1, trivial⟩) hq.1 hq.2.1
noncomputable def F_M_second_31_b (G31 : Int → MH → RS Int) (v1 : Int) (h : MH) : RS Int := if (8 : Int) ≤ v1 then gd (0 ≤ (0 : Int) ∧ (0 : Int) < 1302) (sto (mPi h 121 (0 : Int).toNat (48 : Int)) fun h45 => gd (0 ≤ (1 : Int) ∧ (1 : Int) < 1302) (sto (mPi h45 121 (1 : Int).toNat (49 : Int)) fun h49 => F_M_second_68 (0 : Int) h49)) else gd (0 ≤ v1 ∧ v1 < 8) (sto (mPi h 130 v1.toNat (0 : Int)) fun h53 => gd (inR (v1 + (1 : Int))) (G31 (v1 + (1 : Int)) h53))
theorem S_M_second_31_b {d : Nat} (hd : 10 ≤ d) {G31 : Int → MH → RS Int} (hG31 : ∀ (v1 : Int) (h : MH), LayC h → inR v1 → OK d k_M_second 31 [mR 107, mI v1, mN, mN, mN] [] h cI inR (G31 v1 h)) {v1 : Int} {h : MH} (L : LayC h) (rv1 : inR v1) : OK d k_M_second 31 [mR 107, mI v1, mN, mN, mN] [] h cI inR (F_M_second_31_b G31 v1 h) := by
  unfold F_M_second_31_b
  refine z_go (fun Q hq => x_iload_n (dA d_M_second 19 rfl) rfl rfl (x_bipush (dA d_M_second 20 rfl) (by decide) hq)) ?_
  refine z_br (fun Q => x_icmp_ge (dA d_M_second 21 rfl) rfl rv1 (inR_lit (8 : Int) rfl)) (fun c43 => ?_) (fun c43 => ?_)
  · refine z_go (fun Q hq => x_aload_n (dA d_M_second 29 rfl) rfl rfl (x_getR (dA d_M_second 30 rfl) f_M_51 (L.sh (x := (12, 66)) rfl) (by decide) (by decide) rfl (L.rf 122 rfl) (x_iconst (dA d_M_second 31 rfl) (x_bipush (dA d_M_second 32 rfl) (by decide) hq)))) ?_
    refine z_gd (fun g44 => ?_)
    refine z_sto (Ext.pc (ch_lit (48 : Int) rfl).1 (ch_lit (48 : Int) rfl).2) (fun Q hq => x_cast (dA d_M_second 33 rfl) (L.sh (x := (101, 1302)) rfl) g44.1 g44.2 (by decide) (ch_lit (48 : Int) rfl).1 (ch_lit (48 : Int) rfl).2 hq) (fun h45 e46 => ?_)
    have L47 := L.ext e46
    refine z_go (fun Q hq => x_aload_n (dA d_M_second 34 rfl) rfl rfl (x_getR (dA d_M_second 35 rfl) f_M_51 (L47.sh (x := (12, 66)) rfl) (by decide) (by decide) rfl (L47.rf 122 rfl) (x_iconst (dA d_M_second 36 rfl) (x_bipush (dA d_M_second 37 rfl) (by decide) hq)))) ?_
    refine z_gd (fun g48 => ?_)
    refine z_sto (Ext.pc (ch_lit (49 : Int) rfl).1 (ch_lit (49 : Int) rfl).2) (fun Q hq => x_cast (dA d_M_second 38 rfl) (L47.sh (x := (101, 1302)) rfl) g48.1 g48.2 (by decide) (ch_lit (49 : Int) rfl).1 (ch_lit (49 : Int) rfl).2 hq) (fun h49 e50 => ?_)
    have L51 := L47.ext e50
    refine z_go (fun Q hq => x_iconst (dA d_M_second 39 rfl) (x_istore_n (dA d_M_second 40 rfl) rfl (by decide) rfl hq)) ?_
    exact S_M_second_68 hd  L51 (inR_lit (0 : Int) rfl)
  · refine z_go (fun Q hq => x_aload_n (dA d_M_second 22 rfl) rfl rfl (x_getR (dA d_M_second 23 rfl) f_M_78 (L.sh (x := (12, 66)) rfl) (by decide) (by decide) rfl (L.rf 131 rfl) (x_iload_n (dA d_M_second 24 rfl) rfl rfl (x_iconst (dA d_M_second 25 rfl) hq)))) ?_
    refine z_gd (fun g52 => ?_)
    refine z_sto (Ext.pi (L.sh (x := (102, 8)) rfl) (by decide) (inR_lit (0 : Int) rfl)) (fun Q hq => x_zast (dA d_M_second 26 rfl) (L.sh (x := (102, 8)) rfl) g52.1 g52.2 (by decide) (.inl rfl) hq) (fun h53 e54 => ?_)
    have L55 := L.ext e54
    refine z_gd (fun g56 => ?_)
    refine z_go (fun Q hq => x_iinc (dA d_M_second 27 rfl) rfl (by decide) rfl (x_goto (dA d_M_second 28 rfl) rfl hq)) ?_
    exact hG31 (v1 + (1 : Int)) h53 L55 g56
noncomputable def F_M_second_31 (v1 : Int) (h : MH) : RS Int := itr (fun self (q : Int × MH) => F_M_second_31_b (fun v1 h => self (v1, h)) q.1 q.2) FU (v1, h)
theorem S_M_second_31 {d : Nat} (hd : 10 ≤ d) {v1 : Int} {h : MH} (L : LayC h) (rv1 : inR v1) : OK d k_M_second 31 [mR 107, mI v1, mN, mN, mN] [] h cI inR (F_M_second_31  v1 h) := by
  unfold F_M_second_31
  refine z_itr (P := fun q : Int × MH => LayC q.2 ∧ inR q.1 ∧ True) (ls := fun q : Int × MH => [mR 107, mI q.1, mN, mN, mN]) (hp := fun q : Int × MH => q.2) (fun self hs q hq => ?_) FU (v1, h) ⟨L, rv1, trivial⟩
  exact S_M_second_31_b hd (fun v1 h L rv1 => hs (v1, h) ⟨L, rv1, trivial⟩) hq.1 hq.2.1
noncomputable def F_M_second (h : MH) : RS Int := bnd (F_M_start h) fun x59 h57 => sto (mPi h57 107 28 (0 : Int)) fun h62 => sto (mPi h62 107 26 (0 : Int)) fun h65 => sto (mPi h65 107 32 (0 : Int)) fun h68 => sto (mPi h68 107 33 (0 : Int)) fun h71 => sto (mPi h71 107 25 (0 : Int)) fun h74 => F_M_second_31 (0 : Int) h74
theorem S_M_second {d : Nat} (hd : 10 ≤ d) {h : MH} (L : LayC h) : OK d k_M_second 0 [mR 107, mN, mN, mN, mN] [] h cI inR (F_M_second   h) := by
  unfold F_M_second
  refine z_go (fun Q hq => x_aload_n (dA d_M_second 0 rfl) rfl rfl hq) ?_
  refine z_bnd (rest := []) (st1 := fun _ => []) (S_M_start (d := 0) (Nat.le_refl _) L ) (fun _ hx => absurd hx List.not_mem_nil) (fun _ => rfl) (fun Q' Q => x_callV (as := []) (rest := []) (k' := k_M_start) (dA d_M_second 1 rfl) o_M_start lk_M_304 im_M_start se_M_start rfl (L.sh (x := (12, 66)) rfl) (by decide) (Nat.le_of_ble_eq_true rfl) (Nat.le_trans (Nat.le_of_ble_eq_true rfl) hd) (Nat.le_of_ble_eq_true rfl)) (fun x59 h57 e58 p60 => ?_)
  have L61 := L.ext e58
  refine z_go (fun Q hq => x_aload_n (dA d_M_second 2 rfl) rfl rfl (x_iconst (dA d_M_second 3 rfl) hq)) ?_
  refine z_sto (Ext.pi (L61.sh (x := (12, 66)) rfl) (by decide) (inR_lit (0 : Int) rfl)) (fun Q hq => x_putI (dA d_M_second 4 rfl) p_M_408 (L61.sh (x := (12, 66)) rfl) (by decide) cl_M rfl hq) (fun h62 e63 => ?_)
  have L64 := L61.ext e63
  refine z_go (fun Q hq => x_aload_n (dA d_M_second 5 rfl) rfl rfl (x_iconst (dA d_M_second 6 rfl) hq)) ?_
  refine z_sto (Ext.pi (L64.sh (x := (12, 66)) rfl) (by decide) (inR_lit (0 : Int) rfl)) (fun Q hq => x_putI (dA d_M_second 7 rfl) p_M_535 (L64.sh (x := (12, 66)) rfl) (by decide) cl_M rfl hq) (fun h65 e66 => ?_)
  have L67 := L64.ext e66
  refine z_go (fun Q hq => x_aload_n (dA d_M_second 8 rfl) rfl rfl (x_iconst (dA d_M_second 9 rfl) hq)) ?_
  refine z_sto (Ext.pi (L67.sh (x := (12, 66)) rfl) (by decide) (inR_lit (0 : Int) rfl)) (fun Q hq => x_putI (dA d_M_second 10 rfl) p_M_375 (L67.sh (x := (12, 66)) rfl) (by decide) cl_M rfl hq) (fun h68 e69 => ?_)
  have L70 := L67.ext e69
  refine z_go (fun Q hq => x_aload_n (dA d_M_second 11 rfl) rfl rfl (x_iconst (dA d_M_second 12 rfl) hq)) ?_
  refine z_sto (Ext.pi (L70.sh (x := (12, 66)) rfl) (by decide) (inR_lit (0 : Int) rfl)) (fun Q hq => x_putI (dA d_M_second 13 rfl) p_M_503 (L70.sh (x := (12, 66)) rfl) (by decide) cl_M rfl hq) (fun h71 e72 => ?_)
  have L73 := L70.ext e72
  refine z_go (fun Q hq => x_aload_n (dA d_M_second 14 rfl) rfl rfl (x_iconst (dA d_M_second 15 rfl) hq)) ?_
  refine z_sto (Ext.pi (L73.sh (x := (12, 66)) rfl) (by decide) (inR_lit (0 : Int) rfl)) (fun Q hq => x_putI (dA d_M_second 16 rfl) p_M_422 (L73.sh (x := (12, 66)) rfl) (by decide) cl_M rfl hq) (fun h74 e75 => ?_)
  have L76 := L73.ext e75
  refine z_go (fun Q hq => x_iconst (dA d_M_second 17 rfl) (x_istore_n (dA d_M_second 18 rfl) rfl (by decide) rfl hq)) ?_
  exact S_M_second_31 hd  L76 (inR_lit (0 : Int) rfl)
/-! TwoMillsModel.state(I)I -/
noncomputable def F_M_state (a1 : Int) (h : MH) : RS Int := sto (mPi h 107 0 (0 : Int)) fun h1 => if a1 = 0 then some (.inl (mGi h1 107 1), h1) else if a1 = (1 : Int) then some (.inl (mGi h1 107 27), h1) else if a1 = (2 : Int) then some (.inl (mGi h1 107 4), h1) else if a1 = (3 : Int) then some (.inl (mGi h1 107 28), h1) else if a1 = (4 : Int) then some (.inl (mGi h1 107 6), h1) else if a1 = (5 : Int) then some (.inl (mGi h1 107 32), h1) else if a1 = (6 : Int) then some (.inl (mGi h1 107 5), h1) else if a1 = (7 : Int) then some (.inl (mGi h1 107 26), h1) else some (.inl (-1 : Int), h1)
theorem S_M_state {d : Nat} (hd : 0 ≤ d) {a1 : Int} {h : MH} (L : LayC h) (ra1 : inR a1) : OK d k_M_state 0 [mR 107, mI a1] [] h cI inR (F_M_state  a1 h) := by
  unfold F_M_state
  refine z_go (fun Q hq => x_aload_n (dA d_M_state 0 rfl) rfl rfl (x_iconst (dA d_M_state 1 rfl) hq)) ?_
  refine z_sto (Ext.pi (L.sh (x := (12, 66)) rfl) (by decide) (inR_lit (0 : Int) rfl)) (fun Q hq => x_putI (dA d_M_state 2 rfl) p_M_136 (L.sh (x := (12, 66)) rfl) (by decide) cl_M rfl hq) (fun h1 e2 => ?_)
  have L3 := L.ext e2
  refine z_go (fun Q hq => x_iload_n (dA d_M_state 3 rfl) rfl rfl hq) ?_
  refine z_brn (fun Q => x_if_ne (dA d_M_state 4 rfl) rfl ra1) (fun c4 => ?_) (fun c4 => ?_)
  · refine z_go (fun Q hq => x_aload_n (dA d_M_state 5 rfl) rfl rfl (x_getI (dA d_M_state 6 rfl) f_M_140 (L3.sh (x := (12, 66)) rfl) (by decide) (by decide) rfl (x_goto (dA d_M_state 7 rfl) rfl hq))) ?_
    exact z_reti (dA d_M_state 51 rfl) rfl (L3.rg _ _)
  · refine z_go (fun Q hq => x_iload_n (dA d_M_state 8 rfl) rfl rfl (x_iconst (dA d_M_state 9 rfl) hq)) ?_
    refine z_brn (fun Q => x_icmp_ne (dA d_M_state 10 rfl) rfl ra1 (inR_lit (1 : Int) rfl)) (fun c5 => ?_) (fun c5 => ?_)
    · refine z_go (fun Q hq => x_aload_n (dA d_M_state 11 rfl) rfl rfl (x_getI (dA d_M_state 12 rfl) f_M_143 (L3.sh (x := (12, 66)) rfl) (by decide) (by decide) rfl (x_goto (dA d_M_state 13 rfl) rfl hq))) ?_
      exact z_reti (dA d_M_state 51 rfl) rfl (L3.rg _ _)
    · refine z_go (fun Q hq => x_iload_n (dA d_M_state 14 rfl) rfl rfl (x_iconst (dA d_M_state 15 rfl) hq)) ?_
      refine z_brn (fun Q => x_icmp_ne (dA d_M_state 16 rfl) rfl ra1 (inR_lit (2 : Int) rfl)) (fun c6 => ?_) (fun c6 => ?_)
      · refine z_go (fun Q hq => x_aload_n (dA d_M_state 17 rfl) rfl rfl (x_getI (dA d_M_state 18 rfl) f_M_307 (L3.sh (x := (12, 66)) rfl) (by decide) (by decide) rfl (x_goto (dA d_M_state 19 rfl) rfl hq))) ?_
        exact z_reti (dA d_M_state 51 rfl) rfl (L3.rg _ _)
      · refine z_go (fun Q hq => x_iload_n (dA d_M_state 20 rfl) rfl rfl (x_iconst (dA d_M_state 21 rfl) hq)) ?_
        refine z_brn (fun Q => x_icmp_ne (dA d_M_state 22 rfl) rfl ra1 (inR_lit (3 : Int) rfl)) (fun c7 => ?_) (fun c7 => ?_)
        · refine z_go (fun Q hq => x_aload_n (dA d_M_state 23 rfl) rfl rfl (x_getI (dA d_M_state 24 rfl) f_M_408 (L3.sh (x := (12, 66)) rfl) (by decide) (by decide) rfl (x_goto (dA d_M_state 25 rfl) rfl hq))) ?_
          exact z_reti (dA d_M_state 51 rfl) rfl (L3.rg _ _)
        · refine z_go (fun Q hq => x_iload_n (dA d_M_state 26 rfl) rfl rfl (x_iconst (dA d_M_state 27 rfl) hq)) ?_
          refine z_brn (fun Q => x_icmp_ne (dA d_M_state 28 rfl) rfl ra1 (inR_lit (4 : Int) rfl)) (fun c8 => ?_) (fun c8 => ?_)
          · refine z_go (fun Q hq => x_aload_n (dA d_M_state 29 rfl) rfl rfl (x_getI (dA d_M_state 30 rfl) f_M_205 (L3.sh (x := (12, 66)) rfl) (by decide) (by decide) rfl (x_goto (dA d_M_state 31 rfl) rfl hq))) ?_
            exact z_reti (dA d_M_state 51 rfl) rfl (L3.rg _ _)
          · refine z_go (fun Q hq => x_iload_n (dA d_M_state 32 rfl) rfl rfl (x_iconst (dA d_M_state 33 rfl) hq)) ?_
            refine z_brn (fun Q => x_icmp_ne (dA d_M_state 34 rfl) rfl ra1 (inR_lit (5 : Int) rfl)) (fun c9 => ?_) (fun c9 => ?_)
            · refine z_go (fun Q hq => x_aload_n (dA d_M_state 35 rfl) rfl rfl (x_getI (dA d_M_state 36 rfl) f_M_375 (L3.sh (x := (12, 66)) rfl) (by decide) (by decide) rfl (x_goto (dA d_M_state 37 rfl) rfl hq))) ?_
              exact z_reti (dA d_M_state 51 rfl) rfl (L3.rg _ _)
            · refine z_go (fun Q hq => x_iload_n (dA d_M_state 38 rfl) rfl rfl (x_bipush (dA d_M_state 39 rfl) (by decide) hq)) ?_
              refine z_brn (fun Q => x_icmp_ne (dA d_M_state 40 rfl) rfl ra1 (inR_lit (6 : Int) rfl)) (fun c10 => ?_) (fun c10 => ?_)
              · refine z_go (fun Q hq => x_aload_n (dA d_M_state 41 rfl) rfl rfl (x_getI (dA d_M_state 42 rfl) f_M_178 (L3.sh (x := (12, 66)) rfl) (by decide) (by decide) rfl (x_goto (dA d_M_state 43 rfl) rfl hq))) ?_
                exact z_reti (dA d_M_state 51 rfl) rfl (L3.rg _ _)
              · refine z_go (fun Q hq => x_iload_n (dA d_M_state 44 rfl) rfl rfl (x_bipush (dA d_M_state 45 rfl) (by decide) hq)) ?_
                refine z_brn (fun Q => x_icmp_ne (dA d_M_state 46 rfl) rfl ra1 (inR_lit (7 : Int) rfl)) (fun c11 => ?_) (fun c11 => ?_)
                · refine z_go (fun Q hq => x_aload_n (dA d_M_state 47 rfl) rfl rfl (x_getI (dA d_M_state 48 rfl) f_M_535 (L3.sh (x := (12, 66)) rfl) (by decide) (by decide) rfl (x_goto (dA d_M_state 49 rfl) rfl hq))) ?_
                  exact z_reti (dA d_M_state 51 rfl) rfl (L3.rg _ _)
                · refine z_go (fun Q hq => x_iconst (dA d_M_state 50 rfl) hq) ?_
                  exact z_reti (dA d_M_state 51 rfl) rfl (inR_lit (-1 : Int) rfl)
/-! TwoMillsModel.character(II)I -/
noncomputable def F_M_character_37 (h : MH) : RS Int := some (.inl (-1 : Int), h)
theorem S_M_character_37 {d : Nat} (hd : 0 ≤ d) {h : MH} (L : LayC h) : OK d k_M_character 37 [mN, mN, mN] [] h cI inR (F_M_character_37   h) := by
  unfold F_M_character_37
  refine z_go (fun Q hq => x_iconst (dA d_M_character 19 rfl) (x_goto (dA d_M_character 20 rfl) rfl hq)) ?_
  exact z_reti (dA d_M_character 32 rfl) rfl (inR_lit (-1 : Int) rfl)
noncomputable def F_M_character_34 (v1 : Int) (v2 : Int) (s0 : Int) (s1 : Int) (h : MH) : RS Int := if s0 < s1 then if v1 = 0 then gd (0 ≤ v2 ∧ v2 < 400) (some (.inl (mGi h 110 v2.toNat), h)) else gd (0 ≤ v2 ∧ v2 < 600) (some (.inl (mGi h 122 v2.toNat), h)) else F_M_character_37  h
theorem S_M_character_34 {d : Nat} (hd : 0 ≤ d) {v1 : Int} {v2 : Int} {s0 : Int} {s1 : Int} {h : MH} (L : LayC h) (rv1 : inR v1) (rv2 : inR v2) (rs0 : inR s0) (rs1 : inR s1) : OK d k_M_character 34 [mR 107, mI v1, mI v2] [mI s1, mI s0] h cI inR (F_M_character_34  v1 v2 s0 s1 h) := by
  unfold F_M_character_34
  refine z_br (fun Q => x_icmp_lt (dA d_M_character 18 rfl) rfl rs0 rs1) (fun c1 => ?_) (fun c1 => ?_)
  · refine z_go (fun Q hq => x_iload_n (dA d_M_character 21 rfl) rfl rfl hq) ?_
    refine z_brn (fun Q => x_if_ne (dA d_M_character 22 rfl) rfl rv1) (fun c2 => ?_) (fun c2 => ?_)
    · refine z_go (fun Q hq => x_aload_n (dA d_M_character 23 rfl) rfl rfl (x_getR (dA d_M_character 24 rfl) f_M_16 (L.sh (x := (12, 66)) rfl) (by decide) (by decide) rfl (L.rf 111 rfl) (x_iload_n (dA d_M_character 25 rfl) rfl rfl hq))) ?_
      refine z_gd (fun g3 => ?_)
      refine z_go (fun Q hq => x_cald (dA d_M_character 26 rfl) (L.sh (x := (101, 400)) rfl) g3.1 g3.2 (by decide) (x_goto (dA d_M_character 27 rfl) rfl hq)) ?_
      exact z_reti (dA d_M_character 32 rfl) rfl (L.rg _ _)
    · refine z_go (fun Q hq => x_aload_n (dA d_M_character 28 rfl) rfl rfl (x_getR (dA d_M_character 29 rfl) f_M_54 (L.sh (x := (12, 66)) rfl) (by decide) (by decide) rfl (L.rf 123 rfl) (x_iload_n (dA d_M_character 30 rfl) rfl rfl hq))) ?_
      refine z_gd (fun g4 => ?_)
      refine z_go (fun Q hq => x_cald (dA d_M_character 31 rfl) (L.sh (x := (101, 600)) rfl) g4.1 g4.2 (by decide) hq) ?_
      exact z_reti (dA d_M_character 32 rfl) rfl (L.rg _ _)
  · refine z_fgt (ls' := [mN, mN, mN]) ⟨.inl rfl, .inl rfl, .inl rfl, trivial⟩ ?_
    exact S_M_character_37 hd  L 
noncomputable def F_M_character (a1 : Int) (a2 : Int) (h : MH) : RS Int := sto (mPi h 107 0 (0 : Int)) fun h5 => if a2 < 0 then F_M_character_37  h5 else if a1 < 0 then F_M_character_37  h5 else if (1 : Int) < a1 then F_M_character_37  h5 else if a1 = 0 then F_M_character_34 a1 a2 a2 (mGi h5 107 5) h5 else F_M_character_34 a1 a2 a2 (mGi h5 107 26) h5
theorem S_M_character {d : Nat} (hd : 0 ≤ d) {a1 : Int} {a2 : Int} {h : MH} (L : LayC h) (ra1 : inR a1) (ra2 : inR a2) : OK d k_M_character 0 [mR 107, mI a1, mI a2] [] h cI inR (F_M_character  a1 a2 h) := by
  unfold F_M_character
  refine z_go (fun Q hq => x_aload_n (dA d_M_character 0 rfl) rfl rfl (x_iconst (dA d_M_character 1 rfl) hq)) ?_
  refine z_sto (Ext.pi (L.sh (x := (12, 66)) rfl) (by decide) (inR_lit (0 : Int) rfl)) (fun Q hq => x_putI (dA d_M_character 2 rfl) p_M_136 (L.sh (x := (12, 66)) rfl) (by decide) cl_M rfl hq) (fun h5 e6 => ?_)
  have L7 := L.ext e6
  refine z_go (fun Q hq => x_iload_n (dA d_M_character 3 rfl) rfl rfl hq) ?_
  refine z_br (fun Q => x_if_lt (dA d_M_character 4 rfl) rfl ra2) (fun c8 => ?_) (fun c8 => ?_)
  · refine z_fgt (ls' := [mN, mN, mN]) ⟨.inl rfl, .inl rfl, .inl rfl, trivial⟩ ?_
    exact S_M_character_37 hd  L7 
  · refine z_go (fun Q hq => x_iload_n (dA d_M_character 5 rfl) rfl rfl hq) ?_
    refine z_br (fun Q => x_if_lt (dA d_M_character 6 rfl) rfl ra1) (fun c9 => ?_) (fun c9 => ?_)
    · refine z_fgt (ls' := [mN, mN, mN]) ⟨.inl rfl, .inl rfl, .inl rfl, trivial⟩ ?_
      exact S_M_character_37 hd  L7 
    · refine z_go (fun Q hq => x_iload_n (dA d_M_character 7 rfl) rfl rfl (x_iconst (dA d_M_character 8 rfl) hq)) ?_
      refine z_br (fun Q => x_icmp_gt (dA d_M_character 9 rfl) rfl ra1 (inR_lit (1 : Int) rfl)) (fun c10 => ?_) (fun c10 => ?_)
      · refine z_fgt (ls' := [mN, mN, mN]) ⟨.inl rfl, .inl rfl, .inl rfl, trivial⟩ ?_
        exact S_M_character_37 hd  L7 
      · refine z_go (fun Q hq => x_iload_n (dA d_M_character 10 rfl) rfl rfl (x_iload_n (dA d_M_character 11 rfl) rfl rfl hq)) ?_
        refine z_brn (fun Q => x_if_ne (dA d_M_character 12 rfl) rfl ra1) (fun c11 => ?_) (fun c11 => ?_)
        · refine z_go (fun Q hq => x_aload_n (dA d_M_character 13 rfl) rfl rfl (x_getI (dA d_M_character 14 rfl) f_M_178 (L7.sh (x := (12, 66)) rfl) (by decide) (by decide) rfl (x_goto (dA d_M_character 15 rfl) rfl hq))) ?_
          exact S_M_character_34 hd  L7 ra1 ra2 ra2 (L7.rg _ _)
        · refine z_go (fun Q hq => x_aload_n (dA d_M_character 16 rfl) rfl rfl (x_getI (dA d_M_character 17 rfl) f_M_535 (L7.sh (x := (12, 66)) rfl) (by decide) (by decide) rfl hq)) ?_
          exact S_M_character_34 hd  L7 ra1 ra2 ra2 (L7.rg _ _)
/-! TwoMillsLaw.type(LTwoMills;JI[J)I -/
noncomputable def F_La_type_18 (h : MH) : RS Int := some (.inl (2 : Int), h)
theorem S_La_type_18 {d : Nat} (hd : 3 ≤ d) {ex : Nat} {h : MH} (L : LayC h) : OK d k_La_type 18 [mN, mN, mN, mN, mN, mN] [mR ex] h cI inR (F_La_type_18   h) := by
  unfold F_La_type_18
  refine z_go (fun Q hq => x_astore (dA d_La_type 12 rfl) (by decide) rfl (x_iconst (dA d_La_type 13 rfl) hq)) ?_
  exact z_reti (dA d_La_type 14 rfl) rfl (inR_lit (2 : Int) rfl)
noncomputable def F_La_type_14 (h : MH) : RS Int := some (.inl (1 : Int), h)
theorem S_La_type_14 {d : Nat} (hd : 3 ≤ d) {ex : Nat} {h : MH} (L : LayC h) : OK d k_La_type 14 [mN, mN, mN, mN, mN, mN] [mR ex] h cI inR (F_La_type_14   h) := by
  unfold F_La_type_14
  refine z_go (fun Q hq => x_astore (dA d_La_type 9 rfl) (by decide) rfl (x_iconst (dA d_La_type 10 rfl) hq)) ?_
  exact z_reti (dA d_La_type 11 rfl) rfl (inR_lit (1 : Int) rfl)
noncomputable def F_La_type (a2 : Int64) (a3 : Int) (h : MH) : RS Int := bndC (F_T_type a2 a3 h) (fun x3 h1 => gd (0 ≤ (0 : Int) ∧ (0 : Int) < 1) (sto (mPl h1 149 (0 : Int).toNat ((Int32.ofInt x3).toInt64)) fun h7 => some (.inl (0 : Int), h7))) (fun te hh => if te = 14 then F_La_type_14   hh else gd (te = 15) (F_La_type_18   hh))
theorem S_La_type {d : Nat} (hd : 3 ≤ d) {a2 : Int64} {a3 : Int} {h : MH} (L : LayC h) (ra3 : inR a3) : OK d k_La_type 0 [mR 0, mL a2, mN, mI a3, mR 149, mN] [] h cI inR (F_La_type  a2 a3 h) := by
  unfold F_La_type
  refine z_go (fun Q hq => x_aload (dA d_La_type 0 rfl) rfl (x_iconst (dA d_La_type 1 rfl) (x_aload_n (dA d_La_type 2 rfl) rfl rfl (x_lload_n (dA d_La_type 3 rfl) rfl rfl (x_iload_n (dA d_La_type 4 rfl) rfl rfl hq))))) ?_
  refine z_bndC (rest := [mI (0 : Int), mR 149]) (st1 := fun v => mI v :: [mI (0 : Int), mR 149]) (S_T_type (d := 2) (Nat.le_refl _) L ra3) (fun _ => rfl) (fun Q' Q => x_callV (as := [mL a2, mI a3]) (rest := [mI (0 : Int), mR 149]) (k' := k_T_type) (dA d_La_type 5 rfl) o_T_type lk_La_7 im_T_type se_T_type rfl (L.sh (x := (0, 5)) rfl) (by decide) (Nat.le_of_ble_eq_true rfl) (Nat.le_trans (Nat.le_of_ble_eq_true rfl) hd) (Nat.le_of_ble_eq_true rfl)) (fun x3 h1 e2 p4 => ?_) (z_hand2 (H1 := fun hh => F_La_type_14   hh) (H2 := fun hh => F_La_type_18   hh) rfl rfl (by decide) rfl (by decide) cl_La_13 cl_La_15 (fun ex hh eh => z_fgt (ls' := [mN, mN, mN, mN, mN, mN]) ⟨.inl rfl, .inl rfl, .inl rfl, .inl rfl, .inl rfl, .inl rfl, trivial⟩ (S_La_type_14 (ex := ex) hd  (L.ext eh) )) (fun ex hh eh => z_fgt (ls' := [mN, mN, mN, mN, mN, mN]) ⟨.inl rfl, .inl rfl, .inl rfl, .inl rfl, .inl rfl, .inl rfl, trivial⟩ (S_La_type_18 (ex := ex) hd  (L.ext eh) )))
  have L5 := L.ext e2
  refine z_go (fun Q hq => x_i2l (dA d_La_type 6 rfl) hq) ?_
  refine z_gd (fun g6 => ?_)
  refine z_sto Ext.pl (fun Q hq => x_last (dA d_La_type 7 rfl) (L5.sh (x := (103, 1)) rfl) g6.1 g6.2 (by decide) hq) (fun h7 e8 => ?_)
  have L9 := L5.ext e8
  refine z_go (fun Q hq => x_goto (dA d_La_type 8 rfl) rfl (x_iconst (dA d_La_type 15 rfl) hq)) ?_
  exact z_reti (dA d_La_type 16 rfl) rfl (inR_lit (0 : Int) rfl)
/-! TwoMillsLaw.first(LTwoMills;[J)I -/
noncomputable def F_La_first_11 (h : MH) : RS Int := some (.inl (1 : Int), h)
theorem S_La_first_11 {d : Nat} (hd : 11 ≤ d) {ex : Nat} {h : MH} (L : LayC h) : OK d k_La_first 11 [mN, mN, mN] [mR ex] h cI inR (F_La_first_11   h) := by
  unfold F_La_first_11
  refine z_go (fun Q hq => x_astore_n (dA d_La_first 7 rfl) rfl (by decide) rfl (x_iconst (dA d_La_first 8 rfl) hq)) ?_
  exact z_reti (dA d_La_first 9 rfl) rfl (inR_lit (1 : Int) rfl)
noncomputable def F_La_first (h : MH) : RS Int := bndC (F_T_first h) (fun x3 h1 => gd (0 ≤ (0 : Int) ∧ (0 : Int) < 1) (sto (mPl h1 149 (0 : Int).toNat ((Int32.ofInt x3).toInt64)) fun h7 => some (.inl (0 : Int), h7))) (fun te hh => gd (te = 13) (F_La_first_11   hh))
theorem S_La_first {d : Nat} (hd : 11 ≤ d) {h : MH} (L : LayC h) : OK d k_La_first 0 [mR 0, mR 149, mN] [] h cI inR (F_La_first   h) := by
  unfold F_La_first
  refine z_go (fun Q hq => x_aload_n (dA d_La_first 0 rfl) rfl rfl (x_iconst (dA d_La_first 1 rfl) (x_aload_n (dA d_La_first 2 rfl) rfl rfl hq))) ?_
  refine z_bndC (rest := [mI (0 : Int), mR 149]) (st1 := fun v => mI v :: [mI (0 : Int), mR 149]) (S_T_first (d := 10) (Nat.le_refl _) L ) (fun _ => rfl) (fun Q' Q => x_callV (as := []) (rest := [mI (0 : Int), mR 149]) (k' := k_T_first) (dA d_La_first 3 rfl) o_T_first lk_La_17 im_T_first se_T_first rfl (L.sh (x := (0, 5)) rfl) (by decide) (Nat.le_of_ble_eq_true rfl) (Nat.le_trans (Nat.le_of_ble_eq_true rfl) hd) (Nat.le_of_ble_eq_true rfl)) (fun x3 h1 e2 p4 => ?_) (z_hand (te' := 13) (H := fun _ hh => F_La_first_11   hh) rfl rfl (by decide) rfl (by decide) cl_La_21 (fun ex hh eh => z_fgt (ls' := [mN, mN, mN]) ⟨.inl rfl, .inl rfl, .inl rfl, trivial⟩ (S_La_first_11 (ex := ex) hd  (L.ext eh) )))
  have L5 := L.ext e2
  refine z_go (fun Q hq => x_i2l (dA d_La_first 4 rfl) hq) ?_
  refine z_gd (fun g6 => ?_)
  refine z_sto Ext.pl (fun Q hq => x_last (dA d_La_first 5 rfl) (L5.sh (x := (103, 1)) rfl) g6.1 g6.2 (by decide) hq) (fun h7 e8 => ?_)
  have L9 := L5.ext e8
  refine z_go (fun Q hq => x_goto (dA d_La_first 6 rfl) rfl (x_iconst (dA d_La_first 10 rfl) hq)) ?_
  exact z_reti (dA d_La_first 11 rfl) rfl (inR_lit (0 : Int) rfl)
/-! TwoMillsLaw.second(LTwoMills;[J)I -/
noncomputable def F_La_second_11 (h : MH) : RS Int := some (.inl (1 : Int), h)
theorem S_La_second_11 {d : Nat} (hd : 95 ≤ d) {ex : Nat} {h : MH} (L : LayC h) : OK d k_La_second 11 [mN, mN, mN] [mR ex] h cI inR (F_La_second_11   h) := by
  unfold F_La_second_11
  refine z_go (fun Q hq => x_astore_n (dA d_La_second 7 rfl) rfl (by decide) rfl (x_iconst (dA d_La_second 8 rfl) hq)) ?_
  exact z_reti (dA d_La_second 9 rfl) rfl (inR_lit (1 : Int) rfl)
noncomputable def F_La_second (h : MH) : RS Int := bndC (F_T_second h) (fun x3 h1 => gd (0 ≤ (0 : Int) ∧ (0 : Int) < 1) (sto (mPl h1 149 (0 : Int).toNat ((Int32.ofInt x3).toInt64)) fun h7 => some (.inl (0 : Int), h7))) (fun te hh => gd (te = 13) (F_La_second_11   hh))
theorem S_La_second {d : Nat} (hd : 95 ≤ d) {h : MH} (L : LayC h) : OK d k_La_second 0 [mR 0, mR 149, mN] [] h cI inR (F_La_second   h) := by
  unfold F_La_second
  refine z_go (fun Q hq => x_aload_n (dA d_La_second 0 rfl) rfl rfl (x_iconst (dA d_La_second 1 rfl) (x_aload_n (dA d_La_second 2 rfl) rfl rfl hq))) ?_
  refine z_bndC (rest := [mI (0 : Int), mR 149]) (st1 := fun v => mI v :: [mI (0 : Int), mR 149]) (S_T_second (d := 94) (Nat.le_refl _) L ) (fun _ => rfl) (fun Q' Q => x_callV (as := []) (rest := [mI (0 : Int), mR 149]) (k' := k_T_second) (dA d_La_second 3 rfl) o_T_second lk_La_23 im_T_second se_T_second rfl (L.sh (x := (0, 5)) rfl) (by decide) (Nat.le_of_ble_eq_true rfl) (Nat.le_trans (Nat.le_of_ble_eq_true rfl) hd) (Nat.le_of_ble_eq_true rfl)) (fun x3 h1 e2 p4 => ?_) (z_hand (te' := 13) (H := fun _ hh => F_La_second_11   hh) rfl rfl (by decide) rfl (by decide) cl_La_21 (fun ex hh eh => z_fgt (ls' := [mN, mN, mN]) ⟨.inl rfl, .inl rfl, .inl rfl, trivial⟩ (S_La_second_11 (ex := ex) hd  (L.ext eh) )))
  have L5 := L.ext e2
  refine z_go (fun Q hq => x_i2l (dA d_La_second 4 rfl) hq) ?_
  refine z_gd (fun g6 => ?_)
  refine z_sto Ext.pl (fun Q hq => x_last (dA d_La_second 5 rfl) (L5.sh (x := (103, 1)) rfl) g6.1 g6.2 (by decide) hq) (fun h7 e8 => ?_)
  have L9 := L5.ext e8
  refine z_go (fun Q hq => x_goto (dA d_La_second 6 rfl) rfl (x_iconst (dA d_La_second 10 rfl) hq)) ?_
  exact z_reti (dA d_La_second 11 rfl) rfl (inR_lit (0 : Int) rfl)
/-! TwoMillsLaw.law([I)Z -/
noncomputable def F_La_law_339 (G23 : Int → MH → RS Int) (v4 : Int) (h : MH) : RS Int := gd (inR (v4 + (4 : Int))) (G23 (v4 + (4 : Int)) h)
theorem S_La_law_339 {d : Nat} (hd : 96 ≤ d) {G23 : Int → MH → RS Int} (hG23 : ∀ (v4 : Int) (h : MH), LayC h → inR v4 → OK d k_La_law 23 [mS 200, mR 0, mR 107, mR 149, mI v4, mN, mN] [] h cI p01 (G23 v4 h)) {v4 : Int} {h : MH} (L : LayC h) (rv4 : inR v4) : OK d k_La_law 339 [mS 200, mR 0, mR 107, mR 149, mI v4, mN, mN] [] h cI p01 (F_La_law_339 G23 v4 h) := by
  unfold F_La_law_339
  refine z_gd (fun g1 => ?_)
  refine z_go (fun Q hq => x_iinc (dA d_La_law 195 rfl) rfl (by decide) rfl (x_goto (dA d_La_law 196 rfl) rfl hq)) ?_
  exact hG23 (v4 + (4 : Int)) h L g1
noncomputable def F_La_law_274 (G23 : Int → MH → RS Int) (v4 : Int) (h : MH) : RS Int := F_La_law_339 G23 v4 h
theorem S_La_law_274 {d : Nat} (hd : 96 ≤ d) {G23 : Int → MH → RS Int} (hG23 : ∀ (v4 : Int) (h : MH), LayC h → inR v4 → OK d k_La_law 23 [mS 200, mR 0, mR 107, mR 149, mI v4, mN, mN] [] h cI p01 (G23 v4 h)) {v4 : Int} {h : MH} (L : LayC h) (rv4 : inR v4) : OK d k_La_law 274 [mS 200, mR 0, mR 107, mR 149, mI v4, mN, mN] [] h cI p01 (F_La_law_274 G23 v4 h) := by
  unfold F_La_law_274
  refine z_go (fun Q hq => x_goto (dA d_La_law 150 rfl) rfl hq) ?_
  exact S_La_law_339 hd hG23 L rv4
noncomputable def F_La_law_230 (G23 : Int → MH → RS Int) (v4 : Int) (h : MH) : RS Int := F_La_law_339 G23 v4 h
theorem S_La_law_230 {d : Nat} (hd : 96 ≤ d) {G23 : Int → MH → RS Int} (hG23 : ∀ (v4 : Int) (h : MH), LayC h → inR v4 → OK d k_La_law 23 [mS 200, mR 0, mR 107, mR 149, mI v4, mN, mN] [] h cI p01 (G23 v4 h)) {v4 : Int} {h : MH} (L : LayC h) (rv4 : inR v4) : OK d k_La_law 230 [mS 200, mR 0, mR 107, mR 149, mI v4, mN, mN] [] h cI p01 (F_La_law_230 G23 v4 h) := by
  unfold F_La_law_230
  refine z_go (fun Q hq => x_goto (dA d_La_law 125 rfl) rfl hq) ?_
  exact S_La_law_339 hd hG23 L rv4
noncomputable def F_La_law_173 (G23 : Int → MH → RS Int) (v4 : Int) (h : MH) : RS Int := F_La_law_339 G23 v4 h
theorem S_La_law_173 {d : Nat} (hd : 96 ≤ d) {G23 : Int → MH → RS Int} (hG23 : ∀ (v4 : Int) (h : MH), LayC h → inR v4 → OK d k_La_law 23 [mS 200, mR 0, mR 107, mR 149, mI v4, mN, mN] [] h cI p01 (G23 v4 h)) {v4 : Int} {h : MH} (L : LayC h) (rv4 : inR v4) : OK d k_La_law 173 [mS 200, mR 0, mR 107, mR 149, mI v4, mN, mN] [] h cI p01 (F_La_law_173 G23 v4 h) := by
  unfold F_La_law_173
  refine z_go (fun Q hq => x_goto (dA d_La_law 93 rfl) rfl hq) ?_
  exact S_La_law_339 hd hG23 L rv4
noncomputable def F_La_law_23_b (G23 : Int → MH → RS Int) (v4 : Int) (h : MH) : RS Int := gd ((mSc h).length < 2147483648) (gd (inR (((mSc h).length : Int) - (4 : Int))) (if (((mSc h).length : Int) - (4 : Int)) < v4 then some (.inl (1 : Int), h) else gd (0 ≤ v4 ∧ v4 < ((mSc h).length : Int) ∧ (mSc h).length < 2147483648) (if (iAnd ((mSc h).getD v4.toNat 0) (7 : Int)) = (0 : Int) then gd (inR (v4 + (1 : Int))) (gd (0 ≤ (v4 + (1 : Int)) ∧ (v4 + (1 : Int)) < ((mSc h).length : Int) ∧ (mSc h).length < 2147483648) (gd (inR (v4 + (2 : Int))) (gd (0 ≤ (v4 + (2 : Int)) ∧ (v4 + (2 : Int)) < ((mSc h).length : Int) ∧ (mSc h).length < 2147483648) (gd (inR (v4 + (3 : Int))) (gd (0 ≤ (v4 + (3 : Int)) ∧ (v4 + (3 : Int)) < ((mSc h).length : Int) ∧ (mSc h).length < 2147483648) (bnd (F_La_type ((((Int32.ofInt ((mSc h).getD (v4 + (1 : Int)).toNat 0)).toInt64) <<< ((Int32.ofInt (32 : Int)).toInt64 &&& 63)) ||| (((Int32.ofInt ((mSc h).getD (v4 + (2 : Int)).toNat 0)).toInt64) &&& (4294967295 : Int64))) ((mSc h).getD (v4 + (3 : Int)).toNat 0) h) fun x15 h13 => gd (0 ≤ (v4 + (1 : Int)) ∧ (v4 + (1 : Int)) < ((mSc h13).length : Int) ∧ (mSc h13).length < 2147483648) (gd (0 ≤ (v4 + (2 : Int)) ∧ (v4 + (2 : Int)) < ((mSc h13).length : Int) ∧ (mSc h13).length < 2147483648) (gd (0 ≤ (v4 + (3 : Int)) ∧ (v4 + (3 : Int)) < ((mSc h13).length : Int) ∧ (mSc h13).length < 2147483648) (bnd (F_M_type ((((Int32.ofInt ((mSc h13).getD (v4 + (1 : Int)).toNat 0)).toInt64) <<< ((Int32.ofInt (32 : Int)).toInt64 &&& 63)) ||| (((Int32.ofInt ((mSc h13).getD (v4 + (2 : Int)).toNat 0)).toInt64) &&& (4294967295 : Int64))) ((mSc h13).getD (v4 + (3 : Int)).toNat 0) h13) fun x23 h21 => bnd (F_M_thrown h21) fun x28 h26 => if x28 = x15 then if x15 = 0 then gd (0 ≤ (0 : Int) ∧ (0 : Int) < 1) (if (lgI (mGl h26 149 (0 : Int).toNat) ((Int32.ofInt x23).toInt64)) = 0 then F_La_law_173 G23 v4 h26 else some (.inl (0 : Int), h26)) else F_La_law_173 G23 v4 h26 else some (.inl (0 : Int), h26)))))))))) else if (iAnd ((mSc h).getD v4.toNat 0) (7 : Int)) = (1 : Int) then bnd (F_T_clear h) fun x38 h36 => bnd (F_M_clear h36) fun x43 h41 => if x38 = x43 then F_La_law_339 G23 v4 h41 else some (.inl (0 : Int), h41) else if (iAnd ((mSc h).getD v4.toNat 0) (7 : Int)) = (2 : Int) then bnd (F_La_first h) fun x50 h48 => bnd (F_M_first h48) fun x55 h53 => bnd (F_M_thrown h53) fun x60 h58 => if x60 = x50 then if x50 = 0 then gd (0 ≤ (0 : Int) ∧ (0 : Int) < 1) (if (lgI (mGl h58 149 (0 : Int).toNat) ((Int32.ofInt x55).toInt64)) = 0 then F_La_law_230 G23 v4 h58 else some (.inl (0 : Int), h58)) else F_La_law_230 G23 v4 h58 else some (.inl (0 : Int), h58) else if (iAnd ((mSc h).getD v4.toNat 0) (7 : Int)) = (3 : Int) then bnd (F_La_second h) fun x70 h68 => bnd (F_M_second h68) fun x75 h73 => bnd (F_M_thrown h73) fun x80 h78 => if x80 = x70 then if x70 = 0 then gd (0 ≤ (0 : Int) ∧ (0 : Int) < 1) (if (lgI (mGl h78 149 (0 : Int).toNat) ((Int32.ofInt x75).toInt64)) = 0 then F_La_law_274 G23 v4 h78 else some (.inl (0 : Int), h78)) else F_La_law_274 G23 v4 h78 else some (.inl (0 : Int), h78) else if (iAnd ((mSc h).getD v4.toNat 0) (7 : Int)) = (4 : Int) then gd (inR (v4 + (1 : Int))) (gd (0 ≤ (v4 + (1 : Int)) ∧ (v4 + (1 : Int)) < ((mSc h).length : Int) ∧ (mSc h).length < 2147483648) (bnd (F_T_state ((mSc h).getD (v4 + (1 : Int)).toNat 0) h) fun x92 h90 => gd (0 ≤ (v4 + (1 : Int)) ∧ (v4 + (1 : Int)) < ((mSc h90).length : Int) ∧ (mSc h90).length < 2147483648) (bnd (F_M_state ((mSc h90).getD (v4 + (1 : Int)).toNat 0) h90) fun x98 h96 => if x92 = x98 then F_La_law_339 G23 v4 h96 else some (.inl (0 : Int), h96)))) else if (iAnd ((mSc h).getD v4.toNat 0) (7 : Int)) = (5 : Int) then gd (inR (v4 + (1 : Int))) (gd (0 ≤ (v4 + (1 : Int)) ∧ (v4 + (1 : Int)) < ((mSc h).length : Int) ∧ (mSc h).length < 2147483648) (gd (inR (v4 + (2 : Int))) (gd (0 ≤ (v4 + (2 : Int)) ∧ (v4 + (2 : Int)) < ((mSc h).length : Int) ∧ (mSc h).length < 2147483648) (bnd (F_T_character ((mSc h).getD (v4 + (1 : Int)).toNat 0) ((mSc h).getD (v4 + (2 : Int)).toNat 0) h) fun x109 h107 => gd (0 ≤ (v4 + (1 : Int)) ∧ (v4 + (1 : Int)) < ((mSc h107).length : Int) ∧ (mSc h107).length < 2147483648) (gd (0 ≤ (v4 + (2 : Int)) ∧ (v4 + (2 : Int)) < ((mSc h107).length : Int) ∧ (mSc h107).length < 2147483648) (bnd (F_M_character ((mSc h107).getD (v4 + (1 : Int)).toNat 0) ((mSc h107).getD (v4 + (2 : Int)).toNat 0) h107) fun x116 h114 => if x109 = x116 then F_La_law_339 G23 v4 h114 else some (.inl (0 : Int), h114))))))) else F_La_law_339 G23 v4 h)))
theorem S_La_law_23_b {d : Nat} (hd : 96 ≤ d) {G23 : Int → MH → RS Int} (hG23 : ∀ (v4 : Int) (h : MH), LayC h → inR v4 → OK d k_La_law 23 [mS 200, mR 0, mR 107, mR 149, mI v4, mN, mN] [] h cI p01 (G23 v4 h)) {v4 : Int} {h : MH} (L : LayC h) (rv4 : inR v4) : OK d k_La_law 23 [mS 200, mR 0, mR 107, mR 149, mI v4, mN, mN] [] h cI p01 (F_La_law_23_b G23 v4 h) := by
  unfold F_La_law_23_b
  refine z_go (fun Q hq => x_iload (dA d_La_law 13 rfl) rfl (x_sload_n (dA d_La_law 14 rfl) rfl rfl hq)) ?_
  refine z_gd (fun g2 => ?_)
  refine z_go (fun Q hq => x_slen (dA d_La_law 15 rfl) (x_iconst (dA d_La_law 16 rfl) hq)) ?_
  refine z_gd (fun g3 => ?_)
  refine z_go (fun Q hq => x_isub (dA d_La_law 17 rfl) hq) ?_
  refine z_br (fun Q => x_icmp_gt (dA d_La_law 18 rfl) rfl rv4 g3) (fun c4 => ?_) (fun c4 => ?_)
  · refine z_go (fun Q hq => x_iconst (dA d_La_law 197 rfl) hq) ?_
    exact z_retz (dA d_La_law 198 rfl) rfl (.inr rfl)
  · refine z_go (fun Q hq => x_sload_n (dA d_La_law 19 rfl) rfl rfl (x_iload (dA d_La_law 20 rfl) rfl hq)) ?_
    refine z_gd (fun g5 => ?_)
    refine z_go (fun Q hq => x_sld (dA d_La_law 21 rfl) g5.1 g5.2.1 g5.2.2 (x_bipush (dA d_La_law 22 rfl) (by decide) (x_andI (dA d_La_law 23 rfl) hq))) ?_
    refine z_ite (fun c6 => ?_) (fun c6 => ?_)
    · refine z_go (fun Q hq => x_tableIn (dA d_La_law 24 rfl) (inR_and _ _) (by rw [c6] <;> decide) (by rw [c6] <;> decide) (by rw [c6] <;> rfl) rfl hq) ?_
      refine z_go (fun Q hq => x_aload_n (dA d_La_law 25 rfl) rfl rfl (x_sload_n (dA d_La_law 26 rfl) rfl rfl (x_iload (dA d_La_law 27 rfl) rfl (x_iconst (dA d_La_law 28 rfl) hq)))) ?_
      refine z_gd (fun g7 => ?_)
      refine z_go (fun Q hq => x_iadd (dA d_La_law 29 rfl) hq) ?_
      refine z_gd (fun g8 => ?_)
      refine z_go (fun Q hq => x_sld (dA d_La_law 30 rfl) g8.1 g8.2.1 g8.2.2 (x_i2l (dA d_La_law 31 rfl) (x_bipush (dA d_La_law 32 rfl) (by decide) (x_lshl (dA d_La_law 33 rfl) (x_sload_n (dA d_La_law 34 rfl) rfl rfl (x_iload (dA d_La_law 35 rfl) rfl (x_iconst (dA d_La_law 36 rfl) hq))))))) ?_
      refine z_gd (fun g9 => ?_)
      refine z_go (fun Q hq => x_iadd (dA d_La_law 37 rfl) hq) ?_
      refine z_gd (fun g10 => ?_)
      refine z_go (fun Q hq => x_sld (dA d_La_law 38 rfl) g10.1 g10.2.1 g10.2.2 (x_i2l (dA d_La_law 39 rfl) (x_ldc2 (dA d_La_law 40 rfl) kl_La_30 (x_land (dA d_La_law 41 rfl) (x_lor (dA d_La_law 42 rfl) (x_sload_n (dA d_La_law 43 rfl) rfl rfl (x_iload (dA d_La_law 44 rfl) rfl (x_iconst (dA d_La_law 45 rfl) hq)))))))) ?_
      refine z_gd (fun g11 => ?_)
      refine z_go (fun Q hq => x_iadd (dA d_La_law 46 rfl) hq) ?_
      refine z_gd (fun g12 => ?_)
      refine z_go (fun Q hq => x_sld (dA d_La_law 47 rfl) g12.1 g12.2.1 g12.2.2 (x_aload_n (dA d_La_law 48 rfl) rfl rfl hq)) ?_
      refine z_bnd (rest := []) (st1 := fun v => mI v :: []) (S_La_type (d := 3) (Nat.le_refl _) L (L.sc _)) (fun _ hx => absurd hx List.not_mem_nil) (fun _ => rfl) (fun Q' Q => x_callS (as := [mR 0, mL ((((Int32.ofInt ((mSc h).getD (v4 + (1 : Int)).toNat 0)).toInt64) <<< ((Int32.ofInt (32 : Int)).toInt64 &&& 63)) ||| (((Int32.ofInt ((mSc h).getD (v4 + (2 : Int)).toNat 0)).toInt64) &&& (4294967295 : Int64))), mI ((mSc h).getD (v4 + (3 : Int)).toNat 0), mR 149]) (rest := []) (k' := k_La_type) (dA d_La_law 49 rfl) o_La_type lk_La_32 st_La_type (Nat.le_of_ble_eq_true rfl) (Nat.le_trans (Nat.le_of_ble_eq_true rfl) hd) (Nat.le_of_ble_eq_true rfl)) (fun x15 h13 e14 p16 => ?_)
      have L17 := L.ext e14
      refine z_go (fun Q hq => x_istore (dA d_La_law 50 rfl) (by decide) rfl (x_aload_n (dA d_La_law 51 rfl) rfl rfl (x_sload_n (dA d_La_law 52 rfl) rfl rfl (x_iload (dA d_La_law 53 rfl) rfl (x_iconst (dA d_La_law 54 rfl) (x_iadd (dA d_La_law 55 rfl) hq)))))) ?_
      refine z_gd (fun g18 => ?_)
      refine z_go (fun Q hq => x_sld (dA d_La_law 56 rfl) g18.1 g18.2.1 g18.2.2 (x_i2l (dA d_La_law 57 rfl) (x_bipush (dA d_La_law 58 rfl) (by decide) (x_lshl (dA d_La_law 59 rfl) (x_sload_n (dA d_La_law 60 rfl) rfl rfl (x_iload (dA d_La_law 61 rfl) rfl (x_iconst (dA d_La_law 62 rfl) (x_iadd (dA d_La_law 63 rfl) hq)))))))) ?_
      refine z_gd (fun g19 => ?_)
      refine z_go (fun Q hq => x_sld (dA d_La_law 64 rfl) g19.1 g19.2.1 g19.2.2 (x_i2l (dA d_La_law 65 rfl) (x_ldc2 (dA d_La_law 66 rfl) kl_La_30 (x_land (dA d_La_law 67 rfl) (x_lor (dA d_La_law 68 rfl) (x_sload_n (dA d_La_law 69 rfl) rfl rfl (x_iload (dA d_La_law 70 rfl) rfl (x_iconst (dA d_La_law 71 rfl) (x_iadd (dA d_La_law 72 rfl) hq))))))))) ?_
      refine z_gd (fun g20 => ?_)
      refine z_go (fun Q hq => x_sld (dA d_La_law 73 rfl) g20.1 g20.2.1 g20.2.2 hq) ?_
      refine z_bnd (rest := []) (st1 := fun v => mI v :: []) (S_M_type (d := 1) (Nat.le_refl _) L17 (L17.sc _)) (fun _ hx => absurd hx List.not_mem_nil) (fun _ => rfl) (fun Q' Q => x_callV (as := [mL ((((Int32.ofInt ((mSc h13).getD (v4 + (1 : Int)).toNat 0)).toInt64) <<< ((Int32.ofInt (32 : Int)).toInt64 &&& 63)) ||| (((Int32.ofInt ((mSc h13).getD (v4 + (2 : Int)).toNat 0)).toInt64) &&& (4294967295 : Int64))), mI ((mSc h13).getD (v4 + (3 : Int)).toNat 0)]) (rest := []) (k' := k_M_type) (dA d_La_law 74 rfl) o_M_type lk_La_37 im_M_type se_M_type rfl (L17.sh (x := (12, 66)) rfl) (by decide) (Nat.le_of_ble_eq_true rfl) (Nat.le_trans (Nat.le_of_ble_eq_true rfl) hd) (Nat.le_of_ble_eq_true rfl)) (fun x23 h21 e22 p24 => ?_)
      have L25 := L17.ext e22
      refine z_go (fun Q hq => x_istore (dA d_La_law 75 rfl) (by decide) rfl (x_aload_n (dA d_La_law 76 rfl) rfl rfl hq)) ?_
      refine z_bnd (rest := []) (st1 := fun v => mI v :: []) (S_M_thrown (d := 0) (Nat.le_refl _) L25 ) (fun _ hx => absurd hx List.not_mem_nil) (fun _ => rfl) (fun Q' Q => x_callV (as := []) (rest := []) (k' := k_M_thrown) (dA d_La_law 77 rfl) o_M_thrown lk_La_38 im_M_thrown se_M_thrown rfl (L25.sh (x := (12, 66)) rfl) (by decide) (Nat.le_of_ble_eq_true rfl) (Nat.le_trans (Nat.le_of_ble_eq_true rfl) hd) (Nat.le_of_ble_eq_true rfl)) (fun x28 h26 e27 p29 => ?_)
      have L30 := L25.ext e27
      refine z_go (fun Q hq => x_iload (dA d_La_law 78 rfl) rfl hq) ?_
      refine z_br (fun Q => x_icmp_eq (dA d_La_law 79 rfl) rfl p29 p16) (fun c31 => ?_) (fun c31 => ?_)
      · refine z_go (fun Q hq => x_iload (dA d_La_law 82 rfl) rfl hq) ?_
        refine z_brn (fun Q => x_if_ne (dA d_La_law 83 rfl) rfl p16) (fun c32 => ?_) (fun c32 => ?_)
        · refine z_go (fun Q hq => x_aload_n (dA d_La_law 84 rfl) rfl rfl (x_iconst (dA d_La_law 85 rfl) hq)) ?_
          refine z_gd (fun g33 => ?_)
          refine z_go (fun Q hq => x_lald (dA d_La_law 86 rfl) (L30.sh (x := (103, 1)) rfl) g33.1 g33.2 (by decide) (x_iload (dA d_La_law 87 rfl) rfl (x_i2l (dA d_La_law 88 rfl) (x_lcmp (dA d_La_law 89 rfl) hq)))) ?_
          refine z_br (fun Q => x_if_eq (dA d_La_law 90 rfl) rfl (inR_lgI _ _)) (fun c34 => ?_) (fun c34 => ?_)
          · refine z_fgt (ls' := [mS 200, mR 0, mR 107, mR 149, mI v4, mN, mN]) ⟨.inr rfl, .inr rfl, .inr rfl, .inr rfl, .inr rfl, .inl rfl, .inl rfl, trivial⟩ ?_
            exact S_La_law_173 hd hG23 L30 rv4
          · refine z_go (fun Q hq => x_iconst (dA d_La_law 91 rfl) hq) ?_
            exact z_retz (dA d_La_law 92 rfl) rfl (.inl rfl)
        · refine z_fgt (ls' := [mS 200, mR 0, mR 107, mR 149, mI v4, mN, mN]) ⟨.inr rfl, .inr rfl, .inr rfl, .inr rfl, .inr rfl, .inl rfl, .inl rfl, trivial⟩ ?_
          exact S_La_law_173 hd hG23 L30 rv4
      · refine z_go (fun Q hq => x_iconst (dA d_La_law 80 rfl) hq) ?_
        exact z_retz (dA d_La_law 81 rfl) rfl (.inl rfl)
    refine z_ite (fun c35 => ?_) (fun c35 => ?_)
    · refine z_go (fun Q hq => x_tableIn (dA d_La_law 24 rfl) (inR_and _ _) (by rw [c35] <;> decide) (by rw [c35] <;> decide) (by rw [c35] <;> rfl) rfl hq) ?_
      refine z_go (fun Q hq => x_aload_n (dA d_La_law 94 rfl) rfl rfl hq) ?_
      refine z_bnd (rest := []) (st1 := fun v => mI v :: []) (S_T_clear (d := 1) (Nat.le_refl _) L ) (fun _ hx => absurd hx List.not_mem_nil) (fun _ => rfl) (fun Q' Q => x_callV (as := []) (rest := []) (k' := k_T_clear) (dA d_La_law 95 rfl) o_T_clear lk_La_41 im_T_clear se_T_clear rfl (L.sh (x := (0, 5)) rfl) (by decide) (Nat.le_of_ble_eq_true rfl) (Nat.le_trans (Nat.le_of_ble_eq_true rfl) hd) (Nat.le_of_ble_eq_true rfl)) (fun x38 h36 e37 p39 => ?_)
      have L40 := L.ext e37
      refine z_go (fun Q hq => x_aload_n (dA d_La_law 96 rfl) rfl rfl hq) ?_
      refine z_bnd (rest := [mI x38]) (st1 := fun v => mI v :: [mI x38]) (S_M_clear (d := 0) (Nat.le_refl _) L40 ) (fun _ hx => absurd hx List.not_mem_nil) (fun _ => rfl) (fun Q' Q => x_callV (as := []) (rest := [mI x38]) (k' := k_M_clear) (dA d_La_law 97 rfl) o_M_clear lk_La_44 im_M_clear se_M_clear rfl (L40.sh (x := (12, 66)) rfl) (by decide) (Nat.le_of_ble_eq_true rfl) (Nat.le_trans (Nat.le_of_ble_eq_true rfl) hd) (Nat.le_of_ble_eq_true rfl)) (fun x43 h41 e42 p44 => ?_)
      have L45 := L40.ext e42
      refine z_br (fun Q => x_icmp_eq (dA d_La_law 98 rfl) rfl p39 p44) (fun c46 => ?_) (fun c46 => ?_)
      · exact S_La_law_339 hd hG23 L45 rv4
      · refine z_go (fun Q hq => x_iconst (dA d_La_law 99 rfl) hq) ?_
        exact z_retz (dA d_La_law 100 rfl) rfl (.inl rfl)
    refine z_ite (fun c47 => ?_) (fun c47 => ?_)
    · refine z_go (fun Q hq => x_tableIn (dA d_La_law 24 rfl) (inR_and _ _) (by rw [c47] <;> decide) (by rw [c47] <;> decide) (by rw [c47] <;> rfl) rfl hq) ?_
      refine z_go (fun Q hq => x_aload_n (dA d_La_law 101 rfl) rfl rfl (x_aload_n (dA d_La_law 102 rfl) rfl rfl hq)) ?_
      refine z_bnd (rest := []) (st1 := fun v => mI v :: []) (S_La_first (d := 11) (Nat.le_refl _) L ) (fun _ hx => absurd hx List.not_mem_nil) (fun _ => rfl) (fun Q' Q => x_callS (as := [mR 0, mR 149]) (rest := []) (k' := k_La_first) (dA d_La_law 103 rfl) o_La_first lk_La_45 st_La_first (Nat.le_of_ble_eq_true rfl) (Nat.le_trans (Nat.le_of_ble_eq_true rfl) hd) (Nat.le_of_ble_eq_true rfl)) (fun x50 h48 e49 p51 => ?_)
      have L52 := L.ext e49
      refine z_go (fun Q hq => x_istore (dA d_La_law 104 rfl) (by decide) rfl (x_aload_n (dA d_La_law 105 rfl) rfl rfl hq)) ?_
      refine z_bnd (rest := []) (st1 := fun v => mI v :: []) (S_M_first (d := 8) (Nat.le_refl _) L52 ) (fun _ hx => absurd hx List.not_mem_nil) (fun _ => rfl) (fun Q' Q => x_callV (as := []) (rest := []) (k' := k_M_first) (dA d_La_law 106 rfl) o_M_first lk_La_48 im_M_first se_M_first rfl (L52.sh (x := (12, 66)) rfl) (by decide) (Nat.le_of_ble_eq_true rfl) (Nat.le_trans (Nat.le_of_ble_eq_true rfl) hd) (Nat.le_of_ble_eq_true rfl)) (fun x55 h53 e54 p56 => ?_)
      have L57 := L52.ext e54
      refine z_go (fun Q hq => x_istore (dA d_La_law 107 rfl) (by decide) rfl (x_aload_n (dA d_La_law 108 rfl) rfl rfl hq)) ?_
      refine z_bnd (rest := []) (st1 := fun v => mI v :: []) (S_M_thrown (d := 0) (Nat.le_refl _) L57 ) (fun _ hx => absurd hx List.not_mem_nil) (fun _ => rfl) (fun Q' Q => x_callV (as := []) (rest := []) (k' := k_M_thrown) (dA d_La_law 109 rfl) o_M_thrown lk_La_38 im_M_thrown se_M_thrown rfl (L57.sh (x := (12, 66)) rfl) (by decide) (Nat.le_of_ble_eq_true rfl) (Nat.le_trans (Nat.le_of_ble_eq_true rfl) hd) (Nat.le_of_ble_eq_true rfl)) (fun x60 h58 e59 p61 => ?_)
      have L62 := L57.ext e59
      refine z_go (fun Q hq => x_iload (dA d_La_law 110 rfl) rfl hq) ?_
      refine z_br (fun Q => x_icmp_eq (dA d_La_law 111 rfl) rfl p61 p51) (fun c63 => ?_) (fun c63 => ?_)
      · refine z_go (fun Q hq => x_iload (dA d_La_law 114 rfl) rfl hq) ?_
        refine z_brn (fun Q => x_if_ne (dA d_La_law 115 rfl) rfl p51) (fun c64 => ?_) (fun c64 => ?_)
        · refine z_go (fun Q hq => x_aload_n (dA d_La_law 116 rfl) rfl rfl (x_iconst (dA d_La_law 117 rfl) hq)) ?_
          refine z_gd (fun g65 => ?_)
          refine z_go (fun Q hq => x_lald (dA d_La_law 118 rfl) (L62.sh (x := (103, 1)) rfl) g65.1 g65.2 (by decide) (x_iload (dA d_La_law 119 rfl) rfl (x_i2l (dA d_La_law 120 rfl) (x_lcmp (dA d_La_law 121 rfl) hq)))) ?_
          refine z_br (fun Q => x_if_eq (dA d_La_law 122 rfl) rfl (inR_lgI _ _)) (fun c66 => ?_) (fun c66 => ?_)
          · refine z_fgt (ls' := [mS 200, mR 0, mR 107, mR 149, mI v4, mN, mN]) ⟨.inr rfl, .inr rfl, .inr rfl, .inr rfl, .inr rfl, .inl rfl, .inl rfl, trivial⟩ ?_
            exact S_La_law_230 hd hG23 L62 rv4
          · refine z_go (fun Q hq => x_iconst (dA d_La_law 123 rfl) hq) ?_
            exact z_retz (dA d_La_law 124 rfl) rfl (.inl rfl)
        · refine z_fgt (ls' := [mS 200, mR 0, mR 107, mR 149, mI v4, mN, mN]) ⟨.inr rfl, .inr rfl, .inr rfl, .inr rfl, .inr rfl, .inl rfl, .inl rfl, trivial⟩ ?_
          exact S_La_law_230 hd hG23 L62 rv4
      · refine z_go (fun Q hq => x_iconst (dA d_La_law 112 rfl) hq) ?_
        exact z_retz (dA d_La_law 113 rfl) rfl (.inl rfl)
    refine z_ite (fun c67 => ?_) (fun c67 => ?_)
    · refine z_go (fun Q hq => x_tableIn (dA d_La_law 24 rfl) (inR_and _ _) (by rw [c67] <;> decide) (by rw [c67] <;> decide) (by rw [c67] <;> rfl) rfl hq) ?_
      refine z_go (fun Q hq => x_aload_n (dA d_La_law 126 rfl) rfl rfl (x_aload_n (dA d_La_law 127 rfl) rfl rfl hq)) ?_
      refine z_bnd (rest := []) (st1 := fun v => mI v :: []) (S_La_second (d := 95) (Nat.le_refl _) L ) (fun _ hx => absurd hx List.not_mem_nil) (fun _ => rfl) (fun Q' Q => x_callS (as := [mR 0, mR 149]) (rest := []) (k' := k_La_second) (dA d_La_law 128 rfl) o_La_second lk_La_49 st_La_second (Nat.le_of_ble_eq_true rfl) (Nat.le_trans (Nat.le_of_ble_eq_true rfl) hd) (Nat.le_of_ble_eq_true rfl)) (fun x70 h68 e69 p71 => ?_)
      have L72 := L.ext e69
      refine z_go (fun Q hq => x_istore (dA d_La_law 129 rfl) (by decide) rfl (x_aload_n (dA d_La_law 130 rfl) rfl rfl hq)) ?_
      refine z_bnd (rest := []) (st1 := fun v => mI v :: []) (S_M_second (d := 10) (Nat.le_refl _) L72 ) (fun _ hx => absurd hx List.not_mem_nil) (fun _ => rfl) (fun Q' Q => x_callV (as := []) (rest := []) (k' := k_M_second) (dA d_La_law 131 rfl) o_M_second lk_La_51 im_M_second se_M_second rfl (L72.sh (x := (12, 66)) rfl) (by decide) (Nat.le_of_ble_eq_true rfl) (Nat.le_trans (Nat.le_of_ble_eq_true rfl) hd) (Nat.le_of_ble_eq_true rfl)) (fun x75 h73 e74 p76 => ?_)
      have L77 := L72.ext e74
      refine z_go (fun Q hq => x_istore (dA d_La_law 132 rfl) (by decide) rfl (x_aload_n (dA d_La_law 133 rfl) rfl rfl hq)) ?_
      refine z_bnd (rest := []) (st1 := fun v => mI v :: []) (S_M_thrown (d := 0) (Nat.le_refl _) L77 ) (fun _ hx => absurd hx List.not_mem_nil) (fun _ => rfl) (fun Q' Q => x_callV (as := []) (rest := []) (k' := k_M_thrown) (dA d_La_law 134 rfl) o_M_thrown lk_La_38 im_M_thrown se_M_thrown rfl (L77.sh (x := (12, 66)) rfl) (by decide) (Nat.le_of_ble_eq_true rfl) (Nat.le_trans (Nat.le_of_ble_eq_true rfl) hd) (Nat.le_of_ble_eq_true rfl)) (fun x80 h78 e79 p81 => ?_)
      have L82 := L77.ext e79
      refine z_go (fun Q hq => x_iload (dA d_La_law 135 rfl) rfl hq) ?_
      refine z_br (fun Q => x_icmp_eq (dA d_La_law 136 rfl) rfl p81 p71) (fun c83 => ?_) (fun c83 => ?_)
      · refine z_go (fun Q hq => x_iload (dA d_La_law 139 rfl) rfl hq) ?_
        refine z_brn (fun Q => x_if_ne (dA d_La_law 140 rfl) rfl p71) (fun c84 => ?_) (fun c84 => ?_)
        · refine z_go (fun Q hq => x_aload_n (dA d_La_law 141 rfl) rfl rfl (x_iconst (dA d_La_law 142 rfl) hq)) ?_
          refine z_gd (fun g85 => ?_)
          refine z_go (fun Q hq => x_lald (dA d_La_law 143 rfl) (L82.sh (x := (103, 1)) rfl) g85.1 g85.2 (by decide) (x_iload (dA d_La_law 144 rfl) rfl (x_i2l (dA d_La_law 145 rfl) (x_lcmp (dA d_La_law 146 rfl) hq)))) ?_
          refine z_br (fun Q => x_if_eq (dA d_La_law 147 rfl) rfl (inR_lgI _ _)) (fun c86 => ?_) (fun c86 => ?_)
          · refine z_fgt (ls' := [mS 200, mR 0, mR 107, mR 149, mI v4, mN, mN]) ⟨.inr rfl, .inr rfl, .inr rfl, .inr rfl, .inr rfl, .inl rfl, .inl rfl, trivial⟩ ?_
            exact S_La_law_274 hd hG23 L82 rv4
          · refine z_go (fun Q hq => x_iconst (dA d_La_law 148 rfl) hq) ?_
            exact z_retz (dA d_La_law 149 rfl) rfl (.inl rfl)
        · refine z_fgt (ls' := [mS 200, mR 0, mR 107, mR 149, mI v4, mN, mN]) ⟨.inr rfl, .inr rfl, .inr rfl, .inr rfl, .inr rfl, .inl rfl, .inl rfl, trivial⟩ ?_
          exact S_La_law_274 hd hG23 L82 rv4
      · refine z_go (fun Q hq => x_iconst (dA d_La_law 137 rfl) hq) ?_
        exact z_retz (dA d_La_law 138 rfl) rfl (.inl rfl)
    refine z_ite (fun c87 => ?_) (fun c87 => ?_)
    · refine z_go (fun Q hq => x_tableIn (dA d_La_law 24 rfl) (inR_and _ _) (by rw [c87] <;> decide) (by rw [c87] <;> decide) (by rw [c87] <;> rfl) rfl hq) ?_
      refine z_go (fun Q hq => x_aload_n (dA d_La_law 151 rfl) rfl rfl (x_sload_n (dA d_La_law 152 rfl) rfl rfl (x_iload (dA d_La_law 153 rfl) rfl (x_iconst (dA d_La_law 154 rfl) hq)))) ?_
      refine z_gd (fun g88 => ?_)
      refine z_go (fun Q hq => x_iadd (dA d_La_law 155 rfl) hq) ?_
      refine z_gd (fun g89 => ?_)
      refine z_go (fun Q hq => x_sld (dA d_La_law 156 rfl) g89.1 g89.2.1 g89.2.2 hq) ?_
      refine z_bnd (rest := []) (st1 := fun v => mI v :: []) (S_T_state (d := 1) (Nat.le_refl _) L (L.sc _)) (fun _ hx => absurd hx List.not_mem_nil) (fun _ => rfl) (fun Q' Q => x_callV (as := [mI ((mSc h).getD (v4 + (1 : Int)).toNat 0)]) (rest := []) (k' := k_T_state) (dA d_La_law 157 rfl) o_T_state lk_La_52 im_T_state se_T_state rfl (L.sh (x := (0, 5)) rfl) (by decide) (Nat.le_of_ble_eq_true rfl) (Nat.le_trans (Nat.le_of_ble_eq_true rfl) hd) (Nat.le_of_ble_eq_true rfl)) (fun x92 h90 e91 p93 => ?_)
      have L94 := L.ext e91
      refine z_go (fun Q hq => x_aload_n (dA d_La_law 158 rfl) rfl rfl (x_sload_n (dA d_La_law 159 rfl) rfl rfl (x_iload (dA d_La_law 160 rfl) rfl (x_iconst (dA d_La_law 161 rfl) (x_iadd (dA d_La_law 162 rfl) hq))))) ?_
      refine z_gd (fun g95 => ?_)
      refine z_go (fun Q hq => x_sld (dA d_La_law 163 rfl) g95.1 g95.2.1 g95.2.2 hq) ?_
      refine z_bnd (rest := [mI x92]) (st1 := fun v => mI v :: [mI x92]) (S_M_state (d := 0) (Nat.le_refl _) L94 (L94.sc _)) (fun _ hx => absurd hx List.not_mem_nil) (fun _ => rfl) (fun Q' Q => x_callV (as := [mI ((mSc h90).getD (v4 + (1 : Int)).toNat 0)]) (rest := [mI x92]) (k' := k_M_state) (dA d_La_law 164 rfl) o_M_state lk_La_56 im_M_state se_M_state rfl (L94.sh (x := (12, 66)) rfl) (by decide) (Nat.le_of_ble_eq_true rfl) (Nat.le_trans (Nat.le_of_ble_eq_true rfl) hd) (Nat.le_of_ble_eq_true rfl)) (fun x98 h96 e97 p99 => ?_)
      have L100 := L94.ext e97
      refine z_br (fun Q => x_icmp_eq (dA d_La_law 165 rfl) rfl p93 p99) (fun c101 => ?_) (fun c101 => ?_)
      · exact S_La_law_339 hd hG23 L100 rv4
      · refine z_go (fun Q hq => x_iconst (dA d_La_law 166 rfl) hq) ?_
        exact z_retz (dA d_La_law 167 rfl) rfl (.inl rfl)
    refine z_ite (fun c102 => ?_) (fun c102 => ?_)
    · refine z_go (fun Q hq => x_tableIn (dA d_La_law 24 rfl) (inR_and _ _) (by rw [c102] <;> decide) (by rw [c102] <;> decide) (by rw [c102] <;> rfl) rfl hq) ?_
      refine z_go (fun Q hq => x_aload_n (dA d_La_law 168 rfl) rfl rfl (x_sload_n (dA d_La_law 169 rfl) rfl rfl (x_iload (dA d_La_law 170 rfl) rfl (x_iconst (dA d_La_law 171 rfl) hq)))) ?_
      refine z_gd (fun g103 => ?_)
      refine z_go (fun Q hq => x_iadd (dA d_La_law 172 rfl) hq) ?_
      refine z_gd (fun g104 => ?_)
      refine z_go (fun Q hq => x_sld (dA d_La_law 173 rfl) g104.1 g104.2.1 g104.2.2 (x_sload_n (dA d_La_law 174 rfl) rfl rfl (x_iload (dA d_La_law 175 rfl) rfl (x_iconst (dA d_La_law 176 rfl) hq)))) ?_
      refine z_gd (fun g105 => ?_)
      refine z_go (fun Q hq => x_iadd (dA d_La_law 177 rfl) hq) ?_
      refine z_gd (fun g106 => ?_)
      refine z_go (fun Q hq => x_sld (dA d_La_law 178 rfl) g106.1 g106.2.1 g106.2.2 hq) ?_
      refine z_bnd (rest := []) (st1 := fun v => mI v :: []) (S_T_character (d := 1) (Nat.le_refl _) L (L.sc _) (L.sc _)) (fun _ hx => absurd hx List.not_mem_nil) (fun _ => rfl) (fun Q' Q => x_callV (as := [mI ((mSc h).getD (v4 + (1 : Int)).toNat 0), mI ((mSc h).getD (v4 + (2 : Int)).toNat 0)]) (rest := []) (k' := k_T_character) (dA d_La_law 179 rfl) o_T_character lk_La_57 im_T_character se_T_character rfl (L.sh (x := (0, 5)) rfl) (by decide) (Nat.le_of_ble_eq_true rfl) (Nat.le_trans (Nat.le_of_ble_eq_true rfl) hd) (Nat.le_of_ble_eq_true rfl)) (fun x109 h107 e108 p110 => ?_)
      have L111 := L.ext e108
      refine z_go (fun Q hq => x_aload_n (dA d_La_law 180 rfl) rfl rfl (x_sload_n (dA d_La_law 181 rfl) rfl rfl (x_iload (dA d_La_law 182 rfl) rfl (x_iconst (dA d_La_law 183 rfl) (x_iadd (dA d_La_law 184 rfl) hq))))) ?_
      refine z_gd (fun g112 => ?_)
      refine z_go (fun Q hq => x_sld (dA d_La_law 185 rfl) g112.1 g112.2.1 g112.2.2 (x_sload_n (dA d_La_law 186 rfl) rfl rfl (x_iload (dA d_La_law 187 rfl) rfl (x_iconst (dA d_La_law 188 rfl) (x_iadd (dA d_La_law 189 rfl) hq))))) ?_
      refine z_gd (fun g113 => ?_)
      refine z_go (fun Q hq => x_sld (dA d_La_law 190 rfl) g113.1 g113.2.1 g113.2.2 hq) ?_
      refine z_bnd (rest := [mI x109]) (st1 := fun v => mI v :: [mI x109]) (S_M_character (d := 0) (Nat.le_refl _) L111 (L111.sc _) (L111.sc _)) (fun _ hx => absurd hx List.not_mem_nil) (fun _ => rfl) (fun Q' Q => x_callV (as := [mI ((mSc h107).getD (v4 + (1 : Int)).toNat 0), mI ((mSc h107).getD (v4 + (2 : Int)).toNat 0)]) (rest := [mI x109]) (k' := k_M_character) (dA d_La_law 191 rfl) o_M_character lk_La_61 im_M_character se_M_character rfl (L111.sh (x := (12, 66)) rfl) (by decide) (Nat.le_of_ble_eq_true rfl) (Nat.le_trans (Nat.le_of_ble_eq_true rfl) hd) (Nat.le_of_ble_eq_true rfl)) (fun x116 h114 e115 p117 => ?_)
      have L118 := L111.ext e115
      refine z_br (fun Q => x_icmp_eq (dA d_La_law 192 rfl) rfl p110 p117) (fun c119 => ?_) (fun c119 => ?_)
      · exact S_La_law_339 hd hG23 L118 rv4
      · refine z_go (fun Q hq => x_iconst (dA d_La_law 193 rfl) hq) ?_
        exact z_retz (dA d_La_law 194 rfl) rfl (.inl rfl)
    refine z_go (fun Q hq => x_tableOut (dA d_La_law 24 rfl) (inR_and _ _) (by omega) rfl hq) ?_
    exact S_La_law_339 hd hG23 L rv4
noncomputable def F_La_law_23 (v4 : Int) (h : MH) : RS Int := itr (fun self (q : Int × MH) => F_La_law_23_b (fun v4 h => self (v4, h)) q.1 q.2) FU (v4, h)
theorem S_La_law_23 {d : Nat} (hd : 96 ≤ d) {v4 : Int} {h : MH} (L : LayC h) (rv4 : inR v4) : OK d k_La_law 23 [mS 200, mR 0, mR 107, mR 149, mI v4, mN, mN] [] h cI p01 (F_La_law_23  v4 h) := by
  unfold F_La_law_23
  refine z_itr (P := fun q : Int × MH => LayC q.2 ∧ inR q.1 ∧ True) (ls := fun q : Int × MH => [mS 200, mR 0, mR 107, mR 149, mI q.1, mN, mN]) (hp := fun q : Int × MH => q.2) (fun self hs q hq => ?_) FU (v4, h) ⟨L, rv4, trivial⟩
  exact S_La_law_23_b hd (fun v4 h L rv4 => hs (v4, h) ⟨L, rv4, trivial⟩) hq.1 hq.2.1
end Fns
