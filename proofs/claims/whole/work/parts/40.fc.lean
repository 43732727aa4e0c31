section Fns
/-! TwoMills$Tokens.scan(II)J -/
noncomputable def F_To_scan_138 (s0 : Int) (s1 : Int) (s2 : Int) (h : MH) : RS Int64 := bnd (F_To_token s0 s1 s2 h) fun x3 h1 => some (.inl x3, h1)
theorem S_To_scan_138 {d : Nat} (hd : 1 ≤ d) {s0 : Int} {s1 : Int} {s2 : Int} {h : MH} (L : LayC h) (rs0 : inR s0) (rs1 : inR s1) (rs2 : inR s2) : OK d k_To_scan 138 [mN, mN, mN, mN, mN, mN] [mI s2, mI s1, mI s0] h cJ pT (F_To_scan_138  s0 s1 s2 h) := by
  unfold F_To_scan_138
  refine z_bnd (rest := []) (st1 := fun v => mL v :: []) (S_To_token (d := 0) (Nat.le_refl _) L rs0 rs1 rs2) (fun _ hx => absurd hx List.not_mem_nil) (fun _ => rfl) (fun Q' Q => x_callS (as := [mI s0, mI s1, mI s2]) (rest := []) (k' := k_To_token) (dA d_To_scan 79 rfl) o_To_token lk_To_41 st_To_token (Nat.le_of_ble_eq_true rfl) (Nat.le_trans (Nat.le_of_ble_eq_true rfl) hd) (Nat.le_of_ble_eq_true rfl)) (fun x3 h1 e2 p4 => ?_)
  have L5 := L.ext e2
  exact z_retj (dA d_To_scan 80 rfl) rfl
noncomputable def F_To_scan_137 (s0 : Int) (s1 : Int) (h : MH) : RS Int64 := F_To_scan_138 s0 s1 (1 : Int) h
theorem S_To_scan_137 {d : Nat} (hd : 1 ≤ d) {s0 : Int} {s1 : Int} {h : MH} (L : LayC h) (rs0 : inR s0) (rs1 : inR s1) : OK d k_To_scan 137 [mN, mN, mN, mN, mN, mN] [mI s1, mI s0] h cJ pT (F_To_scan_137  s0 s1 h) := by
  unfold F_To_scan_137
  refine z_go (fun Q hq => x_iconst (dA d_To_scan 78 rfl) hq) ?_
  exact S_To_scan_138 hd  L rs0 rs1 (inR_lit (1 : Int) rfl)
noncomputable def F_To_scan_109 (v1 : Int) (v2 : Int) (v3 : Int) (h : MH) : RS Int64 := gd (inR (v1 + (1 : Int))) (if v2 ≤ (v1 + (1 : Int)) then F_To_scan_137 (4 : Int) v1 h else gd (0 ≤ (v1 + (1 : Int)) ∧ (v1 + (1 : Int)) < 1302) (gd (0 ≤ v3 ∧ v3 < 65536) (bnd (F_To_isPair v3 (mGi h 88 (v1 + (1 : Int)).toNat) h) fun x12 h10 => if x12 = 0 then F_To_scan_137 (4 : Int) v1 h10 else F_To_scan_138 (4 : Int) v1 (2 : Int) h10)))
theorem S_To_scan_109 {d : Nat} (hd : 1 ≤ d) {v1 : Int} {v2 : Int} {v3 : Int} {h : MH} (L : LayC h) (rv1 : inR v1) (rv2 : inR v2) (rv3 : inR v3) : OK d k_To_scan 109 [mR 87, mI v1, mI v2, mI v3, mN, mN] [] h cJ pT (F_To_scan_109  v1 v2 v3 h) := by
  unfold F_To_scan_109
  refine z_go (fun Q hq => x_iconst (dA d_To_scan 60 rfl) (x_iload_n (dA d_To_scan 61 rfl) rfl rfl (x_iload_n (dA d_To_scan 62 rfl) rfl rfl (x_iconst (dA d_To_scan 63 rfl) hq)))) ?_
  refine z_gd (fun g6 => ?_)
  refine z_go (fun Q hq => x_iadd (dA d_To_scan 64 rfl) (x_iload_n (dA d_To_scan 65 rfl) rfl rfl hq)) ?_
  refine z_br (fun Q => x_icmp_ge (dA d_To_scan 66 rfl) rfl g6 rv2) (fun c7 => ?_) (fun c7 => ?_)
  · refine z_fgt (ls' := [mN, mN, mN, mN, mN, mN]) ⟨.inl rfl, .inl rfl, .inl rfl, .inl rfl, .inl rfl, .inl rfl, trivial⟩ ?_
    exact S_To_scan_137 hd  L (inR_lit (4 : Int) rfl) rv1
  · refine z_go (fun Q hq => x_iload_n (dA d_To_scan 67 rfl) rfl rfl (x_aload_n (dA d_To_scan 68 rfl) rfl rfl (x_getR (dA d_To_scan 69 rfl) f_To_11 (L.sh (x := (11, 3)) rfl) (by decide) (by decide) rfl (L.rf 95 rfl) (x_iload_n (dA d_To_scan 70 rfl) rfl rfl (x_iconst (dA d_To_scan 71 rfl) (x_iadd (dA d_To_scan 72 rfl) hq)))))) ?_
    refine z_gd (fun g8 => ?_)
    refine z_go (fun Q hq => x_cald (dA d_To_scan 73 rfl) (L.sh (x := (101, 1302)) rfl) g8.1 g8.2 (by decide) hq) ?_
    refine z_gd (fun g9 => ?_)
    refine z_bnd (rest := [mI v1, mI (4 : Int)]) (st1 := fun v => mI v :: [mI v1, mI (4 : Int)]) (S_To_isPair (d := 0) (Nat.le_refl _) L g9 (L.ch (L.sh (x := (101, 1302)) rfl) _)) (fun _ hx => absurd hx List.not_mem_nil) (fun _ => rfl) (fun Q' Q => x_callS (as := [mI v3, mI (mGi h 88 (v1 + (1 : Int)).toNat)]) (rest := [mI v1, mI (4 : Int)]) (k' := k_To_isPair) (dA d_To_scan 74 rfl) o_To_isPair lk_To_52 st_To_isPair (Nat.le_of_ble_eq_true rfl) (Nat.le_trans (Nat.le_of_ble_eq_true rfl) hd) (Nat.le_of_ble_eq_true rfl)) (fun x12 h10 e11 p13 => ?_)
    have L14 := L.ext e11
    refine z_br (fun Q => x_if_eq (dA d_To_scan 75 rfl) rfl p13.inR) (fun c15 => ?_) (fun c15 => ?_)
    · refine z_fgt (ls' := [mN, mN, mN, mN, mN, mN]) ⟨.inl rfl, .inl rfl, .inl rfl, .inl rfl, .inl rfl, .inl rfl, trivial⟩ ?_
      exact S_To_scan_137 hd  L14 (inR_lit (4 : Int) rfl) rv1
    · refine z_go (fun Q hq => x_iconst (dA d_To_scan 76 rfl) (x_goto (dA d_To_scan 77 rfl) rfl hq)) ?_
      refine z_fgt (ls' := [mN, mN, mN, mN, mN, mN]) ⟨.inl rfl, .inl rfl, .inl rfl, .inl rfl, .inl rfl, .inl rfl, trivial⟩ ?_
      exact S_To_scan_138 hd  L14 (inR_lit (4 : Int) rfl) rv1 (inR_lit (2 : Int) rfl)
noncomputable def F_To_scan_67_b (G67 : Int → Int → Int → Int → MH → RS Int64) (v1 : Int) (v2 : Int) (v3 : Int) (v5 : Int) (h : MH) : RS Int64 := if v3 = (34 : Int) then if v2 ≤ v5 then F_To_scan_109 v1 v2 v3 h else gd (0 ≤ v5 ∧ v5 < 1302) (if (mGi h 88 v5.toNat) = (34 : Int) then gd (inR (v5 + (1 : Int))) (gd (inR ((v5 + (1 : Int)) - v1)) (bnd (F_To_token (3 : Int) v1 ((v5 + (1 : Int)) - v1) h) fun x24 h22 => some (.inl x24, h22))) else gd (inR (v5 + (1 : Int))) (G67 v1 v2 v3 (v5 + (1 : Int)) h)) else F_To_scan_109 v1 v2 v3 h
theorem S_To_scan_67_b {d : Nat} (hd : 1 ≤ d) {G67 : Int → Int → Int → Int → MH → RS Int64} (hG67 : ∀ (v1 : Int) (v2 : Int) (v3 : Int) (v5 : Int) (h : MH), LayC h → inR v1 → inR v2 → inR v3 → inR v5 → OK d k_To_scan 67 [mR 87, mI v1, mI v2, mI v3, mN, mI v5] [] h cJ pT (G67 v1 v2 v3 v5 h)) {v1 : Int} {v2 : Int} {v3 : Int} {v5 : Int} {h : MH} (L : LayC h) (rv1 : inR v1) (rv2 : inR v2) (rv3 : inR v3) (rv5 : inR v5) : OK d k_To_scan 67 [mR 87, mI v1, mI v2, mI v3, mN, mI v5] [] h cJ pT (F_To_scan_67_b G67 v1 v2 v3 v5 h) := by
  unfold F_To_scan_67_b
  refine z_go (fun Q hq => x_iload_n (dA d_To_scan 37 rfl) rfl rfl (x_bipush (dA d_To_scan 38 rfl) (by decide) hq)) ?_
  refine z_brn (fun Q => x_icmp_ne (dA d_To_scan 39 rfl) rfl rv3 (inR_lit (34 : Int) rfl)) (fun c16 => ?_) (fun c16 => ?_)
  · refine z_go (fun Q hq => x_iload (dA d_To_scan 40 rfl) rfl (x_iload_n (dA d_To_scan 41 rfl) rfl rfl hq)) ?_
    refine z_br (fun Q => x_icmp_ge (dA d_To_scan 42 rfl) rfl rv5 rv2) (fun c17 => ?_) (fun c17 => ?_)
    · refine z_fgt (ls' := [mR 87, mI v1, mI v2, mI v3, mN, mN]) ⟨.inr rfl, .inr rfl, .inr rfl, .inr rfl, .inl rfl, .inl rfl, trivial⟩ ?_
      exact S_To_scan_109 hd  L rv1 rv2 rv3
    · refine z_go (fun Q hq => x_aload_n (dA d_To_scan 43 rfl) rfl rfl (x_getR (dA d_To_scan 44 rfl) f_To_11 (L.sh (x := (11, 3)) rfl) (by decide) (by decide) rfl (L.rf 95 rfl) (x_iload (dA d_To_scan 45 rfl) rfl hq))) ?_
      refine z_gd (fun g18 => ?_)
      refine z_go (fun Q hq => x_cald (dA d_To_scan 46 rfl) (L.sh (x := (101, 1302)) rfl) g18.1 g18.2 (by decide) (x_bipush (dA d_To_scan 47 rfl) (by decide) hq)) ?_
      refine z_brn (fun Q => x_icmp_ne (dA d_To_scan 48 rfl) rfl (L.rg _ _) (inR_lit (34 : Int) rfl)) (fun c19 => ?_) (fun c19 => ?_)
      · refine z_go (fun Q hq => x_iconst (dA d_To_scan 49 rfl) (x_iload_n (dA d_To_scan 50 rfl) rfl rfl (x_iload (dA d_To_scan 51 rfl) rfl (x_iconst (dA d_To_scan 52 rfl) hq)))) ?_
        refine z_gd (fun g20 => ?_)
        refine z_go (fun Q hq => x_iadd (dA d_To_scan 53 rfl) (x_iload_n (dA d_To_scan 54 rfl) rfl rfl hq)) ?_
        refine z_gd (fun g21 => ?_)
        refine z_go (fun Q hq => x_isub (dA d_To_scan 55 rfl) hq) ?_
        refine z_bnd (rest := []) (st1 := fun v => mL v :: []) (S_To_token (d := 0) (Nat.le_refl _) L (inR_lit (3 : Int) rfl) rv1 g21) (fun _ hx => absurd hx List.not_mem_nil) (fun _ => rfl) (fun Q' Q => x_callS (as := [mI (3 : Int), mI v1, mI ((v5 + (1 : Int)) - v1)]) (rest := []) (k' := k_To_token) (dA d_To_scan 56 rfl) o_To_token lk_To_41 st_To_token (Nat.le_of_ble_eq_true rfl) (Nat.le_trans (Nat.le_of_ble_eq_true rfl) hd) (Nat.le_of_ble_eq_true rfl)) (fun x24 h22 e23 p25 => ?_)
        have L26 := L.ext e23
        exact z_retj (dA d_To_scan 57 rfl) rfl
      · refine z_gd (fun g27 => ?_)
        refine z_go (fun Q hq => x_iinc (dA d_To_scan 58 rfl) rfl (by decide) rfl (x_goto (dA d_To_scan 59 rfl) rfl hq)) ?_
        exact hG67 v1 v2 v3 (v5 + (1 : Int)) h L rv1 rv2 rv3 g27
  · refine z_fgt (ls' := [mR 87, mI v1, mI v2, mI v3, mN, mN]) ⟨.inr rfl, .inr rfl, .inr rfl, .inr rfl, .inl rfl, .inl rfl, trivial⟩ ?_
    exact S_To_scan_109 hd  L rv1 rv2 rv3
noncomputable def F_To_scan_67 (v1 : Int) (v2 : Int) (v3 : Int) (v5 : Int) (h : MH) : RS Int64 := itr (fun self (q : Int × Int × Int × Int × MH) => F_To_scan_67_b (fun v1 v2 v3 v5 h => self (v1, v2, v3, v5, h)) q.1 q.2.1 q.2.2.1 q.2.2.2.1 q.2.2.2.2) FU (v1, v2, v3, v5, h)
theorem S_To_scan_67 {d : Nat} (hd : 1 ≤ d) {v1 : Int} {v2 : Int} {v3 : Int} {v5 : Int} {h : MH} (L : LayC h) (rv1 : inR v1) (rv2 : inR v2) (rv3 : inR v3) (rv5 : inR v5) : OK d k_To_scan 67 [mR 87, mI v1, mI v2, mI v3, mN, mI v5] [] h cJ pT (F_To_scan_67  v1 v2 v3 v5 h) := by
  unfold F_To_scan_67
  refine z_itr (P := fun q : Int × Int × Int × Int × MH => LayC q.2.2.2.2 ∧ inR q.1 ∧ inR q.2.1 ∧ inR q.2.2.1 ∧ inR q.2.2.2.1 ∧ True) (ls := fun q : Int × Int × Int × Int × MH => [mR 87, mI q.1, mI q.2.1, mI q.2.2.1, mN, mI q.2.2.2.1]) (hp := fun q : Int × Int × Int × Int × MH => q.2.2.2.2) (fun self hs q hq => ?_) FU (v1, v2, v3, v5, h) ⟨L, rv1, rv2, rv3, rv5, trivial⟩
  exact S_To_scan_67_b hd (fun v1 v2 v3 v5 h L rv1 rv2 rv3 rv5 => hs (v1, v2, v3, v5, h) ⟨L, rv1, rv2, rv3, rv5, trivial⟩) hq.1 hq.2.1 hq.2.2.1 hq.2.2.2.1 hq.2.2.2.2.1
noncomputable def F_To_scan_53 (v1 : Int) (v4 : Int) (s0 : Int) (h : MH) : RS Int64 := gd (inR (v4 - v1)) (bnd (F_To_token s0 v1 (v4 - v1) h) fun x31 h29 => some (.inl x31, h29))
theorem S_To_scan_53 {d : Nat} (hd : 1 ≤ d) {v1 : Int} {v4 : Int} {s0 : Int} {h : MH} (L : LayC h) (rv1 : inR v1) (rv4 : inR v4) (rs0 : inR s0) : OK d k_To_scan 53 [mN, mI v1, mN, mN, mI v4, mN] [mI s0] h cJ pT (F_To_scan_53  v1 v4 s0 h) := by
  unfold F_To_scan_53
  refine z_go (fun Q hq => x_iload_n (dA d_To_scan 27 rfl) rfl rfl (x_iload (dA d_To_scan 28 rfl) rfl (x_iload_n (dA d_To_scan 29 rfl) rfl rfl hq))) ?_
  refine z_gd (fun g28 => ?_)
  refine z_go (fun Q hq => x_isub (dA d_To_scan 30 rfl) hq) ?_
  refine z_bnd (rest := []) (st1 := fun v => mL v :: []) (S_To_token (d := 0) (Nat.le_refl _) L rs0 rv1 g28) (fun _ hx => absurd hx List.not_mem_nil) (fun _ => rfl) (fun Q' Q => x_callS (as := [mI s0, mI v1, mI (v4 - v1)]) (rest := []) (k' := k_To_token) (dA d_To_scan 31 rfl) o_To_token lk_To_41 st_To_token (Nat.le_of_ble_eq_true rfl) (Nat.le_trans (Nat.le_of_ble_eq_true rfl) hd) (Nat.le_of_ble_eq_true rfl)) (fun x31 h29 e30 p32 => ?_)
  have L33 := L.ext e30
  exact z_retj (dA d_To_scan 32 rfl) rfl
noncomputable def F_To_scan_35 (v1 : Int) (v2 : Int) (v3 : Int) (v4 : Int) (h : MH) : RS Int64 := if v4 ≤ v1 then gd (inR (v1 + (1 : Int))) (F_To_scan_67 v1 v2 v3 (v1 + (1 : Int)) h) else bnd (F_T_isDigit v3 h) fun x38 h36 => if x38 = 0 then F_To_scan_53 v1 v4 (1 : Int) h36 else F_To_scan_53 v1 v4 (2 : Int) h36
theorem S_To_scan_35 {d : Nat} (hd : 1 ≤ d) {v1 : Int} {v2 : Int} {v3 : Int} {v4 : Int} {h : MH} (L : LayC h) (rv1 : inR v1) (rv2 : inR v2) (rv3 : inR v3) (rv4 : inR v4) : OK d k_To_scan 35 [mR 87, mI v1, mI v2, mI v3, mI v4, mN] [] h cJ pT (F_To_scan_35  v1 v2 v3 v4 h) := by
  unfold F_To_scan_35
  refine z_go (fun Q hq => x_iload (dA d_To_scan 18 rfl) rfl (x_iload_n (dA d_To_scan 19 rfl) rfl rfl hq)) ?_
  refine z_br (fun Q => x_icmp_le (dA d_To_scan 20 rfl) rfl rv4 rv1) (fun c34 => ?_) (fun c34 => ?_)
  · refine z_go (fun Q hq => x_iload_n (dA d_To_scan 33 rfl) rfl rfl (x_iconst (dA d_To_scan 34 rfl) hq)) ?_
    refine z_gd (fun g35 => ?_)
    refine z_go (fun Q hq => x_iadd (dA d_To_scan 35 rfl) (x_istore (dA d_To_scan 36 rfl) (by decide) rfl hq)) ?_
    refine z_fgt (ls' := [mR 87, mI v1, mI v2, mI v3, mN, mI (v1 + (1 : Int))]) ⟨.inr rfl, .inr rfl, .inr rfl, .inr rfl, .inl rfl, .inr rfl, trivial⟩ ?_
    exact S_To_scan_67 hd  L rv1 rv2 rv3 g35
  · refine z_go (fun Q hq => x_iload_n (dA d_To_scan 21 rfl) rfl rfl hq) ?_
    refine z_bnd (rest := []) (st1 := fun v => mI v :: []) (S_T_isDigit (d := 0) (Nat.le_refl _) L rv3) (fun _ hx => absurd hx List.not_mem_nil) (fun _ => rfl) (fun Q' Q => x_callSN (as := [mI v3]) (rest := []) (k' := k_T_isDigit) (dA d_To_scan 22 rfl) o_T_isDigit lk_To_49 st_T_isDigit (Nat.le_of_ble_eq_true rfl) (Nat.le_trans (Nat.le_of_ble_eq_true rfl) hd) (Nat.le_of_ble_eq_true rfl)) (fun x38 h36 e37 p39 => ?_)
    have L40 := L.ext e37
    refine z_br (fun Q => x_if_eq (dA d_To_scan 23 rfl) rfl p39.inR) (fun c41 => ?_) (fun c41 => ?_)
    · refine z_go (fun Q hq => x_iconst (dA d_To_scan 26 rfl) hq) ?_
      refine z_fgt (ls' := [mN, mI v1, mN, mN, mI v4, mN]) ⟨.inl rfl, .inr rfl, .inl rfl, .inl rfl, .inr rfl, .inl rfl, trivial⟩ ?_
      exact S_To_scan_53 hd  L40 rv1 rv4 (inR_lit (1 : Int) rfl)
    · refine z_go (fun Q hq => x_iconst (dA d_To_scan 24 rfl) (x_goto (dA d_To_scan 25 rfl) rfl hq)) ?_
      refine z_fgt (ls' := [mN, mI v1, mN, mN, mI v4, mN]) ⟨.inl rfl, .inr rfl, .inl rfl, .inl rfl, .inr rfl, .inl rfl, trivial⟩ ?_
      exact S_To_scan_53 hd  L40 rv1 rv4 (inR_lit (2 : Int) rfl)
noncomputable def F_To_scan_10_b (G10 : Int → Int → Int → Int → MH → RS Int64) (v1 : Int) (v2 : Int) (v3 : Int) (v4 : Int) (h : MH) : RS Int64 := if v2 ≤ v4 then F_To_scan_35 v1 v2 v3 v4 h else gd (0 ≤ v4 ∧ v4 < 1302) (bnd (F_T_isWordPart (mGi h 88 v4.toNat) h) fun x46 h44 => if x46 = 0 then F_To_scan_35 v1 v2 v3 v4 h44 else gd (inR (v4 + (1 : Int))) (G10 v1 v2 v3 (v4 + (1 : Int)) h44))
theorem S_To_scan_10_b {d : Nat} (hd : 1 ≤ d) {G10 : Int → Int → Int → Int → MH → RS Int64} (hG10 : ∀ (v1 : Int) (v2 : Int) (v3 : Int) (v4 : Int) (h : MH), LayC h → inR v1 → inR v2 → inR v3 → inR v4 → OK d k_To_scan 10 [mR 87, mI v1, mI v2, mI v3, mI v4, mN] [] h cJ pT (G10 v1 v2 v3 v4 h)) {v1 : Int} {v2 : Int} {v3 : Int} {v4 : Int} {h : MH} (L : LayC h) (rv1 : inR v1) (rv2 : inR v2) (rv3 : inR v3) (rv4 : inR v4) : OK d k_To_scan 10 [mR 87, mI v1, mI v2, mI v3, mI v4, mN] [] h cJ pT (F_To_scan_10_b G10 v1 v2 v3 v4 h) := by
  unfold F_To_scan_10_b
  refine z_go (fun Q hq => x_iload (dA d_To_scan 7 rfl) rfl (x_iload_n (dA d_To_scan 8 rfl) rfl rfl hq)) ?_
  refine z_br (fun Q => x_icmp_ge (dA d_To_scan 9 rfl) rfl rv4 rv2) (fun c42 => ?_) (fun c42 => ?_)
  · exact S_To_scan_35 hd  L rv1 rv2 rv3 rv4
  · refine z_go (fun Q hq => x_aload_n (dA d_To_scan 10 rfl) rfl rfl (x_getR (dA d_To_scan 11 rfl) f_To_11 (L.sh (x := (11, 3)) rfl) (by decide) (by decide) rfl (L.rf 95 rfl) (x_iload (dA d_To_scan 12 rfl) rfl hq))) ?_
    refine z_gd (fun g43 => ?_)
    refine z_go (fun Q hq => x_cald (dA d_To_scan 13 rfl) (L.sh (x := (101, 1302)) rfl) g43.1 g43.2 (by decide) hq) ?_
    refine z_bnd (rest := []) (st1 := fun v => mI v :: []) (S_T_isWordPart (d := 0) (Nat.le_refl _) L (L.rg _ _)) (fun _ hx => absurd hx List.not_mem_nil) (fun _ => rfl) (fun Q' Q => x_callSN (as := [mI (mGi h 88 v4.toNat)]) (rest := []) (k' := k_T_isWordPart) (dA d_To_scan 14 rfl) o_T_isWordPart lk_To_45 st_T_isWordPart (Nat.le_of_ble_eq_true rfl) (Nat.le_trans (Nat.le_of_ble_eq_true rfl) hd) (Nat.le_of_ble_eq_true rfl)) (fun x46 h44 e45 p47 => ?_)
    have L48 := L.ext e45
    refine z_br (fun Q => x_if_eq (dA d_To_scan 15 rfl) rfl p47.inR) (fun c49 => ?_) (fun c49 => ?_)
    · exact S_To_scan_35 hd  L48 rv1 rv2 rv3 rv4
    · refine z_gd (fun g50 => ?_)
      refine z_go (fun Q hq => x_iinc (dA d_To_scan 16 rfl) rfl (by decide) rfl (x_goto (dA d_To_scan 17 rfl) rfl hq)) ?_
      exact hG10 v1 v2 v3 (v4 + (1 : Int)) h44 L48 rv1 rv2 rv3 g50
noncomputable def F_To_scan_10 (v1 : Int) (v2 : Int) (v3 : Int) (v4 : Int) (h : MH) : RS Int64 := itr (fun self (q : Int × Int × Int × Int × MH) => F_To_scan_10_b (fun v1 v2 v3 v4 h => self (v1, v2, v3, v4, h)) q.1 q.2.1 q.2.2.1 q.2.2.2.1 q.2.2.2.2) FU (v1, v2, v3, v4, h)
theorem S_To_scan_10 {d : Nat} (hd : 1 ≤ d) {v1 : Int} {v2 : Int} {v3 : Int} {v4 : Int} {h : MH} (L : LayC h) (rv1 : inR v1) (rv2 : inR v2) (rv3 : inR v3) (rv4 : inR v4) : OK d k_To_scan 10 [mR 87, mI v1, mI v2, mI v3, mI v4, mN] [] h cJ pT (F_To_scan_10  v1 v2 v3 v4 h) := by
  unfold F_To_scan_10
  refine z_itr (P := fun q : Int × Int × Int × Int × MH => LayC q.2.2.2.2 ∧ inR q.1 ∧ inR q.2.1 ∧ inR q.2.2.1 ∧ inR q.2.2.2.1 ∧ True) (ls := fun q : Int × Int × Int × Int × MH => [mR 87, mI q.1, mI q.2.1, mI q.2.2.1, mI q.2.2.2.1, mN]) (hp := fun q : Int × Int × Int × Int × MH => q.2.2.2.2) (fun self hs q hq => ?_) FU (v1, v2, v3, v4, h) ⟨L, rv1, rv2, rv3, rv4, trivial⟩
  exact S_To_scan_10_b hd (fun v1 v2 v3 v4 h L rv1 rv2 rv3 rv4 => hs (v1, v2, v3, v4, h) ⟨L, rv1, rv2, rv3, rv4, trivial⟩) hq.1 hq.2.1 hq.2.2.1 hq.2.2.2.1 hq.2.2.2.2.1
noncomputable def F_To_scan (a1 : Int) (a2 : Int) (h : MH) : RS Int64 := gd (0 ≤ a1 ∧ a1 < 1302) (F_To_scan_10 a1 a2 (mGi h 88 a1.toNat) a1 h)
theorem S_To_scan {d : Nat} (hd : 1 ≤ d) {a1 : Int} {a2 : Int} {h : MH} (L : LayC h) (ra1 : inR a1) (ra2 : inR a2) : OK d k_To_scan 0 [mR 87, mI a1, mI a2, mN, mN, mN] [] h cJ pT (F_To_scan  a1 a2 h) := by
  unfold F_To_scan
  refine z_go (fun Q hq => x_aload_n (dA d_To_scan 0 rfl) rfl rfl (x_getR (dA d_To_scan 1 rfl) f_To_11 (L.sh (x := (11, 3)) rfl) (by decide) (by decide) rfl (L.rf 95 rfl) (x_iload_n (dA d_To_scan 2 rfl) rfl rfl hq))) ?_
  refine z_gd (fun g51 => ?_)
  refine z_go (fun Q hq => x_cald (dA d_To_scan 3 rfl) (L.sh (x := (101, 1302)) rfl) g51.1 g51.2 (by decide) (x_istore_n (dA d_To_scan 4 rfl) rfl (by decide) rfl (x_iload_n (dA d_To_scan 5 rfl) rfl rfl (x_istore (dA d_To_scan 6 rfl) (by decide) rfl hq)))) ?_
  exact S_To_scan_10 hd  L ra1 ra2 (L.rg _ _) ra1
/-! TwoMills$SecondMill.cutLine(II)V -/
noncomputable def F_Sm_cutLine_7_b (G7 : Int → Int → MH → RS Unit) (v2 : Int) (v3 : Int) (h : MH) : RS Unit := if v2 ≤ v3 then some (.inl (), h) else gd (0 ≤ v3 ∧ v3 < 1302) (if (mGi h 88 v3.toNat) = (32 : Int) then gd (inR (v3 + (1 : Int))) (G7 v2 (v3 + (1 : Int)) h) else bnd (F_To_scan v3 v2 h) fun x7 h5 => gd (0 ≤ (mGi h 86 6) ∧ (mGi h 86 6) < 400) (sto (mPl h5 103 (mGi h 86 6).toNat x7) fun h11 => gd (0 ≤ (mGi h11 86 6) ∧ (mGi h11 86 6) < 400) (bnd (F_To_length (mGl h11 103 (mGi h11 86 6).toNat) h11) fun x17 h15 => gd (inR (v3 + (if (1 : Int) < x17 then x17 else (1 : Int)))) (gd (inR ((mGi h15 86 6) + (1 : Int))) (sto (mPi h15 86 6 ((mGi h15 86 6) + (1 : Int))) fun h22 => G7 v2 (v3 + (if (1 : Int) < x17 then x17 else (1 : Int))) h22)))))
theorem S_Sm_cutLine_7_b {d : Nat} (hd : 2 ≤ d) {G7 : Int → Int → MH → RS Unit} (hG7 : ∀ (v2 : Int) (v3 : Int) (h : MH), LayC h → inR v2 → inR v3 → OK d k_Sm_cutLine 7 [mR 86, mN, mI v2, mI v3] [] h cV pT (G7 v2 v3 h)) {v2 : Int} {v3 : Int} {h : MH} (L : LayC h) (rv2 : inR v2) (rv3 : inR v3) : OK d k_Sm_cutLine 7 [mR 86, mN, mI v2, mI v3] [] h cV pT (F_Sm_cutLine_7_b G7 v2 v3 h) := by
  unfold F_Sm_cutLine_7_b
  refine z_go (fun Q hq => x_iload_n (dA d_Sm_cutLine 5 rfl) rfl rfl (x_iload_n (dA d_Sm_cutLine 6 rfl) rfl rfl hq)) ?_
  refine z_br (fun Q => x_icmp_ge (dA d_Sm_cutLine 7 rfl) rfl rv3 rv2) (fun c1 => ?_) (fun c1 => ?_)
  · exact z_retv (dA d_Sm_cutLine 45 rfl) rfl
  · refine z_go (fun Q hq => x_aload_n (dA d_Sm_cutLine 8 rfl) rfl rfl (x_getR (dA d_Sm_cutLine 9 rfl) f_Sm_12 (L.sh (x := (10, 12)) rfl) (by decide) (by decide) rfl (L.rf 86 rfl) (x_getR (dA d_Sm_cutLine 10 rfl) f_Sm_87 (L.sh (x := (11, 3)) rfl) (by decide) (by decide) rfl (L.rf 95 rfl) (x_iload_n (dA d_Sm_cutLine 11 rfl) rfl rfl hq)))) ?_
    refine z_gd (fun g2 => ?_)
    refine z_go (fun Q hq => x_cald (dA d_Sm_cutLine 12 rfl) (L.sh (x := (101, 1302)) rfl) g2.1 g2.2 (by decide) (x_bipush (dA d_Sm_cutLine 13 rfl) (by decide) hq)) ?_
    refine z_brn (fun Q => x_icmp_ne (dA d_Sm_cutLine 14 rfl) rfl (L.rg _ _) (inR_lit (32 : Int) rfl)) (fun c3 => ?_) (fun c3 => ?_)
    · refine z_gd (fun g4 => ?_)
      refine z_go (fun Q hq => x_iinc (dA d_Sm_cutLine 15 rfl) rfl (by decide) rfl (x_goto (dA d_Sm_cutLine 16 rfl) rfl hq)) ?_
      exact hG7 v2 (v3 + (1 : Int)) h L rv2 g4
    · refine z_go (fun Q hq => x_aload_n (dA d_Sm_cutLine 17 rfl) rfl rfl (x_getR (dA d_Sm_cutLine 18 rfl) f_Sm_52 (L.sh (x := (10, 12)) rfl) (by decide) (by decide) rfl (L.rf 91 rfl) (x_aload_n (dA d_Sm_cutLine 19 rfl) rfl rfl (x_getI (dA d_Sm_cutLine 20 rfl) f_Sm_109 (L.sh (x := (10, 12)) rfl) (by decide) (by decide) rfl (x_aload_n (dA d_Sm_cutLine 21 rfl) rfl rfl (x_getR (dA d_Sm_cutLine 22 rfl) f_Sm_12 (L.sh (x := (10, 12)) rfl) (by decide) (by decide) rfl (L.rf 86 rfl) (x_iload_n (dA d_Sm_cutLine 23 rfl) rfl rfl (x_iload_n (dA d_Sm_cutLine 24 rfl) rfl rfl hq)))))))) ?_
      refine z_bnd (rest := [mI (mGi h 86 6), mR 103]) (st1 := fun v => mL v :: [mI (mGi h 86 6), mR 103]) (S_To_scan (d := 1) (Nat.le_refl _) L rv3 rv2) (fun _ hx => absurd hx List.not_mem_nil) (fun _ => rfl) (fun Q' Q => x_callV (as := [mI v3, mI v2]) (rest := [mI (mGi h 86 6), mR 103]) (k' := k_To_scan) (dA d_Sm_cutLine 25 rfl) o_To_scan lk_Sm_112 im_To_scan se_To_scan rfl (L.sh (x := (11, 3)) rfl) (by decide) (Nat.le_of_ble_eq_true rfl) (Nat.le_trans (Nat.le_of_ble_eq_true rfl) hd) (Nat.le_of_ble_eq_true rfl)) (fun x7 h5 e6 p8 => ?_)
      have L9 := L.ext e6
      refine z_gd (fun g10 => ?_)
      refine z_sto Ext.pl (fun Q hq => x_last (dA d_Sm_cutLine 26 rfl) (L9.sh (x := (103, 400)) rfl) g10.1 g10.2 (by decide) hq) (fun h11 e12 => ?_)
      have L13 := L9.ext e12
      refine z_go (fun Q hq => x_iload_n (dA d_Sm_cutLine 27 rfl) rfl rfl (x_iconst (dA d_Sm_cutLine 28 rfl) (x_aload_n (dA d_Sm_cutLine 29 rfl) rfl rfl (x_getR (dA d_Sm_cutLine 30 rfl) f_Sm_52 (L13.sh (x := (10, 12)) rfl) (by decide) (by decide) rfl (L13.rf 91 rfl) (x_aload_n (dA d_Sm_cutLine 31 rfl) rfl rfl (x_getI (dA d_Sm_cutLine 32 rfl) f_Sm_109 (L13.sh (x := (10, 12)) rfl) (by decide) (by decide) rfl hq)))))) ?_
      refine z_gd (fun g14 => ?_)
      refine z_go (fun Q hq => x_lald (dA d_Sm_cutLine 33 rfl) (L13.sh (x := (103, 400)) rfl) g14.1 g14.2 (by decide) hq) ?_
      refine z_bnd (rest := [mI (1 : Int), mI v3]) (st1 := fun v => mI v :: [mI (1 : Int), mI v3]) (S_To_length (d := 0) (Nat.le_refl _) L13 ) (fun _ hx => absurd hx List.not_mem_nil) (fun _ => rfl) (fun Q' Q => x_callS (as := [mL (mGl h11 103 (mGi h11 86 6).toNat)]) (rest := [mI (1 : Int), mI v3]) (k' := k_To_length) (dA d_Sm_cutLine 34 rfl) o_To_length lk_Sm_116 st_To_length (Nat.le_of_ble_eq_true rfl) (Nat.le_trans (Nat.le_of_ble_eq_true rfl) hd) (Nat.le_of_ble_eq_true rfl)) (fun x17 h15 e16 p18 => ?_)
      have L19 := L13.ext e16
      refine z_go (fun Q hq => x_max (dA d_Sm_cutLine 35 rfl) lk_Sm_119 mm_max_st mm_iz mm_max_co (inR_lit (1 : Int) rfl) p18 (Nat.le_of_ble_eq_true rfl) hq) ?_
      refine z_gd (fun g20 => ?_)
      refine z_go (fun Q hq => x_iadd (dA d_Sm_cutLine 36 rfl) (x_istore_n (dA d_Sm_cutLine 37 rfl) rfl (by decide) rfl (x_aload_n (dA d_Sm_cutLine 38 rfl) rfl rfl (x_dup (dA d_Sm_cutLine 39 rfl) rfl (x_getI (dA d_Sm_cutLine 40 rfl) f_Sm_109 (L19.sh (x := (10, 12)) rfl) (by decide) (by decide) rfl (x_iconst (dA d_Sm_cutLine 41 rfl) hq)))))) ?_
      refine z_gd (fun g21 => ?_)
      refine z_go (fun Q hq => x_iadd (dA d_Sm_cutLine 42 rfl) hq) ?_
      refine z_sto (Ext.pi (L19.sh (x := (10, 12)) rfl) (by decide) g21) (fun Q hq => x_putI (dA d_Sm_cutLine 43 rfl) p_Sm_109 (L19.sh (x := (10, 12)) rfl) (by decide) cl_Sm rfl hq) (fun h22 e23 => ?_)
      have L24 := L19.ext e23
      refine z_go (fun Q hq => x_goto (dA d_Sm_cutLine 44 rfl) rfl hq) ?_
      exact hG7 v2 (v3 + (if (1 : Int) < x17 then x17 else (1 : Int))) h22 L24 rv2 g20
noncomputable def F_Sm_cutLine_7 (v2 : Int) (v3 : Int) (h : MH) : RS Unit := itr (fun self (q : Int × Int × MH) => F_Sm_cutLine_7_b (fun v2 v3 h => self (v2, v3, h)) q.1 q.2.1 q.2.2) FU (v2, v3, h)
theorem S_Sm_cutLine_7 {d : Nat} (hd : 2 ≤ d) {v2 : Int} {v3 : Int} {h : MH} (L : LayC h) (rv2 : inR v2) (rv3 : inR v3) : OK d k_Sm_cutLine 7 [mR 86, mN, mI v2, mI v3] [] h cV pT (F_Sm_cutLine_7  v2 v3 h) := by
  unfold F_Sm_cutLine_7
  refine z_itr (P := fun q : Int × Int × MH => LayC q.2.2 ∧ inR q.1 ∧ inR q.2.1 ∧ True) (ls := fun q : Int × Int × MH => [mR 86, mN, mI q.1, mI q.2.1]) (hp := fun q : Int × Int × MH => q.2.2) (fun self hs q hq => ?_) FU (v2, v3, h) ⟨L, rv2, rv3, trivial⟩
  exact S_Sm_cutLine_7_b hd (fun v2 v3 h L rv2 rv3 => hs (v2, v3, h) ⟨L, rv2, rv3, trivial⟩) hq.1 hq.2.1 hq.2.2.1
noncomputable def F_Sm_cutLine (a1 : Int) (a2 : Int) (h : MH) : RS Unit := sto (mPi h 86 6 (0 : Int)) fun h25 => F_Sm_cutLine_7 a2 a1 h25
theorem S_Sm_cutLine {d : Nat} (hd : 2 ≤ d) {a1 : Int} {a2 : Int} {h : MH} (L : LayC h) (ra1 : inR a1) (ra2 : inR a2) : OK d k_Sm_cutLine 0 [mR 86, mI a1, mI a2, mN] [] h cV pT (F_Sm_cutLine  a1 a2 h) := by
  unfold F_Sm_cutLine
  refine z_go (fun Q hq => x_aload_n (dA d_Sm_cutLine 0 rfl) rfl rfl (x_iconst (dA d_Sm_cutLine 1 rfl) hq)) ?_
  refine z_sto (Ext.pi (L.sh (x := (10, 12)) rfl) (by decide) (inR_lit (0 : Int) rfl)) (fun Q hq => x_putI (dA d_Sm_cutLine 2 rfl) p_Sm_109 (L.sh (x := (10, 12)) rfl) (by decide) cl_Sm rfl hq) (fun h25 e26 => ?_)
  have L27 := L.ext e26
  refine z_go (fun Q hq => x_iload_n (dA d_Sm_cutLine 3 rfl) rfl rfl (x_istore_n (dA d_Sm_cutLine 4 rfl) rfl (by decide) rfl hq)) ?_
  refine z_fgt (ls' := [mR 86, mN, mI a2, mI a1]) ⟨.inr rfl, .inl rfl, .inr rfl, .inr rfl, trivial⟩ ?_
  exact S_Sm_cutLine_7 hd  L27 ra2 ra1
/-! TwoMills$Tokens.fail(I)V -/
noncomputable def F_To_fail (a1 : Int) (h : MH) : RS Unit := sto (mPi h 87 2 a1) fun h1 => thr 13 h1
theorem S_To_fail {d : Nat} (hd : 0 ≤ d) {a1 : Int} {h : MH} (L : LayC h) (ra1 : inR a1) : OK d k_To_fail 0 [mR 87, mI a1] [] h cV pT (F_To_fail  a1 h) := by
  unfold F_To_fail
  refine z_go (fun Q hq => x_aload_n (dA d_To_fail 0 rfl) rfl rfl (x_iload_n (dA d_To_fail 1 rfl) rfl rfl hq)) ?_
  refine z_sto (Ext.pi (L.sh (x := (11, 3)) rfl) (by decide) ra1) (fun Q hq => x_putI (dA d_To_fail 2 rfl) p_To_31 (L.sh (x := (11, 3)) rfl) (by decide) cl_To rfl hq) (fun h1 e2 => ?_)
  have L3 := L.ext e2
  exact z_thr (dA d_To_fail 3 rfl) (dA d_To_fail 4 rfl) (dA d_To_fail 5 rfl) (dA d_To_fail 6 rfl) e_To_34 (fun _ hx => absurd hx List.not_mem_nil) (Nat.le_of_ble_eq_true rfl)
/-! TwoMills$SecondMill.requireNoLevel()V -/
noncomputable def F_Sm_requireNoLevel (h : MH) : RS Unit := if (mGi h 86 11) ≤ 0 then some (.inl (), h) else bnd (F_To_fail (10 : Int) h) fun x4 h2 => some (.inl (), h2)
theorem S_Sm_requireNoLevel {d : Nat} (hd : 1 ≤ d) {h : MH} (L : LayC h) : OK d k_Sm_requireNoLevel 0 [mR 86] [] h cV pT (F_Sm_requireNoLevel   h) := by
  unfold F_Sm_requireNoLevel
  refine z_go (fun Q hq => x_aload_n (dA d_Sm_requireNoLevel 0 rfl) rfl rfl (x_getI (dA d_Sm_requireNoLevel 1 rfl) f_Sm_78 (L.sh (x := (10, 12)) rfl) (by decide) (by decide) rfl hq)) ?_
  refine z_br (fun Q => x_if_le (dA d_Sm_requireNoLevel 2 rfl) rfl (L.rg _ _)) (fun c1 => ?_) (fun c1 => ?_)
  · exact z_retv (dA d_Sm_requireNoLevel 7 rfl) rfl
  · refine z_go (fun Q hq => x_aload_n (dA d_Sm_requireNoLevel 3 rfl) rfl rfl (x_getR (dA d_Sm_requireNoLevel 4 rfl) f_Sm_12 (L.sh (x := (10, 12)) rfl) (by decide) (by decide) rfl (L.rf 86 rfl) (x_bipush (dA d_Sm_requireNoLevel 5 rfl) (by decide) hq))) ?_
    refine z_bnd (rest := []) (st1 := fun _ => []) (S_To_fail (d := 0) (Nat.le_refl _) L (inR_lit (10 : Int) rfl)) (fun _ hx => absurd hx List.not_mem_nil) (fun _ => rfl) (fun Q' Q => x_callV (as := [mI (10 : Int)]) (rest := []) (k' := k_To_fail) (dA d_Sm_requireNoLevel 6 rfl) o_To_fail lk_Sm_106 im_To_fail se_To_fail rfl (L.sh (x := (11, 3)) rfl) (by decide) (Nat.le_of_ble_eq_true rfl) (Nat.le_trans (Nat.le_of_ble_eq_true rfl) hd) (Nat.le_of_ble_eq_true rfl)) (fun x4 h2 e3 p5 => ?_)
    have L6 := L.ext e3
    exact z_retv (dA d_Sm_requireNoLevel 7 rfl) rfl
/-! TwoMills$Expander.areArgumentsFor(ILTwoMills$Row;)Z -/
noncomputable def F_Ex_areArgumentsFor_41 (h : MH) : RS Int := some (.inl (0 : Int), h)
theorem S_Ex_areArgumentsFor_41 {d : Nat} (hd : 0 ≤ d) {h : MH} (L : LayC h) : OK d k_Ex_areArgumentsFor 41 [mN, mN, mN] [] h cI p01 (F_Ex_areArgumentsFor_41   h) := by
  unfold F_Ex_areArgumentsFor_41
  refine z_go (fun Q hq => x_iconst (dA d_Ex_areArgumentsFor 23 rfl) hq) ?_
  exact z_retz (dA d_Ex_areArgumentsFor 24 rfl) rfl (.inl rfl)
noncomputable def F_Ex_areArgumentsFor (a1 : Int) (a2 : Nat) (h : MH) : RS Int := gd (0 ≤ a1 ∧ a1 < 8) (if (mGi h 91 a1.toNat) = 0 then if (mGi h a2 7) = (1 : Int) then gd (0 ≤ (1 : Int) ∧ (1 : Int) < 4) (gd (0 ≤ (0 : Int) ∧ (0 : Int) < 4) (gd (inR ((mGi h (a2 + 4) (0 : Int).toNat) + (1 : Int))) (if (mGi h (a2 + 4) (1 : Int).toNat) = ((mGi h (a2 + 4) (0 : Int).toNat) + (1 : Int)) then some (.inl (1 : Int), h) else F_Ex_areArgumentsFor_41  h))) else F_Ex_areArgumentsFor_41  h else if (mGi h a2 7) = (mGi h 91 a1.toNat) then some (.inl (1 : Int), h) else some (.inl (0 : Int), h))
theorem S_Ex_areArgumentsFor {d : Nat} (hd : 0 ≤ d) {a1 : Int} {a2 : Nat} {h : MH} (L : LayC h) (ra1 : inR a1) (oa2 : RoO h a2) : OK d k_Ex_areArgumentsFor 0 [mR 95, mI a1, mR a2] [] h cI p01 (F_Ex_areArgumentsFor  a1 a2 h) := by
  unfold F_Ex_areArgumentsFor
  refine z_go (fun Q hq => x_aload_n (dA d_Ex_areArgumentsFor 0 rfl) rfl rfl (x_getR (dA d_Ex_areArgumentsFor 1 rfl) f_Ex_21 (L.sh (x := (4, 4)) rfl) (by decide) (by decide) rfl (L.rf 102 rfl) (x_getR (dA d_Ex_areArgumentsFor 2 rfl) f_Ex_61 (L.sh (x := (8, 5)) rfl) (by decide) (by decide) rfl (L.rf 97 rfl) (x_iload_n (dA d_Ex_areArgumentsFor 3 rfl) rfl rfl hq)))) ?_
  refine z_gd (fun g1 => ?_)
  refine z_go (fun Q hq => x_iald (dA d_Ex_areArgumentsFor 4 rfl) (L.sh (x := (100, 8)) rfl) g1.1 g1.2 (by decide) hq) ?_
  refine z_brn (fun Q => x_if_ne (dA d_Ex_areArgumentsFor 5 rfl) rfl (L.rg _ _)) (fun c2 => ?_) (fun c2 => ?_)
  · refine z_go (fun Q hq => x_aload_n (dA d_Ex_areArgumentsFor 6 rfl) rfl rfl (x_getI (dA d_Ex_areArgumentsFor 7 rfl) f_Ex_85 oa2.1 (by decide) (by decide) rfl (x_iconst (dA d_Ex_areArgumentsFor 8 rfl) hq))) ?_
    refine z_brn (fun Q => x_icmp_ne (dA d_Ex_areArgumentsFor 9 rfl) rfl (L.rg _ _) (inR_lit (1 : Int) rfl)) (fun c3 => ?_) (fun c3 => ?_)
    · refine z_go (fun Q hq => x_aload_n (dA d_Ex_areArgumentsFor 10 rfl) rfl rfl (x_getR (dA d_Ex_areArgumentsFor 11 rfl) f_Ex_88 oa2.1 (by decide) (by decide) rfl oa2.2.1.2.2.2 (x_iconst (dA d_Ex_areArgumentsFor 12 rfl) hq))) ?_
      refine z_gd (fun g4 => ?_)
      refine z_go (fun Q hq => x_iald (dA d_Ex_areArgumentsFor 13 rfl) (show ArO _ _ _ _ from ⟨oa2.2.2.2.2.2, by decide⟩).1 g4.1 g4.2 (show ArO _ _ _ _ from ⟨oa2.2.2.2.2.2, by decide⟩).2 (x_aload_n (dA d_Ex_areArgumentsFor 14 rfl) rfl rfl (x_getR (dA d_Ex_areArgumentsFor 15 rfl) f_Ex_88 oa2.1 (by decide) (by decide) rfl oa2.2.1.2.2.2 (x_iconst (dA d_Ex_areArgumentsFor 16 rfl) hq)))) ?_
      refine z_gd (fun g5 => ?_)
      refine z_go (fun Q hq => x_iald (dA d_Ex_areArgumentsFor 17 rfl) (show ArO _ _ _ _ from ⟨oa2.2.2.2.2.2, by decide⟩).1 g5.1 g5.2 (show ArO _ _ _ _ from ⟨oa2.2.2.2.2.2, by decide⟩).2 (x_iconst (dA d_Ex_areArgumentsFor 18 rfl) hq)) ?_
      refine z_gd (fun g6 => ?_)
      refine z_go (fun Q hq => x_iadd (dA d_Ex_areArgumentsFor 19 rfl) hq) ?_
      refine z_brn (fun Q => x_icmp_ne (dA d_Ex_areArgumentsFor 20 rfl) rfl (L.rg _ _) g6) (fun c7 => ?_) (fun c7 => ?_)
      · refine z_go (fun Q hq => x_iconst (dA d_Ex_areArgumentsFor 21 rfl) (x_goto (dA d_Ex_areArgumentsFor 22 rfl) rfl hq)) ?_
        exact z_retz (dA d_Ex_areArgumentsFor 24 rfl) rfl (.inr rfl)
      · refine z_fgt (ls' := [mN, mN, mN]) ⟨.inl rfl, .inl rfl, .inl rfl, trivial⟩ ?_
        exact S_Ex_areArgumentsFor_41 hd  L 
    · refine z_fgt (ls' := [mN, mN, mN]) ⟨.inl rfl, .inl rfl, .inl rfl, trivial⟩ ?_
      exact S_Ex_areArgumentsFor_41 hd  L 
  · refine z_go (fun Q hq => x_aload_n (dA d_Ex_areArgumentsFor 25 rfl) rfl rfl (x_getI (dA d_Ex_areArgumentsFor 26 rfl) f_Ex_85 oa2.1 (by decide) (by decide) rfl (x_aload_n (dA d_Ex_areArgumentsFor 27 rfl) rfl rfl (x_getR (dA d_Ex_areArgumentsFor 28 rfl) f_Ex_21 (L.sh (x := (4, 4)) rfl) (by decide) (by decide) rfl (L.rf 102 rfl) (x_getR (dA d_Ex_areArgumentsFor 29 rfl) f_Ex_61 (L.sh (x := (8, 5)) rfl) (by decide) (by decide) rfl (L.rf 97 rfl) (x_iload_n (dA d_Ex_areArgumentsFor 30 rfl) rfl rfl (x_iald (dA d_Ex_areArgumentsFor 31 rfl) (L.sh (x := (100, 8)) rfl) g1.1 g1.2 (by decide) hq))))))) ?_
    refine z_brn (fun Q => x_icmp_ne (dA d_Ex_areArgumentsFor 32 rfl) rfl (L.rg _ _) (L.rg _ _)) (fun c8 => ?_) (fun c8 => ?_)
    · refine z_go (fun Q hq => x_iconst (dA d_Ex_areArgumentsFor 33 rfl) (x_goto (dA d_Ex_areArgumentsFor 34 rfl) rfl hq)) ?_
      exact z_retz (dA d_Ex_areArgumentsFor 36 rfl) rfl (.inr rfl)
    · refine z_go (fun Q hq => x_iconst (dA d_Ex_areArgumentsFor 35 rfl) hq) ?_
      exact z_retz (dA d_Ex_areArgumentsFor 36 rfl) rfl (.inl rfl)
/-! TwoMills$Tokens.hiding(JI)J -/
noncomputable def F_To_hiding (a1 : Int64) (a2 : Int) (h : MH) : RS Int64 := some (.inl (a1 ||| (((Int32.ofInt a2).toInt64) <<< ((Int32.ofInt (40 : Int)).toInt64 &&& 63))), h)
theorem S_To_hiding {d : Nat} (hd : 0 ≤ d) {a1 : Int64} {a2 : Int} {h : MH} (L : LayC h) (ra2 : inR a2) : OK d k_To_hiding 0 [mL a1, mN, mI a2] [] h cJ pT (F_To_hiding  a1 a2 h) := by
  unfold F_To_hiding
  refine z_go (fun Q hq => x_lload_n (dA d_To_hiding 0 rfl) rfl rfl (x_iload_n (dA d_To_hiding 1 rfl) rfl rfl (x_i2l (dA d_To_hiding 2 rfl) (x_bipush (dA d_To_hiding 3 rfl) (by decide) (x_lshl (dA d_To_hiding 4 rfl) (x_lor (dA d_To_hiding 5 rfl) hq)))))) ?_
  exact z_retj (dA d_To_hiding 6 rfl) rfl
/-! TwoMills$Expander.hide(LTwoMills$Row;I)V -/
noncomputable def F_Ex_hide_47 (G5 : Nat → Int → Int → Int → MH → RS Unit) (v1 : Nat) (v2 : Int) (v3 : Int) (v4 : Int) (h : MH) : RS Unit := gd (inR (v4 + (1 : Int))) (G5 v1 v2 v3 (v4 + (1 : Int)) h)
theorem S_Ex_hide_47 {d : Nat} (hd : 1 ≤ d) {G5 : Nat → Int → Int → Int → MH → RS Unit} (hG5 : ∀ (v1 : Nat) (v2 : Int) (v3 : Int) (v4 : Int) (h : MH), LayC h → RoO h v1 → inR v2 → inR v3 → inR v4 → OK d k_Ex_hide 5 [mN, mR v1, mI v2, mI v3, mI v4] [] h cV pT (G5 v1 v2 v3 v4 h)) {v1 : Nat} {v2 : Int} {v3 : Int} {v4 : Int} {h : MH} (L : LayC h) (ov1 : RoO h v1) (rv2 : inR v2) (rv3 : inR v3) (rv4 : inR v4) : OK d k_Ex_hide 47 [mN, mR v1, mI v2, mI v3, mI v4] [] h cV pT (F_Ex_hide_47 G5 v1 v2 v3 v4 h) := by
  unfold F_Ex_hide_47
  refine z_gd (fun g1 => ?_)
  refine z_go (fun Q hq => x_iinc (dA d_Ex_hide 25 rfl) rfl (by decide) rfl (x_goto (dA d_Ex_hide 26 rfl) rfl hq)) ?_
  exact hG5 v1 v2 v3 (v4 + (1 : Int)) h L ov1 rv2 rv3 g1
noncomputable def F_Ex_hide_5_b (G5 : Nat → Int → Int → Int → MH → RS Unit) (v1 : Nat) (v2 : Int) (v3 : Int) (v4 : Int) (h : MH) : RS Unit := if (mGi h v1 5) ≤ v4 then sto (mPi h v1 5 v3) fun h3 => some (.inl (), h3) else gd (0 ≤ v4 ∧ v4 < 1200) (bnd (F_To_length (mGl h (v1 + 3) v4.toNat) h) fun x9 h7 => if x9 ≤ 0 then F_Ex_hide_47 G5 v1 v2 v3 v4 h7 else bnd (F_To_hiding (mGl h7 (v1 + 3) v4.toNat) v2 h7) fun x15 h13 => gd (0 ≤ v3 ∧ v3 < 1200) (sto (mPl h13 (v1 + 3) v3.toNat x15) fun h19 => gd (inR (v3 + (1 : Int))) (F_Ex_hide_47 G5 v1 v2 (v3 + (1 : Int)) v4 h19)))
theorem S_Ex_hide_5_b {d : Nat} (hd : 1 ≤ d) {G5 : Nat → Int → Int → Int → MH → RS Unit} (hG5 : ∀ (v1 : Nat) (v2 : Int) (v3 : Int) (v4 : Int) (h : MH), LayC h → RoO h v1 → inR v2 → inR v3 → inR v4 → OK d k_Ex_hide 5 [mN, mR v1, mI v2, mI v3, mI v4] [] h cV pT (G5 v1 v2 v3 v4 h)) {v1 : Nat} {v2 : Int} {v3 : Int} {v4 : Int} {h : MH} (L : LayC h) (ov1 : RoO h v1) (rv2 : inR v2) (rv3 : inR v3) (rv4 : inR v4) : OK d k_Ex_hide 5 [mN, mR v1, mI v2, mI v3, mI v4] [] h cV pT (F_Ex_hide_5_b G5 v1 v2 v3 v4 h) := by
  unfold F_Ex_hide_5_b
  refine z_go (fun Q hq => x_iload (dA d_Ex_hide 4 rfl) rfl (x_aload_n (dA d_Ex_hide 5 rfl) rfl rfl (x_getI (dA d_Ex_hide 6 rfl) f_Ex_105 ov1.1 (by decide) (by decide) rfl hq))) ?_
  refine z_br (fun Q => x_icmp_ge (dA d_Ex_hide 7 rfl) rfl rv4 (L.rg _ _)) (fun c2 => ?_) (fun c2 => ?_)
  · refine z_go (fun Q hq => x_aload_n (dA d_Ex_hide 27 rfl) rfl rfl (x_iload_n (dA d_Ex_hide 28 rfl) rfl rfl hq)) ?_
    refine z_sto (Ext.pi ov1.1 (by decide) rv3) (fun Q hq => x_putI (dA d_Ex_hide 29 rfl) p_Ex_105 ov1.1 (by decide) cl_Ro rfl hq) (fun h3 e4 => ?_)
    have L5 := L.ext e4
    exact z_retv (dA d_Ex_hide 30 rfl) rfl
  · refine z_go (fun Q hq => x_aload_n (dA d_Ex_hide 8 rfl) rfl rfl (x_getR (dA d_Ex_hide 9 rfl) f_Ex_102 ov1.1 (by decide) (by decide) rfl ov1.2.1.2.2.1 (x_iload (dA d_Ex_hide 10 rfl) rfl hq))) ?_
    refine z_gd (fun g6 => ?_)
    refine z_go (fun Q hq => x_lald (dA d_Ex_hide 11 rfl) (show ArO _ _ _ _ from ⟨ov1.2.2.2.2.1, by decide⟩).1 g6.1 g6.2 (show ArO _ _ _ _ from ⟨ov1.2.2.2.2.1, by decide⟩).2 hq) ?_
    refine z_bnd (rest := []) (st1 := fun v => mI v :: []) (S_To_length (d := 0) (Nat.le_refl _) L ) (fun _ hx => absurd hx List.not_mem_nil) (fun _ => rfl) (fun Q' Q => x_callS (as := [mL (mGl h (v1 + 3) v4.toNat)]) (rest := []) (k' := k_To_length) (dA d_Ex_hide 12 rfl) o_To_length lk_Ex_163 st_To_length (Nat.le_of_ble_eq_true rfl) (Nat.le_trans (Nat.le_of_ble_eq_true rfl) hd) (Nat.le_of_ble_eq_true rfl)) (fun x9 h7 e8 p10 => ?_)
    have L11 := L.ext e8
    refine z_br (fun Q => x_if_le (dA d_Ex_hide 13 rfl) rfl p10) (fun c12 => ?_) (fun c12 => ?_)
    · exact S_Ex_hide_47 hd hG5 L11 (ov1.ext e8) rv2 rv3 rv4
    · refine z_go (fun Q hq => x_aload_n (dA d_Ex_hide 14 rfl) rfl rfl (x_getR (dA d_Ex_hide 15 rfl) f_Ex_102 (ov1.ext e8).1 (by decide) (by decide) rfl (ov1.ext e8).2.1.2.2.1 (x_iload_n (dA d_Ex_hide 16 rfl) rfl rfl (x_aload_n (dA d_Ex_hide 17 rfl) rfl rfl (x_getR (dA d_Ex_hide 18 rfl) f_Ex_102 (ov1.ext e8).1 (by decide) (by decide) rfl (ov1.ext e8).2.1.2.2.1 (x_iload (dA d_Ex_hide 19 rfl) rfl (x_lald (dA d_Ex_hide 20 rfl) (show ArO _ _ _ _ from ⟨(ov1.ext e8).2.2.2.2.1, by decide⟩).1 g6.1 g6.2 (show ArO _ _ _ _ from ⟨(ov1.ext e8).2.2.2.2.1, by decide⟩).2 (x_iload_n (dA d_Ex_hide 21 rfl) rfl rfl hq)))))))) ?_
      refine z_bnd (rest := [mI v3, mR (v1 + 3)]) (st1 := fun v => mL v :: [mI v3, mR (v1 + 3)]) (S_To_hiding (d := 0) (Nat.le_refl _) L11 rv2) (fun _ hx => absurd hx List.not_mem_nil) (fun _ => rfl) (fun Q' Q => x_callS (as := [mL (mGl h7 (v1 + 3) v4.toNat), mI v2]) (rest := [mI v3, mR (v1 + 3)]) (k' := k_To_hiding) (dA d_Ex_hide 22 rfl) o_To_hiding lk_Ex_166 st_To_hiding (Nat.le_of_ble_eq_true rfl) (Nat.le_trans (Nat.le_of_ble_eq_true rfl) hd) (Nat.le_of_ble_eq_true rfl)) (fun x15 h13 e14 p16 => ?_)
      have L17 := L11.ext e14
      refine z_gd (fun g18 => ?_)
      refine z_sto Ext.pl (fun Q hq => x_last (dA d_Ex_hide 23 rfl) (show ArO _ _ _ _ from ⟨((ov1.ext e8).ext e14).2.2.2.2.1, by decide⟩).1 g18.1 g18.2 (show ArO _ _ _ _ from ⟨((ov1.ext e8).ext e14).2.2.2.2.1, by decide⟩).2 hq) (fun h19 e20 => ?_)
      have L21 := L17.ext e20
      refine z_gd (fun g22 => ?_)
      refine z_go (fun Q hq => x_iinc (dA d_Ex_hide 24 rfl) rfl (by decide) rfl hq) ?_
      exact S_Ex_hide_47 hd hG5 L21 (((ov1.ext e8).ext e14).ext e20) rv2 g22 rv4
noncomputable def F_Ex_hide_5 (v1 : Nat) (v2 : Int) (v3 : Int) (v4 : Int) (h : MH) : RS Unit := itr (fun self (q : Nat × Int × Int × Int × MH) => F_Ex_hide_5_b (fun v1 v2 v3 v4 h => self (v1, v2, v3, v4, h)) q.1 q.2.1 q.2.2.1 q.2.2.2.1 q.2.2.2.2) FU (v1, v2, v3, v4, h)
theorem S_Ex_hide_5 {d : Nat} (hd : 1 ≤ d) {v1 : Nat} {v2 : Int} {v3 : Int} {v4 : Int} {h : MH} (L : LayC h) (ov1 : RoO h v1) (rv2 : inR v2) (rv3 : inR v3) (rv4 : inR v4) : OK d k_Ex_hide 5 [mN, mR v1, mI v2, mI v3, mI v4] [] h cV pT (F_Ex_hide_5  v1 v2 v3 v4 h) := by
  unfold F_Ex_hide_5
  refine z_itr (P := fun q : Nat × Int × Int × Int × MH => LayC q.2.2.2.2 ∧ RoO q.2.2.2.2 q.1 ∧ inR q.2.1 ∧ inR q.2.2.1 ∧ inR q.2.2.2.1 ∧ True) (ls := fun q : Nat × Int × Int × Int × MH => [mN, mR q.1, mI q.2.1, mI q.2.2.1, mI q.2.2.2.1]) (hp := fun q : Nat × Int × Int × Int × MH => q.2.2.2.2) (fun self hs q hq => ?_) FU (v1, v2, v3, v4, h) ⟨L, ov1, rv2, rv3, rv4, trivial⟩
  exact S_Ex_hide_5_b hd (fun v1 v2 v3 v4 h L ov1 rv2 rv3 rv4 => hs (v1, v2, v3, v4, h) ⟨L, ov1, rv2, rv3, rv4, trivial⟩) hq.1 hq.2.1 hq.2.2.1 hq.2.2.2.1 hq.2.2.2.2.1
noncomputable def F_Ex_hide (a1 : Nat) (a2 : Int) (h : MH) : RS Unit := F_Ex_hide_5 a1 a2 (0 : Int) (0 : Int) h
theorem S_Ex_hide {d : Nat} (hd : 1 ≤ d) {a1 : Nat} {a2 : Int} {h : MH} (L : LayC h) (oa1 : RoO h a1) (ra2 : inR a2) : OK d k_Ex_hide 0 [mR 95, mR a1, mI a2, mN, mN] [] h cV pT (F_Ex_hide  a1 a2 h) := by
  unfold F_Ex_hide
  refine z_go (fun Q hq => x_iconst (dA d_Ex_hide 0 rfl) (x_istore_n (dA d_Ex_hide 1 rfl) rfl (by decide) rfl (x_iconst (dA d_Ex_hide 2 rfl) (x_istore (dA d_Ex_hide 3 rfl) (by decide) rfl hq)))) ?_
  refine z_fgt (ls' := [mN, mR a1, mI a2, mI (0 : Int), mI (0 : Int)]) ⟨.inl rfl, .inr rfl, .inr rfl, .inr rfl, .inr rfl, trivial⟩ ?_
  exact S_Ex_hide_5 hd  L oa1 ra2 (inR_lit (0 : Int) rfl) (inR_lit (0 : Int) rfl)
/-! TwoMills$Row.bring(J)V -/
noncomputable def F_Ro_bring (r : Nat) (a1 : Int64) (h : MH) : RS Unit := if ((1200 : Nat) : Int) ≤ (mGi h r 5) then some (.inl (), h) else gd (0 ≤ (mGi h r 5) ∧ (mGi h r 5) < 1200) (sto (mPl h (r + 3) (mGi h r 5).toNat a1) fun h3 => gd (inR ((mGi h3 r 5) + (1 : Int))) (sto (mPi h3 r 5 ((mGi h3 r 5) + (1 : Int))) fun h7 => some (.inl (), h7)))
theorem S_Ro_bring {d : Nat} (hd : 0 ≤ d) {r : Nat} {a1 : Int64} {h : MH} (L : LayC h) (or : RoO h r) : OK d k_Ro_bring 0 [mR r, mL a1, mN] [] h cV pT (F_Ro_bring  r a1 h) := by
  unfold F_Ro_bring
  refine z_go (fun Q hq => x_aload_n (dA d_Ro_bring 0 rfl) rfl rfl (x_getI (dA d_Ro_bring 1 rfl) f_Ro_40 or.1 (by decide) (by decide) rfl (x_aload_n (dA d_Ro_bring 2 rfl) rfl rfl (x_getR (dA d_Ro_bring 3 rfl) f_Ro_22 or.1 (by decide) (by decide) rfl or.2.1.2.2.1 (x_alen (dA d_Ro_bring 4 rfl) (show ArO _ _ _ _ from ⟨or.2.2.2.2.1, by decide⟩).1 (by decide) hq))))) ?_
  refine z_br (fun Q => x_icmp_ge (dA d_Ro_bring 5 rfl) rfl (L.rg _ _) (inR_nat (show ArO _ _ _ _ from ⟨or.2.2.2.2.1, by decide⟩).2)) (fun c1 => ?_) (fun c1 => ?_)
  · exact z_retv (dA d_Ro_bring 18 rfl) rfl
  · refine z_go (fun Q hq => x_aload_n (dA d_Ro_bring 6 rfl) rfl rfl (x_getR (dA d_Ro_bring 7 rfl) f_Ro_22 or.1 (by decide) (by decide) rfl or.2.1.2.2.1 (x_aload_n (dA d_Ro_bring 8 rfl) rfl rfl (x_getI (dA d_Ro_bring 9 rfl) f_Ro_40 or.1 (by decide) (by decide) rfl (x_lload_n (dA d_Ro_bring 10 rfl) rfl rfl hq))))) ?_
    refine z_gd (fun g2 => ?_)
    refine z_sto Ext.pl (fun Q hq => x_last (dA d_Ro_bring 11 rfl) (show ArO _ _ _ _ from ⟨or.2.2.2.2.1, by decide⟩).1 g2.1 g2.2 (show ArO _ _ _ _ from ⟨or.2.2.2.2.1, by decide⟩).2 hq) (fun h3 e4 => ?_)
    have L5 := L.ext e4
    refine z_go (fun Q hq => x_aload_n (dA d_Ro_bring 12 rfl) rfl rfl (x_dup (dA d_Ro_bring 13 rfl) rfl (x_getI (dA d_Ro_bring 14 rfl) f_Ro_40 (or.ext e4).1 (by decide) (by decide) rfl (x_iconst (dA d_Ro_bring 15 rfl) hq)))) ?_
    refine z_gd (fun g6 => ?_)
    refine z_go (fun Q hq => x_iadd (dA d_Ro_bring 16 rfl) hq) ?_
    refine z_sto (Ext.pi (or.ext e4).1 (by decide) g6) (fun Q hq => x_putI (dA d_Ro_bring 17 rfl) p_Ro_40 (or.ext e4).1 (by decide) cl_Ro rfl hq) (fun h7 e8 => ?_)
    have L9 := L5.ext e8
    exact z_retv (dA d_Ro_bring 18 rfl) rfl
/-! TwoMills$Row.bringAll([JII)V -/
noncomputable def F_Ro_bringAll_3_b (G3 : Nat → Nat → Nat → Int → Int → MH → RS Unit) (v0 : Nat) (v1 : Nat) (v1n : Nat) (v3 : Int) (v4 : Int) (h : MH) : RS Unit := if v3 ≤ v4 then some (.inl (), h) else gd (0 ≤ v4 ∧ v4 < v1n) (bnd (F_Ro_bring v0 (mGl h v1 v4.toNat) h) fun x5 h3 => gd (inR (v4 + (1 : Int))) (G3 v0 v1 v1n v3 (v4 + (1 : Int)) h3))
theorem S_Ro_bringAll_3_b {d : Nat} (hd : 1 ≤ d) {G3 : Nat → Nat → Nat → Int → Int → MH → RS Unit} (hG3 : ∀ (v0 : Nat) (v1 : Nat) (v1n : Nat) (v3 : Int) (v4 : Int) (h : MH), LayC h → RoO h v0 → ArO h v1 103 v1n → inR v3 → inR v4 → OK d k_Ro_bringAll 3 [mR v0, mR v1, mN, mI v3, mI v4] [] h cV pT (G3 v0 v1 v1n v3 v4 h)) {v0 : Nat} {v1 : Nat} {v1n : Nat} {v3 : Int} {v4 : Int} {h : MH} (L : LayC h) (ov0 : RoO h v0) (ov1 : ArO h v1 103 v1n) (rv3 : inR v3) (rv4 : inR v4) : OK d k_Ro_bringAll 3 [mR v0, mR v1, mN, mI v3, mI v4] [] h cV pT (F_Ro_bringAll_3_b G3 v0 v1 v1n v3 v4 h) := by
  unfold F_Ro_bringAll_3_b
  refine z_go (fun Q hq => x_iload (dA d_Ro_bringAll 2 rfl) rfl (x_iload_n (dA d_Ro_bringAll 3 rfl) rfl rfl hq)) ?_
  refine z_br (fun Q => x_icmp_ge (dA d_Ro_bringAll 4 rfl) rfl rv4 rv3) (fun c1 => ?_) (fun c1 => ?_)
  · exact z_retv (dA d_Ro_bringAll 12 rfl) rfl
  · refine z_go (fun Q hq => x_aload_n (dA d_Ro_bringAll 5 rfl) rfl rfl (x_aload_n (dA d_Ro_bringAll 6 rfl) rfl rfl (x_iload (dA d_Ro_bringAll 7 rfl) rfl hq))) ?_
    refine z_gd (fun g2 => ?_)
    refine z_go (fun Q hq => x_lald (dA d_Ro_bringAll 8 rfl) ov1.1 g2.1 g2.2 ov1.2 hq) ?_
    refine z_bnd (rest := []) (st1 := fun _ => []) (S_Ro_bring (d := 0) (Nat.le_refl _) L ov0) (fun _ hx => absurd hx List.not_mem_nil) (fun _ => rfl) (fun Q' Q => x_callV (as := [mL (mGl h v1 v4.toNat)]) (rest := []) (k' := k_Ro_bring) (dA d_Ro_bringAll 9 rfl) o_Ro_bring lk_Ro_43 im_Ro_bring se_Ro_bring rfl ov0.1 (by decide) (Nat.le_of_ble_eq_true rfl) (Nat.le_trans (Nat.le_of_ble_eq_true rfl) hd) (Nat.le_of_ble_eq_true rfl)) (fun x5 h3 e4 p6 => ?_)
    have L7 := L.ext e4
    refine z_gd (fun g8 => ?_)
    refine z_go (fun Q hq => x_iinc (dA d_Ro_bringAll 10 rfl) rfl (by decide) rfl (x_goto (dA d_Ro_bringAll 11 rfl) rfl hq)) ?_
    exact hG3 v0 v1 v1n v3 (v4 + (1 : Int)) h3 L7 (ov0.ext e4) (ov1.ext e4) rv3 g8
noncomputable def F_Ro_bringAll_3 (v0 : Nat) (v1 : Nat) (v1n : Nat) (v3 : Int) (v4 : Int) (h : MH) : RS Unit := itr (fun self (q : Nat × Nat × Nat × Int × Int × MH) => F_Ro_bringAll_3_b (fun v0 v1 v1n v3 v4 h => self (v0, v1, v1n, v3, v4, h)) q.1 q.2.1 q.2.2.1 q.2.2.2.1 q.2.2.2.2.1 q.2.2.2.2.2) FU (v0, v1, v1n, v3, v4, h)
theorem S_Ro_bringAll_3 {d : Nat} (hd : 1 ≤ d) {v0 : Nat} {v1 : Nat} {v1n : Nat} {v3 : Int} {v4 : Int} {h : MH} (L : LayC h) (ov0 : RoO h v0) (ov1 : ArO h v1 103 v1n) (rv3 : inR v3) (rv4 : inR v4) : OK d k_Ro_bringAll 3 [mR v0, mR v1, mN, mI v3, mI v4] [] h cV pT (F_Ro_bringAll_3  v0 v1 v1n v3 v4 h) := by
  unfold F_Ro_bringAll_3
  refine z_itr (P := fun q : Nat × Nat × Nat × Int × Int × MH => LayC q.2.2.2.2.2 ∧ RoO q.2.2.2.2.2 q.1 ∧ ArO q.2.2.2.2.2 q.2.1 103 q.2.2.1 ∧ inR q.2.2.2.1 ∧ inR q.2.2.2.2.1 ∧ True) (ls := fun q : Nat × Nat × Nat × Int × Int × MH => [mR q.1, mR q.2.1, mN, mI q.2.2.2.1, mI q.2.2.2.2.1]) (hp := fun q : Nat × Nat × Nat × Int × Int × MH => q.2.2.2.2.2) (fun self hs q hq => ?_) FU (v0, v1, v1n, v3, v4, h) ⟨L, ov0, ov1, rv3, rv4, trivial⟩
  exact S_Ro_bringAll_3_b hd (fun v0 v1 v1n v3 v4 h L ov0 ov1 rv3 rv4 => hs (v0, v1, v1n, v3, v4, h) ⟨L, ov0, ov1, rv3, rv4, trivial⟩) hq.1 hq.2.1 hq.2.2.1 hq.2.2.2.1 hq.2.2.2.2.1
noncomputable def F_Ro_bringAll (r : Nat) (a1 : Nat) (a1n : Nat) (a2 : Int) (a3 : Int) (h : MH) : RS Unit := F_Ro_bringAll_3 r a1 a1n a3 a2 h
theorem S_Ro_bringAll {d : Nat} (hd : 1 ≤ d) {r : Nat} {a1 : Nat} {a1n : Nat} {a2 : Int} {a3 : Int} {h : MH} (L : LayC h) (or : RoO h r) (oa1 : ArO h a1 103 a1n) (ra2 : inR a2) (ra3 : inR a3) : OK d k_Ro_bringAll 0 [mR r, mR a1, mI a2, mI a3, mN] [] h cV pT (F_Ro_bringAll  r a1 a1n a2 a3 h) := by
  unfold F_Ro_bringAll
  refine z_go (fun Q hq => x_iload_n (dA d_Ro_bringAll 0 rfl) rfl rfl (x_istore (dA d_Ro_bringAll 1 rfl) (by decide) rfl hq)) ?_
  refine z_fgt (ls' := [mR r, mR a1, mN, mI a3, mI a2]) ⟨.inr rfl, .inr rfl, .inl rfl, .inr rfl, .inr rfl, trivial⟩ ?_
  exact S_Ro_bringAll_3 hd  L or oa1 ra3 ra2
/-! TwoMills$Expander.bringArgument(ILTwoMills$Row;IZ)V -/
noncomputable def F_Ex_bringArgument (X : Int → Nat → Nat → Int → Int → MH → RS Nat) (a1 : Int) (a2 : Nat) (a3 : Int) (a4 : Int) (h : MH) : RS Unit := gd (0 ≤ a3 ∧ a3 < 4) (gd (inR ((mGi h (a2 + 4) a3.toNat) + (1 : Int))) (gd (inR (a3 + (1 : Int))) (gd (0 ≤ (a3 + (1 : Int)) ∧ (a3 + (1 : Int)) < 4) (if a4 = 0 then gd (inR (a1 + (1 : Int))) (gd (inR ((mGi h (a2 + 4) (a3 + (1 : Int)).toNat) - ((mGi h (a2 + 4) a3.toNat) + (1 : Int)))) (bnd (X (a1 + (1 : Int)) (a2 + 1) 100 ((mGi h (a2 + 4) a3.toNat) + (1 : Int)) ((mGi h (a2 + 4) (a3 + (1 : Int)).toNat) - ((mGi h (a2 + 4) a3.toNat) + (1 : Int))) h) fun x10 h8 => gd (RoO h8 x10) (bnd (F_Ro_bringAll a2 (x10 + 2) 100 (0 : Int) (mGi h8 x10 3) h8) fun x16 h14 => some (.inl (), h14)))) else if ((mGi h (a2 + 4) a3.toNat) + (1 : Int)) = (mGi h (a2 + 4) (a3 + (1 : Int)).toNat) then bnd (F_Ro_bring a2 (0 : Int64) h) fun x22 h20 => some (.inl (), h20) else bnd (F_Ro_bringAll a2 (a2 + 1) 100 ((mGi h (a2 + 4) a3.toNat) + (1 : Int)) (mGi h (a2 + 4) (a3 + (1 : Int)).toNat) h) fun x27 h25 => some (.inl (), h25)))))
theorem S_Ex_bringArgument {d dX : Nat} (hd : dX + 3 ≤ d) {X : Int → Nat → Nat → Int → Int → MH → RS Nat} (hX : ∀ (a1 : Int) (a2 a2n : Nat) (a3 a4 : Int) (h : MH), LayC h → inR a1 → ArO h a2 103 a2n → inR a3 → inR a4 → OK dX k_Ex_expand 0 [mR 95, mI a1, mR a2, mI a3, mI a4, mN, mN] [] h cA pT (X a1 a2 a2n a3 a4 h)) {a1 : Int} {a2 : Nat} {a3 : Int} {a4 : Int} {h : MH} (L : LayC h) (ra1 : inR a1) (oa2 : RoO h a2) (ra3 : inR a3) (ra4 : p01 a4) : OK d k_Ex_bringArgument 0 [mR 95, mI a1, mR a2, mI a3, mI a4, mN, mN, mN] [] h cV pT (F_Ex_bringArgument X  a1 a2 a3 a4 h) := by
  unfold F_Ex_bringArgument
  refine z_go (fun Q hq => x_aload_n (dA d_Ex_bringArgument 0 rfl) rfl rfl (x_getR (dA d_Ex_bringArgument 1 rfl) f_Ex_88 oa2.1 (by decide) (by decide) rfl oa2.2.1.2.2.2 (x_iload_n (dA d_Ex_bringArgument 2 rfl) rfl rfl hq))) ?_
  refine z_gd (fun g1 => ?_)
  refine z_go (fun Q hq => x_iald (dA d_Ex_bringArgument 3 rfl) (show ArO _ _ _ _ from ⟨oa2.2.2.2.2.2, by decide⟩).1 g1.1 g1.2 (show ArO _ _ _ _ from ⟨oa2.2.2.2.2.2, by decide⟩).2 (x_iconst (dA d_Ex_bringArgument 4 rfl) hq)) ?_
  refine z_gd (fun g2 => ?_)
  refine z_go (fun Q hq => x_iadd (dA d_Ex_bringArgument 5 rfl) (x_istore (dA d_Ex_bringArgument 6 rfl) (by decide) rfl (x_aload_n (dA d_Ex_bringArgument 7 rfl) rfl rfl (x_getR (dA d_Ex_bringArgument 8 rfl) f_Ex_88 oa2.1 (by decide) (by decide) rfl oa2.2.1.2.2.2 (x_iload_n (dA d_Ex_bringArgument 9 rfl) rfl rfl (x_iconst (dA d_Ex_bringArgument 10 rfl) hq)))))) ?_
  refine z_gd (fun g3 => ?_)
  refine z_go (fun Q hq => x_iadd (dA d_Ex_bringArgument 11 rfl) hq) ?_
  refine z_gd (fun g4 => ?_)
  refine z_go (fun Q hq => x_iald (dA d_Ex_bringArgument 12 rfl) (show ArO _ _ _ _ from ⟨oa2.2.2.2.2.2, by decide⟩).1 g4.1 g4.2 (show ArO _ _ _ _ from ⟨oa2.2.2.2.2.2, by decide⟩).2 (x_istore (dA d_Ex_bringArgument 13 rfl) (by decide) rfl (x_iload (dA d_Ex_bringArgument 14 rfl) rfl hq))) ?_
  refine z_brn (fun Q => x_if_ne (dA d_Ex_bringArgument 15 rfl) rfl ra4.inR) (fun c5 => ?_) (fun c5 => ?_)
  · refine z_go (fun Q hq => x_aload_n (dA d_Ex_bringArgument 16 rfl) rfl rfl (x_iload_n (dA d_Ex_bringArgument 17 rfl) rfl rfl (x_iconst (dA d_Ex_bringArgument 18 rfl) hq))) ?_
    refine z_gd (fun g6 => ?_)
    refine z_go (fun Q hq => x_iadd (dA d_Ex_bringArgument 19 rfl) (x_aload_n (dA d_Ex_bringArgument 20 rfl) rfl rfl (x_getR (dA d_Ex_bringArgument 21 rfl) f_Ex_94 oa2.1 (by decide) (by decide) rfl oa2.2.1.1 (x_iload (dA d_Ex_bringArgument 22 rfl) rfl (x_iload (dA d_Ex_bringArgument 23 rfl) rfl (x_iload (dA d_Ex_bringArgument 24 rfl) rfl hq)))))) ?_
    refine z_gd (fun g7 => ?_)
    refine z_go (fun Q hq => x_isub (dA d_Ex_bringArgument 25 rfl) hq) ?_
    refine z_bnd (rest := []) (st1 := fun v => mR v :: []) (hX (a1 + (1 : Int)) (a2 + 1) 100 ((mGi h (a2 + 4) a3.toNat) + (1 : Int)) ((mGi h (a2 + 4) (a3 + (1 : Int)).toNat) - ((mGi h (a2 + 4) a3.toNat) + (1 : Int))) h L g6 (show ArO _ _ _ _ from ⟨oa2.2.2.1, by decide⟩) g2 g7) (fun _ hx => absurd hx List.not_mem_nil) (fun _ => rfl) (fun Q' Q => x_callV (as := [mI (a1 + (1 : Int)), mR (a2 + 1), mI ((mGi h (a2 + 4) a3.toNat) + (1 : Int)), mI ((mGi h (a2 + 4) (a3 + (1 : Int)).toNat) - ((mGi h (a2 + 4) a3.toNat) + (1 : Int)))]) (rest := []) (k' := k_Ex_expand) (dA d_Ex_bringArgument 26 rfl) o_Ex_expand lk_Ex_149 im_Ex_expand se_Ex_expand rfl (L.sh (x := (4, 4)) rfl) (by decide) (Nat.le_of_ble_eq_true rfl) (by omega) (Nat.le_of_ble_eq_true rfl)) (fun x10 h8 e9 p11 => ?_)
    have L12 := L.ext e9
    refine z_gd (fun g13 => ?_)
    refine z_go (fun Q hq => x_astore (dA d_Ex_bringArgument 27 rfl) (by decide) rfl (x_aload_n (dA d_Ex_bringArgument 28 rfl) rfl rfl (x_aload (dA d_Ex_bringArgument 29 rfl) rfl (x_getR (dA d_Ex_bringArgument 30 rfl) f_Ex_153 g13.1 (by decide) (by decide) rfl g13.2.1.2.1 (x_iconst (dA d_Ex_bringArgument 31 rfl) (x_aload (dA d_Ex_bringArgument 32 rfl) rfl (x_getI (dA d_Ex_bringArgument 33 rfl) f_Ex_156 g13.1 (by decide) (by decide) rfl hq))))))) ?_
    refine z_bnd (rest := []) (st1 := fun _ => []) (S_Ro_bringAll (d := 1) (Nat.le_refl _) L12 (oa2.ext e9) (show ArO _ _ _ _ from ⟨g13.2.2.2.1, by decide⟩) (inR_lit (0 : Int) rfl) (L12.rg _ _)) (fun _ hx => absurd hx List.not_mem_nil) (fun _ => rfl) (fun Q' Q => x_callV (as := [mR (x10 + 2), mI (0 : Int), mI (mGi h8 x10 3)]) (rest := []) (k' := k_Ro_bringAll) (dA d_Ex_bringArgument 34 rfl) o_Ro_bringAll lk_Ex_159 im_Ro_bringAll se_Ro_bringAll rfl (oa2.ext e9).1 (by decide) (Nat.le_of_ble_eq_true rfl) (by omega) (Nat.le_of_ble_eq_true rfl)) (fun x16 h14 e15 p17 => ?_)
    have L18 := L12.ext e15
    refine z_go (fun Q hq => x_goto (dA d_Ex_bringArgument 35 rfl) rfl hq) ?_
    exact z_retv (dA d_Ex_bringArgument 49 rfl) rfl
  · refine z_go (fun Q hq => x_iload (dA d_Ex_bringArgument 36 rfl) rfl (x_iload (dA d_Ex_bringArgument 37 rfl) rfl hq)) ?_
    refine z_brn (fun Q => x_icmp_ne (dA d_Ex_bringArgument 38 rfl) rfl g2 (L.rg _ _)) (fun c19 => ?_) (fun c19 => ?_)
    · refine z_go (fun Q hq => x_aload_n (dA d_Ex_bringArgument 39 rfl) rfl rfl (x_lconst (v := 0) (dA d_Ex_bringArgument 40 rfl) rfl hq)) ?_
      refine z_bnd (rest := []) (st1 := fun _ => []) (S_Ro_bring (d := 0) (Nat.le_refl _) L oa2) (fun _ hx => absurd hx List.not_mem_nil) (fun _ => rfl) (fun Q' Q => x_callV (as := [mL (0 : Int64)]) (rest := []) (k' := k_Ro_bring) (dA d_Ex_bringArgument 41 rfl) o_Ro_bring lk_Ex_135 im_Ro_bring se_Ro_bring rfl oa2.1 (by decide) (Nat.le_of_ble_eq_true rfl) (by omega) (Nat.le_of_ble_eq_true rfl)) (fun x22 h20 e21 p23 => ?_)
      have L24 := L.ext e21
      refine z_go (fun Q hq => x_goto (dA d_Ex_bringArgument 42 rfl) rfl hq) ?_
      exact z_retv (dA d_Ex_bringArgument 49 rfl) rfl
    · refine z_go (fun Q hq => x_aload_n (dA d_Ex_bringArgument 43 rfl) rfl rfl (x_aload_n (dA d_Ex_bringArgument 44 rfl) rfl rfl (x_getR (dA d_Ex_bringArgument 45 rfl) f_Ex_94 oa2.1 (by decide) (by decide) rfl oa2.2.1.1 (x_iload (dA d_Ex_bringArgument 46 rfl) rfl (x_iload (dA d_Ex_bringArgument 47 rfl) rfl hq))))) ?_
      refine z_bnd (rest := []) (st1 := fun _ => []) (S_Ro_bringAll (d := 1) (Nat.le_refl _) L oa2 (show ArO _ _ _ _ from ⟨oa2.2.2.1, by decide⟩) g2 (L.rg _ _)) (fun _ hx => absurd hx List.not_mem_nil) (fun _ => rfl) (fun Q' Q => x_callV (as := [mR (a2 + 1), mI ((mGi h (a2 + 4) a3.toNat) + (1 : Int)), mI (mGi h (a2 + 4) (a3 + (1 : Int)).toNat)]) (rest := []) (k' := k_Ro_bringAll) (dA d_Ex_bringArgument 48 rfl) o_Ro_bringAll lk_Ex_159 im_Ro_bringAll se_Ro_bringAll rfl oa2.1 (by decide) (Nat.le_of_ble_eq_true rfl) (by omega) (Nat.le_of_ble_eq_true rfl)) (fun x27 h25 e26 p28 => ?_)
      have L29 := L.ext e26
      exact z_retv (dA d_Ex_bringArgument 49 rfl) rfl
/-! TwoMills$Names.bodyAt(II)J -/
noncomputable def F_Na_bodyAt_28 (h : MH) : RS Int64 := some (.inl (0 : Int64), h)
theorem S_Na_bodyAt_28 {d : Nat} (hd : 0 ≤ d) {h : MH} (L : LayC h) : OK d k_Na_bodyAt 28 [mN, mN, mN] [] h cJ pT (F_Na_bodyAt_28   h) := by
  unfold F_Na_bodyAt_28
  refine z_go (fun Q hq => x_lconst (v := 0) (dA d_Na_bodyAt 17 rfl) rfl hq) ?_
  exact z_retj (dA d_Na_bodyAt 18 rfl) rfl
noncomputable def F_Na_bodyAt (a1 : Int) (a2 : Int) (h : MH) : RS Int64 := if a2 < 0 then F_Na_bodyAt_28  h else gd (0 ≤ a1 ∧ a1 < 8) (if (mGi h 93 a1.toNat) ≤ a2 then F_Na_bodyAt_28  h else gd (inR (a1 * (12 : Int))) (gd (inR ((a1 * (12 : Int)) + a2)) (gd (0 ≤ ((a1 * (12 : Int)) + a2) ∧ ((a1 * (12 : Int)) + a2) < 96) (some (.inl (mGl h 94 ((a1 * (12 : Int)) + a2).toNat), h)))))
theorem S_Na_bodyAt {d : Nat} (hd : 0 ≤ d) {a1 : Int} {a2 : Int} {h : MH} (L : LayC h) (ra1 : inR a1) (ra2 : inR a2) : OK d k_Na_bodyAt 0 [mR 89, mI a1, mI a2] [] h cJ pT (F_Na_bodyAt  a1 a2 h) := by
  unfold F_Na_bodyAt
  refine z_go (fun Q hq => x_iload_n (dA d_Na_bodyAt 0 rfl) rfl rfl hq) ?_
  refine z_br (fun Q => x_if_lt (dA d_Na_bodyAt 1 rfl) rfl ra2) (fun c1 => ?_) (fun c1 => ?_)
  · refine z_fgt (ls' := [mN, mN, mN]) ⟨.inl rfl, .inl rfl, .inl rfl, trivial⟩ ?_
    exact S_Na_bodyAt_28 hd  L 
  · refine z_go (fun Q hq => x_iload_n (dA d_Na_bodyAt 2 rfl) rfl rfl (x_aload_n (dA d_Na_bodyAt 3 rfl) rfl rfl (x_getR (dA d_Na_bodyAt 4 rfl) f_Na_20 (L.sh (x := (8, 5)) rfl) (by decide) (by decide) rfl (L.rf 99 rfl) (x_iload_n (dA d_Na_bodyAt 5 rfl) rfl rfl hq)))) ?_
    refine z_gd (fun g2 => ?_)
    refine z_go (fun Q hq => x_iald (dA d_Na_bodyAt 6 rfl) (L.sh (x := (100, 8)) rfl) g2.1 g2.2 (by decide) hq) ?_
    refine z_br (fun Q => x_icmp_ge (dA d_Na_bodyAt 7 rfl) rfl ra2 (L.rg _ _)) (fun c3 => ?_) (fun c3 => ?_)
    · refine z_fgt (ls' := [mN, mN, mN]) ⟨.inl rfl, .inl rfl, .inl rfl, trivial⟩ ?_
      exact S_Na_bodyAt_28 hd  L 
    · refine z_go (fun Q hq => x_aload_n (dA d_Na_bodyAt 8 rfl) rfl rfl (x_getR (dA d_Na_bodyAt 9 rfl) f_Na_23 (L.sh (x := (8, 5)) rfl) (by decide) (by decide) rfl (L.rf 100 rfl) (x_iload_n (dA d_Na_bodyAt 10 rfl) rfl rfl (x_bipush (dA d_Na_bodyAt 11 rfl) (by decide) hq)))) ?_
      refine z_gd (fun g4 => ?_)
      refine z_go (fun Q hq => x_imul (dA d_Na_bodyAt 12 rfl) (x_iload_n (dA d_Na_bodyAt 13 rfl) rfl rfl hq)) ?_
      refine z_gd (fun g5 => ?_)
      refine z_go (fun Q hq => x_iadd (dA d_Na_bodyAt 14 rfl) hq) ?_
      refine z_gd (fun g6 => ?_)
      refine z_go (fun Q hq => x_lald (dA d_Na_bodyAt 15 rfl) (L.sh (x := (103, 96)) rfl) g6.1 g6.2 (by decide) (x_goto (dA d_Na_bodyAt 16 rfl) rfl hq)) ?_
      exact z_retj (dA d_Na_bodyAt 18 rfl) rfl
/-! TwoMills$Tokens.start(J)I -/
noncomputable def F_To_start (a1 : Int64) (h : MH) : RS Int := some (.inl ((a1 &&& (65535 : Int64)).toInt32.toInt), h)
theorem S_To_start {d : Nat} (hd : 0 ≤ d) {a1 : Int64} {h : MH} (L : LayC h) : OK d k_To_start 0 [mL a1, mN] [] h cI inR (F_To_start  a1 h) := by
  unfold F_To_start
  refine z_go (fun Q hq => x_lload_n (dA d_To_start 0 rfl) rfl rfl (x_ldc2 (dA d_To_start 1 rfl) kl_To_37 (x_land (dA d_To_start 2 rfl) (x_l2i (dA d_To_start 3 rfl) hq)))) ?_
  exact z_reti (dA d_To_start 4 rfl) rfl (inR_32 _)
/-! TwoMills$Tokens.same(JJ)Z -/
noncomputable def F_To_same_41 (h : MH) : RS Int := some (.inl (0 : Int), h)
theorem S_To_same_41 {d : Nat} (hd : 1 ≤ d) {h : MH} (L : LayC h) : OK d k_To_same 41 [mN, mN, mN, mN, mN] [] h cI p01 (F_To_same_41   h) := by
  unfold F_To_same_41
  refine z_go (fun Q hq => x_iconst (dA d_To_same 19 rfl) hq) ?_
  exact z_retz (dA d_To_same 20 rfl) rfl (.inl rfl)
noncomputable def F_To_same (a1 : Int64) (a2 : Int64) (h : MH) : RS Int := bnd (F_To_length a1 h) fun x3 h1 => bnd (F_To_length a2 h1) fun x8 h6 => if x3 = x8 then bnd (F_To_start a1 h6) fun x14 h12 => bnd (F_To_start a2 h12) fun x19 h17 => bnd (F_To_length a1 h17) fun x24 h22 => bnd (F_T_alike 88 1302 x14 88 1302 x19 x24 h22) fun x29 h27 => if x29 = 0 then F_To_same_41  h27 else some (.inl (1 : Int), h27) else F_To_same_41  h6
theorem S_To_same {d : Nat} (hd : 1 ≤ d) {a1 : Int64} {a2 : Int64} {h : MH} (L : LayC h) : OK d k_To_same 0 [mR 87, mL a1, mN, mL a2, mN] [] h cI p01 (F_To_same  a1 a2 h) := by
  unfold F_To_same
  refine z_go (fun Q hq => x_lload_n (dA d_To_same 0 rfl) rfl rfl hq) ?_
  refine z_bnd (rest := []) (st1 := fun v => mI v :: []) (S_To_length (d := 0) (Nat.le_refl _) L ) (fun _ hx => absurd hx List.not_mem_nil) (fun _ => rfl) (fun Q' Q => x_callS (as := [mL a1]) (rest := []) (k' := k_To_length) (dA d_To_same 1 rfl) o_To_length lk_To_56 st_To_length (Nat.le_of_ble_eq_true rfl) (Nat.le_trans (Nat.le_of_ble_eq_true rfl) hd) (Nat.le_of_ble_eq_true rfl)) (fun x3 h1 e2 p4 => ?_)
  have L5 := L.ext e2
  refine z_go (fun Q hq => x_lload_n (dA d_To_same 2 rfl) rfl rfl hq) ?_
  refine z_bnd (rest := [mI x3]) (st1 := fun v => mI v :: [mI x3]) (S_To_length (d := 0) (Nat.le_refl _) L5 ) (fun _ hx => absurd hx List.not_mem_nil) (fun _ => rfl) (fun Q' Q => x_callS (as := [mL a2]) (rest := [mI x3]) (k' := k_To_length) (dA d_To_same 3 rfl) o_To_length lk_To_56 st_To_length (Nat.le_of_ble_eq_true rfl) (Nat.le_trans (Nat.le_of_ble_eq_true rfl) hd) (Nat.le_of_ble_eq_true rfl)) (fun x8 h6 e7 p9 => ?_)
  have L10 := L5.ext e7
  refine z_brn (fun Q => x_icmp_ne (dA d_To_same 4 rfl) rfl p4 p9) (fun c11 => ?_) (fun c11 => ?_)
  · refine z_go (fun Q hq => x_aload_n (dA d_To_same 5 rfl) rfl rfl (x_getR (dA d_To_same 6 rfl) f_To_11 (L10.sh (x := (11, 3)) rfl) (by decide) (by decide) rfl (L10.rf 95 rfl) (x_lload_n (dA d_To_same 7 rfl) rfl rfl hq))) ?_
    refine z_bnd (rest := [mR 88]) (st1 := fun v => mI v :: [mR 88]) (S_To_start (d := 0) (Nat.le_refl _) L10 ) (fun _ hx => absurd hx List.not_mem_nil) (fun _ => rfl) (fun Q' Q => x_callS (as := [mL a1]) (rest := [mR 88]) (k' := k_To_start) (dA d_To_same 8 rfl) o_To_start lk_To_59 st_To_start (Nat.le_of_ble_eq_true rfl) (Nat.le_trans (Nat.le_of_ble_eq_true rfl) hd) (Nat.le_of_ble_eq_true rfl)) (fun x14 h12 e13 p15 => ?_)
    have L16 := L10.ext e13
    refine z_go (fun Q hq => x_aload_n (dA d_To_same 9 rfl) rfl rfl (x_getR (dA d_To_same 10 rfl) f_To_11 (L16.sh (x := (11, 3)) rfl) (by decide) (by decide) rfl (L16.rf 95 rfl) (x_lload_n (dA d_To_same 11 rfl) rfl rfl hq))) ?_
    refine z_bnd (rest := [mR 88, mI x14, mR 88]) (st1 := fun v => mI v :: [mR 88, mI x14, mR 88]) (S_To_start (d := 0) (Nat.le_refl _) L16 ) (fun _ hx => absurd hx List.not_mem_nil) (fun _ => rfl) (fun Q' Q => x_callS (as := [mL a2]) (rest := [mR 88, mI x14, mR 88]) (k' := k_To_start) (dA d_To_same 12 rfl) o_To_start lk_To_59 st_To_start (Nat.le_of_ble_eq_true rfl) (Nat.le_trans (Nat.le_of_ble_eq_true rfl) hd) (Nat.le_of_ble_eq_true rfl)) (fun x19 h17 e18 p20 => ?_)
    have L21 := L16.ext e18
    refine z_go (fun Q hq => x_lload_n (dA d_To_same 13 rfl) rfl rfl hq) ?_
    refine z_bnd (rest := [mI x19, mR 88, mI x14, mR 88]) (st1 := fun v => mI v :: [mI x19, mR 88, mI x14, mR 88]) (S_To_length (d := 0) (Nat.le_refl _) L21 ) (fun _ hx => absurd hx List.not_mem_nil) (fun _ => rfl) (fun Q' Q => x_callS (as := [mL a1]) (rest := [mI x19, mR 88, mI x14, mR 88]) (k' := k_To_length) (dA d_To_same 14 rfl) o_To_length lk_To_56 st_To_length (Nat.le_of_ble_eq_true rfl) (Nat.le_trans (Nat.le_of_ble_eq_true rfl) hd) (Nat.le_of_ble_eq_true rfl)) (fun x24 h22 e23 p25 => ?_)
    have L26 := L21.ext e23
    refine z_bnd (rest := []) (st1 := fun v => mI v :: []) (S_T_alike (d := 0) (Nat.le_refl _) L26 ⟨L26.sh rfl, by decide⟩ p15 ⟨L26.sh rfl, by decide⟩ p20 p25) (fun _ hx => absurd hx List.not_mem_nil) (fun _ => rfl) (fun Q' Q => x_callSN (as := [mR 88, mI x14, mR 88, mI x19, mI x24]) (rest := []) (k' := k_T_alike) (dA d_To_same 15 rfl) o_T_alike lk_To_62 st_T_alike (Nat.le_of_ble_eq_true rfl) (Nat.le_trans (Nat.le_of_ble_eq_true rfl) hd) (Nat.le_of_ble_eq_true rfl)) (fun x29 h27 e28 p30 => ?_)
    have L31 := L26.ext e28
    refine z_br (fun Q => x_if_eq (dA d_To_same 16 rfl) rfl p30.inR) (fun c32 => ?_) (fun c32 => ?_)
    · refine z_fgt (ls' := [mN, mN, mN, mN, mN]) ⟨.inl rfl, .inl rfl, .inl rfl, .inl rfl, .inl rfl, trivial⟩ ?_
      exact S_To_same_41 hd  L31 
    · refine z_go (fun Q hq => x_iconst (dA d_To_same 17 rfl) (x_goto (dA d_To_same 18 rfl) rfl hq)) ?_
      exact z_retz (dA d_To_same 20 rfl) rfl (.inr rfl)
  · refine z_fgt (ls' := [mN, mN, mN, mN, mN]) ⟨.inl rfl, .inl rfl, .inl rfl, .inl rfl, .inl rfl, trivial⟩ ?_
    exact S_To_same_41 hd  L10 
/-! TwoMills$Names.parameterOf(LTwoMills$Tokens;IJ)I -/
noncomputable def F_Na_parameterOf_3_b (G3 : Int → Int64 → Int → MH → RS Int) (v2 : Int) (v3 : Int64) (v5 : Int) (h : MH) : RS Int := gd (0 ≤ v2 ∧ v2 < 8) (if (mGi h 91 v2.toNat) ≤ v5 then some (.inl (-1 : Int), h) else gd (inR (v2 * (3 : Int))) (gd (inR ((v2 * (3 : Int)) + v5)) (gd (0 ≤ ((v2 * (3 : Int)) + v5) ∧ ((v2 * (3 : Int)) + v5) < 24) (bnd (F_To_same (mGl h 92 ((v2 * (3 : Int)) + v5).toNat) v3 h) fun x8 h6 => if x8 = 0 then gd (inR (v5 + (1 : Int))) (G3 v2 v3 (v5 + (1 : Int)) h6) else some (.inl v5, h6)))))
theorem S_Na_parameterOf_3_b {d : Nat} (hd : 2 ≤ d) {G3 : Int → Int64 → Int → MH → RS Int} (hG3 : ∀ (v2 : Int) (v3 : Int64) (v5 : Int) (h : MH), LayC h → inR v2 → inR v5 → OK d k_Na_parameterOf 3 [mR 89, mR 87, mI v2, mL v3, mN, mI v5] [] h cI inR (G3 v2 v3 v5 h)) {v2 : Int} {v3 : Int64} {v5 : Int} {h : MH} (L : LayC h) (rv2 : inR v2) (rv5 : inR v5) : OK d k_Na_parameterOf 3 [mR 89, mR 87, mI v2, mL v3, mN, mI v5] [] h cI inR (F_Na_parameterOf_3_b G3 v2 v3 v5 h) := by
  unfold F_Na_parameterOf_3_b
  refine z_go (fun Q hq => x_iload (dA d_Na_parameterOf 2 rfl) rfl (x_aload_n (dA d_Na_parameterOf 3 rfl) rfl rfl (x_getR (dA d_Na_parameterOf 4 rfl) f_Na_13 (L.sh (x := (8, 5)) rfl) (by decide) (by decide) rfl (L.rf 97 rfl) (x_iload_n (dA d_Na_parameterOf 5 rfl) rfl rfl hq)))) ?_
  refine z_gd (fun g1 => ?_)
  refine z_go (fun Q hq => x_iald (dA d_Na_parameterOf 6 rfl) (L.sh (x := (100, 8)) rfl) g1.1 g1.2 (by decide) hq) ?_
  refine z_br (fun Q => x_icmp_ge (dA d_Na_parameterOf 7 rfl) rfl rv5 (L.rg _ _)) (fun c2 => ?_) (fun c2 => ?_)
  · refine z_go (fun Q hq => x_iconst (dA d_Na_parameterOf 24 rfl) hq) ?_
    exact z_reti (dA d_Na_parameterOf 25 rfl) rfl (inR_lit (-1 : Int) rfl)
  · refine z_go (fun Q hq => x_aload_n (dA d_Na_parameterOf 8 rfl) rfl rfl (x_aload_n (dA d_Na_parameterOf 9 rfl) rfl rfl (x_getR (dA d_Na_parameterOf 10 rfl) f_Na_17 (L.sh (x := (8, 5)) rfl) (by decide) (by decide) rfl (L.rf 98 rfl) (x_iload_n (dA d_Na_parameterOf 11 rfl) rfl rfl (x_iconst (dA d_Na_parameterOf 12 rfl) hq))))) ?_
    refine z_gd (fun g3 => ?_)
    refine z_go (fun Q hq => x_imul (dA d_Na_parameterOf 13 rfl) (x_iload (dA d_Na_parameterOf 14 rfl) rfl hq)) ?_
    refine z_gd (fun g4 => ?_)
    refine z_go (fun Q hq => x_iadd (dA d_Na_parameterOf 15 rfl) hq) ?_
    refine z_gd (fun g5 => ?_)
    refine z_go (fun Q hq => x_lald (dA d_Na_parameterOf 16 rfl) (L.sh (x := (103, 24)) rfl) g5.1 g5.2 (by decide) (x_lload_n (dA d_Na_parameterOf 17 rfl) rfl rfl hq)) ?_
    refine z_bnd (rest := []) (st1 := fun v => mI v :: []) (S_To_same (d := 1) (Nat.le_refl _) L ) (fun _ hx => absurd hx List.not_mem_nil) (fun _ => rfl) (fun Q' Q => x_callV (as := [mL (mGl h 92 ((v2 * (3 : Int)) + v5).toNat), mL v3]) (rest := []) (k' := k_To_same) (dA d_Na_parameterOf 18 rfl) o_To_same lk_Na_28 im_To_same se_To_same rfl (L.sh (x := (11, 3)) rfl) (by decide) (Nat.le_of_ble_eq_true rfl) (Nat.le_trans (Nat.le_of_ble_eq_true rfl) hd) (Nat.le_of_ble_eq_true rfl)) (fun x8 h6 e7 p9 => ?_)
    have L10 := L.ext e7
    refine z_br (fun Q => x_if_eq (dA d_Na_parameterOf 19 rfl) rfl p9.inR) (fun c11 => ?_) (fun c11 => ?_)
    · refine z_gd (fun g12 => ?_)
      refine z_go (fun Q hq => x_iinc (dA d_Na_parameterOf 22 rfl) rfl (by decide) rfl (x_goto (dA d_Na_parameterOf 23 rfl) rfl hq)) ?_
      exact hG3 v2 v3 (v5 + (1 : Int)) h6 L10 rv2 g12
    · refine z_go (fun Q hq => x_iload (dA d_Na_parameterOf 20 rfl) rfl hq) ?_
      exact z_reti (dA d_Na_parameterOf 21 rfl) rfl rv5
noncomputable def F_Na_parameterOf_3 (v2 : Int) (v3 : Int64) (v5 : Int) (h : MH) : RS Int := itr (fun self (q : Int × Int64 × Int × MH) => F_Na_parameterOf_3_b (fun v2 v3 v5 h => self (v2, v3, v5, h)) q.1 q.2.1 q.2.2.1 q.2.2.2) FU (v2, v3, v5, h)
theorem S_Na_parameterOf_3 {d : Nat} (hd : 2 ≤ d) {v2 : Int} {v3 : Int64} {v5 : Int} {h : MH} (L : LayC h) (rv2 : inR v2) (rv5 : inR v5) : OK d k_Na_parameterOf 3 [mR 89, mR 87, mI v2, mL v3, mN, mI v5] [] h cI inR (F_Na_parameterOf_3  v2 v3 v5 h) := by
  unfold F_Na_parameterOf_3
  refine z_itr (P := fun q : Int × Int64 × Int × MH => LayC q.2.2.2 ∧ inR q.1 ∧ inR q.2.2.1 ∧ True) (ls := fun q : Int × Int64 × Int × MH => [mR 89, mR 87, mI q.1, mL q.2.1, mN, mI q.2.2.1]) (hp := fun q : Int × Int64 × Int × MH => q.2.2.2) (fun self hs q hq => ?_) FU (v2, v3, v5, h) ⟨L, rv2, rv5, trivial⟩
  exact S_Na_parameterOf_3_b hd (fun v2 v3 v5 h L rv2 rv5 => hs (v2, v3, v5, h) ⟨L, rv2, rv5, trivial⟩) hq.1 hq.2.1 hq.2.2.1
noncomputable def F_Na_parameterOf (a2 : Int) (a3 : Int64) (h : MH) : RS Int := F_Na_parameterOf_3 a2 a3 (0 : Int) h
theorem S_Na_parameterOf {d : Nat} (hd : 2 ≤ d) {a2 : Int} {a3 : Int64} {h : MH} (L : LayC h) (ra2 : inR a2) : OK d k_Na_parameterOf 0 [mR 89, mR 87, mI a2, mL a3, mN, mN] [] h cI inR (F_Na_parameterOf  a2 a3 h) := by
  unfold F_Na_parameterOf
  refine z_go (fun Q hq => x_iconst (dA d_Na_parameterOf 0 rfl) (x_istore (dA d_Na_parameterOf 1 rfl) (by decide) rfl hq)) ?_
  exact S_Na_parameterOf_3 hd  L ra2 (inR_lit (0 : Int) rfl)
/-! TwoMills$Tokens.is(JLjava/lang/String;)Z -/
noncomputable def F_To_is (a1 : Int64) (a2 : Nat) (h : MH) : RS Int := bnd (F_To_start a1 h) fun x3 h1 => bnd (F_To_length a1 h1) fun x8 h6 => bnd (F_T_spells 88 1302 x3 x8 a2 h6) fun x13 h11 => some (.inl x13, h11)
theorem S_To_is {d : Nat} (hd : 5 ≤ d) {a1 : Int64} {a2 : Nat} {h : MH} (L : LayC h) (ra2 : a2 < 16) : OK d k_To_is 0 [mR 87, mL a1, mN, mS a2] [] h cI p01 (F_To_is  a1 a2 h) := by
  unfold F_To_is
  refine z_go (fun Q hq => x_aload_n (dA d_To_is 0 rfl) rfl rfl (x_getR (dA d_To_is 1 rfl) f_To_11 (L.sh (x := (11, 3)) rfl) (by decide) (by decide) rfl (L.rf 95 rfl) (x_lload_n (dA d_To_is 2 rfl) rfl rfl hq))) ?_
  refine z_bnd (rest := [mR 88]) (st1 := fun v => mI v :: [mR 88]) (S_To_start (d := 0) (Nat.le_refl _) L ) (fun _ hx => absurd hx List.not_mem_nil) (fun _ => rfl) (fun Q' Q => x_callS (as := [mL a1]) (rest := [mR 88]) (k' := k_To_start) (dA d_To_is 3 rfl) o_To_start lk_To_59 st_To_start (Nat.le_of_ble_eq_true rfl) (Nat.le_trans (Nat.le_of_ble_eq_true rfl) hd) (Nat.le_of_ble_eq_true rfl)) (fun x3 h1 e2 p4 => ?_)
  have L5 := L.ext e2
  refine z_go (fun Q hq => x_lload_n (dA d_To_is 4 rfl) rfl rfl hq) ?_
  refine z_bnd (rest := [mI x3, mR 88]) (st1 := fun v => mI v :: [mI x3, mR 88]) (S_To_length (d := 0) (Nat.le_refl _) L5 ) (fun _ hx => absurd hx List.not_mem_nil) (fun _ => rfl) (fun Q' Q => x_callS (as := [mL a1]) (rest := [mI x3, mR 88]) (k' := k_To_length) (dA d_To_is 5 rfl) o_To_length lk_To_56 st_To_length (Nat.le_of_ble_eq_true rfl) (Nat.le_trans (Nat.le_of_ble_eq_true rfl) hd) (Nat.le_of_ble_eq_true rfl)) (fun x8 h6 e7 p9 => ?_)
  have L10 := L5.ext e7
  refine z_go (fun Q hq => x_sload_n (dA d_To_is 6 rfl) rfl rfl hq) ?_
  refine z_bnd (rest := []) (st1 := fun v => mI v :: []) (S_T_spells (d := 4) (Nat.le_refl _) L10 ⟨L10.sh rfl, by decide⟩ p4 p9 ra2) (fun _ hx => absurd hx List.not_mem_nil) (fun _ => rfl) (fun Q' Q => x_callSN (as := [mR 88, mI x3, mI x8, mS a2]) (rest := []) (k' := k_T_spells) (dA d_To_is 7 rfl) o_T_spells lk_To_66 st_T_spells (Nat.le_of_ble_eq_true rfl) (Nat.le_trans (Nat.le_of_ble_eq_true rfl) hd) (Nat.le_of_ble_eq_true rfl)) (fun x13 h11 e12 p14 => ?_)
  have L15 := L10.ext e12
  exact z_retz (dA d_To_is 8 rfl) rfl p14
/-! TwoMills$Tokens.kind(J)I -/
noncomputable def F_To_kind (a1 : Int64) (h : MH) : RS Int := some (.inl (((a1 >>> ((Int32.ofInt (32 : Int)).toInt64 &&& 63)) &&& (255 : Int64)).toInt32.toInt), h)
theorem S_To_kind {d : Nat} (hd : 0 ≤ d) {a1 : Int64} {h : MH} (L : LayC h) : OK d k_To_kind 0 [mL a1, mN] [] h cI inR (F_To_kind  a1 h) := by
  unfold F_To_kind
  refine z_go (fun Q hq => x_lload_n (dA d_To_kind 0 rfl) rfl rfl (x_bipush (dA d_To_kind 1 rfl) (by decide) (x_lshr (dA d_To_kind 2 rfl) (x_ldc2 (dA d_To_kind 3 rfl) kl_To_39 (x_land (dA d_To_kind 4 rfl) (x_l2i (dA d_To_kind 5 rfl) hq)))))) ?_
  exact z_reti (dA d_To_kind 6 rfl) rfl (inR_32 _)
/-! TwoMills$Tokens.isJoiner(J)Z -/
noncomputable def F_To_isJoiner_22 (h : MH) : RS Int := some (.inl (0 : Int), h)
theorem S_To_isJoiner_22 {d : Nat} (hd : 6 ≤ d) {h : MH} (L : LayC h) : OK d k_To_isJoiner 22 [mN, mN, mN] [] h cI p01 (F_To_isJoiner_22   h) := by
  unfold F_To_isJoiner_22
  refine z_go (fun Q hq => x_iconst (dA d_To_isJoiner 11 rfl) hq) ?_
  exact z_retz (dA d_To_isJoiner 12 rfl) rfl (.inl rfl)
noncomputable def F_To_isJoiner (a1 : Int64) (h : MH) : RS Int := bnd (F_To_kind a1 h) fun x3 h1 => if x3 = (4 : Int) then bnd (F_To_is a1 13 h1) fun x9 h7 => if x9 = 0 then F_To_isJoiner_22  h7 else some (.inl (1 : Int), h7) else F_To_isJoiner_22  h1
theorem S_To_isJoiner {d : Nat} (hd : 6 ≤ d) {a1 : Int64} {h : MH} (L : LayC h) : OK d k_To_isJoiner 0 [mR 87, mL a1, mN] [] h cI p01 (F_To_isJoiner  a1 h) := by
  unfold F_To_isJoiner
  refine z_go (fun Q hq => x_lload_n (dA d_To_isJoiner 0 rfl) rfl rfl hq) ?_
  refine z_bnd (rest := []) (st1 := fun v => mI v :: []) (S_To_kind (d := 0) (Nat.le_refl _) L ) (fun _ hx => absurd hx List.not_mem_nil) (fun _ => rfl) (fun Q' Q => x_callS (as := [mL a1]) (rest := []) (k' := k_To_kind) (dA d_To_isJoiner 1 rfl) o_To_kind lk_To_70 st_To_kind (Nat.le_of_ble_eq_true rfl) (Nat.le_trans (Nat.le_of_ble_eq_true rfl) hd) (Nat.le_of_ble_eq_true rfl)) (fun x3 h1 e2 p4 => ?_)
  have L5 := L.ext e2
  refine z_go (fun Q hq => x_iconst (dA d_To_isJoiner 2 rfl) hq) ?_
  refine z_brn (fun Q => x_icmp_ne (dA d_To_isJoiner 3 rfl) rfl p4 (inR_lit (4 : Int) rfl)) (fun c6 => ?_) (fun c6 => ?_)
  · refine z_go (fun Q hq => x_aload_n (dA d_To_isJoiner 4 rfl) rfl rfl (x_lload_n (dA d_To_isJoiner 5 rfl) rfl rfl (x_ldcS (dA d_To_isJoiner 6 rfl) (List.mem_of_getElem? (i := 14) rfl) hq))) ?_
    refine z_bnd (rest := []) (st1 := fun v => mI v :: []) (S_To_is (d := 5) (Nat.le_refl _) L5 (by decide)) (fun _ hx => absurd hx List.not_mem_nil) (fun _ => rfl) (fun Q' Q => x_callV (as := [mL a1, mS 13]) (rest := []) (k' := k_To_is) (dA d_To_isJoiner 7 rfl) o_To_is lk_To_75 im_To_is se_To_is rfl (L5.sh (x := (11, 3)) rfl) (by decide) (Nat.le_of_ble_eq_true rfl) (Nat.le_trans (Nat.le_of_ble_eq_true rfl) hd) (Nat.le_of_ble_eq_true rfl)) (fun x9 h7 e8 p10 => ?_)
    have L11 := L5.ext e8
    refine z_br (fun Q => x_if_eq (dA d_To_isJoiner 8 rfl) rfl p10.inR) (fun c12 => ?_) (fun c12 => ?_)
    · refine z_fgt (ls' := [mN, mN, mN]) ⟨.inl rfl, .inl rfl, .inl rfl, trivial⟩ ?_
      exact S_To_isJoiner_22 hd  L11 
    · refine z_go (fun Q hq => x_iconst (dA d_To_isJoiner 9 rfl) (x_goto (dA d_To_isJoiner 10 rfl) rfl hq)) ?_
      exact z_retz (dA d_To_isJoiner 12 rfl) rfl (.inr rfl)
  · refine z_fgt (ls' := [mN, mN, mN]) ⟨.inl rfl, .inl rfl, .inl rfl, trivial⟩ ?_
    exact S_To_isJoiner_22 hd  L5 
/-! TwoMills$Tokens.isSign(JC)Z -/
noncomputable def F_To_isSign_33 (h : MH) : RS Int := some (.inl (0 : Int), h)
theorem S_To_isSign_33 {d : Nat} (hd : 1 ≤ d) {h : MH} (L : LayC h) : OK d k_To_isSign 33 [mN, mN, mN, mN] [] h cI p01 (F_To_isSign_33   h) := by
  unfold F_To_isSign_33
  refine z_go (fun Q hq => x_iconst (dA d_To_isSign 17 rfl) hq) ?_
  exact z_retz (dA d_To_isSign 18 rfl) rfl (.inl rfl)
noncomputable def F_To_isSign (a1 : Int64) (a2 : Int) (h : MH) : RS Int := bnd (F_To_kind a1 h) fun x3 h1 => if x3 = (4 : Int) then bnd (F_To_length a1 h1) fun x9 h7 => if x9 = (1 : Int) then bnd (F_To_start a1 h7) fun x15 h13 => gd (0 ≤ x15 ∧ x15 < 1302) (if (mGi h13 88 x15.toNat) = a2 then some (.inl (1 : Int), h13) else F_To_isSign_33  h13) else F_To_isSign_33  h7 else F_To_isSign_33  h1
theorem S_To_isSign {d : Nat} (hd : 1 ≤ d) {a1 : Int64} {a2 : Int} {h : MH} (L : LayC h) (ra2 : 0 ≤ a2 ∧ a2 < 65536) : OK d k_To_isSign 0 [mR 87, mL a1, mN, mI a2] [] h cI p01 (F_To_isSign  a1 a2 h) := by
  unfold F_To_isSign
  refine z_go (fun Q hq => x_lload_n (dA d_To_isSign 0 rfl) rfl rfl hq) ?_
  refine z_bnd (rest := []) (st1 := fun v => mI v :: []) (S_To_kind (d := 0) (Nat.le_refl _) L ) (fun _ hx => absurd hx List.not_mem_nil) (fun _ => rfl) (fun Q' Q => x_callS (as := [mL a1]) (rest := []) (k' := k_To_kind) (dA d_To_isSign 1 rfl) o_To_kind lk_To_70 st_To_kind (Nat.le_of_ble_eq_true rfl) (Nat.le_trans (Nat.le_of_ble_eq_true rfl) hd) (Nat.le_of_ble_eq_true rfl)) (fun x3 h1 e2 p4 => ?_)
  have L5 := L.ext e2
  refine z_go (fun Q hq => x_iconst (dA d_To_isSign 2 rfl) hq) ?_
  refine z_brn (fun Q => x_icmp_ne (dA d_To_isSign 3 rfl) rfl p4 (inR_lit (4 : Int) rfl)) (fun c6 => ?_) (fun c6 => ?_)
  · refine z_go (fun Q hq => x_lload_n (dA d_To_isSign 4 rfl) rfl rfl hq) ?_
    refine z_bnd (rest := []) (st1 := fun v => mI v :: []) (S_To_length (d := 0) (Nat.le_refl _) L5 ) (fun _ hx => absurd hx List.not_mem_nil) (fun _ => rfl) (fun Q' Q => x_callS (as := [mL a1]) (rest := []) (k' := k_To_length) (dA d_To_isSign 5 rfl) o_To_length lk_To_56 st_To_length (Nat.le_of_ble_eq_true rfl) (Nat.le_trans (Nat.le_of_ble_eq_true rfl) hd) (Nat.le_of_ble_eq_true rfl)) (fun x9 h7 e8 p10 => ?_)
    have L11 := L5.ext e8
    refine z_go (fun Q hq => x_iconst (dA d_To_isSign 6 rfl) hq) ?_
    refine z_brn (fun Q => x_icmp_ne (dA d_To_isSign 7 rfl) rfl p10 (inR_lit (1 : Int) rfl)) (fun c12 => ?_) (fun c12 => ?_)
    · refine z_go (fun Q hq => x_aload_n (dA d_To_isSign 8 rfl) rfl rfl (x_getR (dA d_To_isSign 9 rfl) f_To_11 (L11.sh (x := (11, 3)) rfl) (by decide) (by decide) rfl (L11.rf 95 rfl) (x_lload_n (dA d_To_isSign 10 rfl) rfl rfl hq))) ?_
      refine z_bnd (rest := [mR 88]) (st1 := fun v => mI v :: [mR 88]) (S_To_start (d := 0) (Nat.le_refl _) L11 ) (fun _ hx => absurd hx List.not_mem_nil) (fun _ => rfl) (fun Q' Q => x_callS (as := [mL a1]) (rest := [mR 88]) (k' := k_To_start) (dA d_To_isSign 11 rfl) o_To_start lk_To_59 st_To_start (Nat.le_of_ble_eq_true rfl) (Nat.le_trans (Nat.le_of_ble_eq_true rfl) hd) (Nat.le_of_ble_eq_true rfl)) (fun x15 h13 e14 p16 => ?_)
      have L17 := L11.ext e14
      refine z_gd (fun g18 => ?_)
      refine z_go (fun Q hq => x_cald (dA d_To_isSign 12 rfl) (L17.sh (x := (101, 1302)) rfl) g18.1 g18.2 (by decide) (x_iload_n (dA d_To_isSign 13 rfl) rfl rfl hq)) ?_
      refine z_brn (fun Q => x_icmp_ne (dA d_To_isSign 14 rfl) rfl (L17.rg _ _) (inR_ch ra2)) (fun c19 => ?_) (fun c19 => ?_)
      · refine z_go (fun Q hq => x_iconst (dA d_To_isSign 15 rfl) (x_goto (dA d_To_isSign 16 rfl) rfl hq)) ?_
        exact z_retz (dA d_To_isSign 18 rfl) rfl (.inr rfl)
      · refine z_fgt (ls' := [mN, mN, mN, mN]) ⟨.inl rfl, .inl rfl, .inl rfl, .inl rfl, trivial⟩ ?_
        exact S_To_isSign_33 hd  L17 
    · refine z_fgt (ls' := [mN, mN, mN, mN]) ⟨.inl rfl, .inl rfl, .inl rfl, .inl rfl, trivial⟩ ?_
      exact S_To_isSign_33 hd  L11 
  · refine z_fgt (ls' := [mN, mN, mN, mN]) ⟨.inl rfl, .inl rfl, .inl rfl, .inl rfl, trivial⟩ ?_
    exact S_To_isSign_33 hd  L5 
/-! TwoMills$Tokens.append(C)V -/
noncomputable def F_To_append_C (a1 : Int) (h : MH) : RS Unit := gd (inR ((402 : Int) + (mGi h 87 1))) (gd (0 ≤ ((402 : Int) + (mGi h 87 1)) ∧ ((402 : Int) + (mGi h 87 1)) < 1302) (sto (mPi h 88 ((402 : Int) + (mGi h 87 1)).toNat a1) fun h3 => gd (inR ((mGi h3 87 1) + (1 : Int))) (sto (mPi h3 87 1 ((mGi h3 87 1) + (1 : Int))) fun h7 => some (.inl (), h7))))
theorem S_To_append_C {d : Nat} (hd : 0 ≤ d) {a1 : Int} {h : MH} (L : LayC h) (ra1 : 0 ≤ a1 ∧ a1 < 65536) : OK d k_To_append_C 0 [mR 87, mI a1] [] h cV pT (F_To_append_C  a1 h) := by
  unfold F_To_append_C
  refine z_go (fun Q hq => x_aload_n (dA d_To_append_C 0 rfl) rfl rfl (x_getR (dA d_To_append_C 1 rfl) f_To_11 (L.sh (x := (11, 3)) rfl) (by decide) (by decide) rfl (L.rf 95 rfl) (x_sipush (dA d_To_append_C 2 rfl) (by decide) (x_aload_n (dA d_To_append_C 3 rfl) rfl rfl (x_getI (dA d_To_append_C 4 rfl) f_To_28 (L.sh (x := (11, 3)) rfl) (by decide) (by decide) rfl hq))))) ?_
  refine z_gd (fun g1 => ?_)
  refine z_go (fun Q hq => x_iadd (dA d_To_append_C 5 rfl) (x_iload_n (dA d_To_append_C 6 rfl) rfl rfl hq)) ?_
  refine z_gd (fun g2 => ?_)
  refine z_sto (Ext.pc ra1.1 ra1.2) (fun Q hq => x_cast (dA d_To_append_C 7 rfl) (L.sh (x := (101, 1302)) rfl) g2.1 g2.2 (by decide) ra1.1 ra1.2 hq) (fun h3 e4 => ?_)
  have L5 := L.ext e4
  refine z_go (fun Q hq => x_aload_n (dA d_To_append_C 8 rfl) rfl rfl (x_dup (dA d_To_append_C 9 rfl) rfl (x_getI (dA d_To_append_C 10 rfl) f_To_28 (L5.sh (x := (11, 3)) rfl) (by decide) (by decide) rfl (x_iconst (dA d_To_append_C 11 rfl) hq)))) ?_
  refine z_gd (fun g6 => ?_)
  refine z_go (fun Q hq => x_iadd (dA d_To_append_C 12 rfl) hq) ?_
  refine z_sto (Ext.pi (L5.sh (x := (11, 3)) rfl) (by decide) g6) (fun Q hq => x_putI (dA d_To_append_C 13 rfl) p_To_28 (L5.sh (x := (11, 3)) rfl) (by decide) cl_To rfl hq) (fun h7 e8 => ?_)
  have L9 := L5.ext e8
  exact z_retv (dA d_To_append_C 14 rfl) rfl
/-! TwoMills$Tokens.append(J)V -/
noncomputable def F_To_append_J (a1 : Int64) (h : MH) : RS Unit := bnd (F_To_start a1 h) fun x3 h1 => gd (inR ((402 : Int) + (mGi h1 87 1))) (bnd (F_To_length a1 h1) fun x9 h7 => gd (0 ≤ x3 ∧ 0 ≤ ((402 : Int) + (mGi h1 87 1)) ∧ 0 ≤ x9 ∧ x3 + x9 ≤ 1302 ∧ ((402 : Int) + (mGi h1 87 1)) + x9 ≤ 1302) (sto (mCpI h7 88 88 x3.toNat ((402 : Int) + (mGi h1 87 1)).toNat x9.toNat) fun h13 => bnd (F_To_length a1 h13) fun x18 h16 => gd (inR ((mGi h13 87 1) + x18)) (sto (mPi h16 87 1 ((mGi h13 87 1) + x18)) fun h22 => some (.inl (), h22))))
theorem S_To_append_J {d : Nat} (hd : 1 ≤ d) {a1 : Int64} {h : MH} (L : LayC h) : OK d k_To_append_J 0 [mR 87, mL a1, mN] [] h cV pT (F_To_append_J  a1 h) := by
  unfold F_To_append_J
  refine z_go (fun Q hq => x_aload_n (dA d_To_append_J 0 rfl) rfl rfl (x_getR (dA d_To_append_J 1 rfl) f_To_11 (L.sh (x := (11, 3)) rfl) (by decide) (by decide) rfl (L.rf 95 rfl) (x_lload_n (dA d_To_append_J 2 rfl) rfl rfl hq))) ?_
  refine z_bnd (rest := [mR 88]) (st1 := fun v => mI v :: [mR 88]) (S_To_start (d := 0) (Nat.le_refl _) L ) (fun _ hx => absurd hx List.not_mem_nil) (fun _ => rfl) (fun Q' Q => x_callS (as := [mL a1]) (rest := [mR 88]) (k' := k_To_start) (dA d_To_append_J 3 rfl) o_To_start lk_To_59 st_To_start (Nat.le_of_ble_eq_true rfl) (Nat.le_trans (Nat.le_of_ble_eq_true rfl) hd) (Nat.le_of_ble_eq_true rfl)) (fun x3 h1 e2 p4 => ?_)
  have L5 := L.ext e2
  refine z_go (fun Q hq => x_aload_n (dA d_To_append_J 4 rfl) rfl rfl (x_getR (dA d_To_append_J 5 rfl) f_To_11 (L5.sh (x := (11, 3)) rfl) (by decide) (by decide) rfl (L5.rf 95 rfl) (x_sipush (dA d_To_append_J 6 rfl) (by decide) (x_aload_n (dA d_To_append_J 7 rfl) rfl rfl (x_getI (dA d_To_append_J 8 rfl) f_To_28 (L5.sh (x := (11, 3)) rfl) (by decide) (by decide) rfl hq))))) ?_
  refine z_gd (fun g6 => ?_)
  refine z_go (fun Q hq => x_iadd (dA d_To_append_J 9 rfl) (x_lload_n (dA d_To_append_J 10 rfl) rfl rfl hq)) ?_
  refine z_bnd (rest := [mI ((402 : Int) + (mGi h1 87 1)), mR 88, mI x3, mR 88]) (st1 := fun v => mI v :: [mI ((402 : Int) + (mGi h1 87 1)), mR 88, mI x3, mR 88]) (S_To_length (d := 0) (Nat.le_refl _) L5 ) (fun _ hx => absurd hx List.not_mem_nil) (fun _ => rfl) (fun Q' Q => x_callS (as := [mL a1]) (rest := [mI ((402 : Int) + (mGi h1 87 1)), mR 88, mI x3, mR 88]) (k' := k_To_length) (dA d_To_append_J 11 rfl) o_To_length lk_To_56 st_To_length (Nat.le_of_ble_eq_true rfl) (Nat.le_trans (Nat.le_of_ble_eq_true rfl) hd) (Nat.le_of_ble_eq_true rfl)) (fun x9 h7 e8 p10 => ?_)
  have L11 := L5.ext e8
  refine z_gd (fun g12 => ?_)
  refine z_sto (Ext.cpI (L11.sh (x := (101, 1302)) rfl) (L11.sh (x := (101, 1302)) rfl)) (fun Q hq => x_copyCI (dA d_To_append_J 12 rfl) lk_To_22 (L11.sh (x := (101, 1302)) rfl) (L11.sh (x := (101, 1302)) rfl) g12 (by decide) (by decide) L11.2.2.1 (Nat.le_of_ble_eq_true rfl) hq) (fun h13 e14 => ?_)
  have L15 := L11.ext e14
  refine z_go (fun Q hq => x_aload_n (dA d_To_append_J 13 rfl) rfl rfl (x_dup (dA d_To_append_J 14 rfl) rfl (x_getI (dA d_To_append_J 15 rfl) f_To_28 (L15.sh (x := (11, 3)) rfl) (by decide) (by decide) rfl (x_lload_n (dA d_To_append_J 16 rfl) rfl rfl hq)))) ?_
  refine z_bnd (rest := [mI (mGi h13 87 1), mR 87]) (st1 := fun v => mI v :: [mI (mGi h13 87 1), mR 87]) (S_To_length (d := 0) (Nat.le_refl _) L15 ) (fun _ hx => absurd hx List.not_mem_nil) (fun _ => rfl) (fun Q' Q => x_callS (as := [mL a1]) (rest := [mI (mGi h13 87 1), mR 87]) (k' := k_To_length) (dA d_To_append_J 17 rfl) o_To_length lk_To_56 st_To_length (Nat.le_of_ble_eq_true rfl) (Nat.le_trans (Nat.le_of_ble_eq_true rfl) hd) (Nat.le_of_ble_eq_true rfl)) (fun x18 h16 e17 p19 => ?_)
  have L20 := L15.ext e17
  refine z_gd (fun g21 => ?_)
  refine z_go (fun Q hq => x_iadd (dA d_To_append_J 18 rfl) hq) ?_
  refine z_sto (Ext.pi (L20.sh (x := (11, 3)) rfl) (by decide) g21) (fun Q hq => x_putI (dA d_To_append_J 19 rfl) p_To_28 (L20.sh (x := (11, 3)) rfl) (by decide) cl_To rfl hq) (fun h22 e23 => ?_)
  have L24 := L20.ext e23
  exact z_retv (dA d_To_append_J 20 rfl) rfl
/-! TwoMills$Tokens.stringOf([JII)J -/
noncomputable def F_To_stringOf_95 (G77 : Nat → Nat → Int → Int → Int → Int → Int → MH → RS Int64) (v1 : Nat) (v1n : Nat) (v2 : Int) (v3 : Int) (v4 : Int) (v5 : Int) (v6 : Int) (h : MH) : RS Int64 := gd (0 ≤ v6 ∧ v6 < v1n) (bnd (F_To_append_J (mGl h v1 v6.toNat) h) fun x4 h2 => gd (inR (v6 + (1 : Int))) (G77 v1 v1n v2 v3 v4 v5 (v6 + (1 : Int)) h2))
theorem S_To_stringOf_95 {d : Nat} (hd : 2 ≤ d) {G77 : Nat → Nat → Int → Int → Int → Int → Int → MH → RS Int64} (hG77 : ∀ (v1 : Nat) (v1n : Nat) (v2 : Int) (v3 : Int) (v4 : Int) (v5 : Int) (v6 : Int) (h : MH), LayC h → ArO h v1 103 v1n → inR v2 → inR v3 → inR v4 → inR v5 → inR v6 → OK d k_To_stringOf 77 [mR 87, mR v1, mI v2, mI v3, mI v4, mI v5, mI v6] [] h cJ pT (G77 v1 v1n v2 v3 v4 v5 v6 h)) {v1 : Nat} {v1n : Nat} {v2 : Int} {v3 : Int} {v4 : Int} {v5 : Int} {v6 : Int} {h : MH} (L : LayC h) (ov1 : ArO h v1 103 v1n) (rv2 : inR v2) (rv3 : inR v3) (rv4 : inR v4) (rv5 : inR v5) (rv6 : inR v6) : OK d k_To_stringOf 95 [mR 87, mR v1, mI v2, mI v3, mI v4, mI v5, mI v6] [] h cJ pT (F_To_stringOf_95 G77 v1 v1n v2 v3 v4 v5 v6 h) := by
  unfold F_To_stringOf_95
  refine z_go (fun Q hq => x_aload_n (dA d_To_stringOf 52 rfl) rfl rfl (x_aload_n (dA d_To_stringOf 53 rfl) rfl rfl (x_iload (dA d_To_stringOf 54 rfl) rfl hq))) ?_
  refine z_gd (fun g1 => ?_)
  refine z_go (fun Q hq => x_lald (dA d_To_stringOf 55 rfl) ov1.1 g1.1 g1.2 ov1.2 hq) ?_
  refine z_bnd (rest := []) (st1 := fun _ => []) (S_To_append_J (d := 1) (Nat.le_refl _) L ) (fun _ hx => absurd hx List.not_mem_nil) (fun _ => rfl) (fun Q' Q => x_callV (as := [mL (mGl h v1 v6.toNat)]) (rest := []) (k' := k_To_append_J) (dA d_To_stringOf 56 rfl) o_To_append_J lk_To_93 im_To_append_J se_To_append_J rfl (L.sh (x := (11, 3)) rfl) (by decide) (Nat.le_of_ble_eq_true rfl) (Nat.le_trans (Nat.le_of_ble_eq_true rfl) hd) (Nat.le_of_ble_eq_true rfl)) (fun x4 h2 e3 p5 => ?_)
  have L6 := L.ext e3
  refine z_gd (fun g7 => ?_)
  refine z_go (fun Q hq => x_iinc (dA d_To_stringOf 57 rfl) rfl (by decide) rfl (x_goto (dA d_To_stringOf 58 rfl) rfl hq)) ?_
  exact hG77 v1 v1n v2 v3 v4 v5 (v6 + (1 : Int)) h2 L6 (ov1.ext e3) rv2 rv3 rv4 rv5 g7
noncomputable def F_To_stringOf_77_b (G77 : Nat → Nat → Int → Int → Int → Int → Int → MH → RS Int64) (v1 : Nat) (v1n : Nat) (v2 : Int) (v3 : Int) (v4 : Int) (v5 : Int) (v6 : Int) (h : MH) : RS Int64 := if v3 ≤ v6 then bnd (F_To_append_C (34 : Int) h) fun x11 h9 => bnd (F_To_token (3 : Int) v5 v4 h9) fun x16 h14 => some (.inl x16, h14) else if v6 ≤ v2 then F_To_stringOf_95 G77 v1 v1n v2 v3 v4 v5 v6 h else bnd (F_To_append_C (32 : Int) h) fun x22 h20 => F_To_stringOf_95 G77 v1 v1n v2 v3 v4 v5 v6 h20
theorem S_To_stringOf_77_b {d : Nat} (hd : 2 ≤ d) {G77 : Nat → Nat → Int → Int → Int → Int → Int → MH → RS Int64} (hG77 : ∀ (v1 : Nat) (v1n : Nat) (v2 : Int) (v3 : Int) (v4 : Int) (v5 : Int) (v6 : Int) (h : MH), LayC h → ArO h v1 103 v1n → inR v2 → inR v3 → inR v4 → inR v5 → inR v6 → OK d k_To_stringOf 77 [mR 87, mR v1, mI v2, mI v3, mI v4, mI v5, mI v6] [] h cJ pT (G77 v1 v1n v2 v3 v4 v5 v6 h)) {v1 : Nat} {v1n : Nat} {v2 : Int} {v3 : Int} {v4 : Int} {v5 : Int} {v6 : Int} {h : MH} (L : LayC h) (ov1 : ArO h v1 103 v1n) (rv2 : inR v2) (rv3 : inR v3) (rv4 : inR v4) (rv5 : inR v5) (rv6 : inR v6) : OK d k_To_stringOf 77 [mR 87, mR v1, mI v2, mI v3, mI v4, mI v5, mI v6] [] h cJ pT (F_To_stringOf_77_b G77 v1 v1n v2 v3 v4 v5 v6 h) := by
  unfold F_To_stringOf_77_b
  refine z_go (fun Q hq => x_iload (dA d_To_stringOf 43 rfl) rfl (x_iload_n (dA d_To_stringOf 44 rfl) rfl rfl hq)) ?_
  refine z_br (fun Q => x_icmp_ge (dA d_To_stringOf 45 rfl) rfl rv6 rv3) (fun c8 => ?_) (fun c8 => ?_)
  · refine z_go (fun Q hq => x_aload_n (dA d_To_stringOf 59 rfl) rfl rfl (x_bipush (dA d_To_stringOf 60 rfl) (by decide) hq)) ?_
    refine z_bnd (rest := []) (st1 := fun _ => []) (S_To_append_C (d := 0) (Nat.le_refl _) L (ch_lit (34 : Int) rfl)) (fun _ hx => absurd hx List.not_mem_nil) (fun _ => rfl) (fun Q' Q => x_callV (as := [mI (34 : Int)]) (rest := []) (k' := k_To_append_C) (dA d_To_stringOf 61 rfl) o_To_append_C lk_To_89 im_To_append_C se_To_append_C rfl (L.sh (x := (11, 3)) rfl) (by decide) (Nat.le_of_ble_eq_true rfl) (Nat.le_trans (Nat.le_of_ble_eq_true rfl) hd) (Nat.le_of_ble_eq_true rfl)) (fun x11 h9 e10 p12 => ?_)
    have L13 := L.ext e10
    refine z_go (fun Q hq => x_iconst (dA d_To_stringOf 62 rfl) (x_iload (dA d_To_stringOf 63 rfl) rfl (x_iload (dA d_To_stringOf 64 rfl) rfl hq))) ?_
    refine z_bnd (rest := []) (st1 := fun v => mL v :: []) (S_To_token (d := 0) (Nat.le_refl _) L13 (inR_lit (3 : Int) rfl) rv5 rv4) (fun _ hx => absurd hx List.not_mem_nil) (fun _ => rfl) (fun Q' Q => x_callS (as := [mI (3 : Int), mI v5, mI v4]) (rest := []) (k' := k_To_token) (dA d_To_stringOf 65 rfl) o_To_token lk_To_41 st_To_token (Nat.le_of_ble_eq_true rfl) (Nat.le_trans (Nat.le_of_ble_eq_true rfl) hd) (Nat.le_of_ble_eq_true rfl)) (fun x16 h14 e15 p17 => ?_)
    have L18 := L13.ext e15
    exact z_retj (dA d_To_stringOf 66 rfl) rfl
  · refine z_go (fun Q hq => x_iload (dA d_To_stringOf 46 rfl) rfl (x_iload_n (dA d_To_stringOf 47 rfl) rfl rfl hq)) ?_
    refine z_br (fun Q => x_icmp_le (dA d_To_stringOf 48 rfl) rfl rv6 rv2) (fun c19 => ?_) (fun c19 => ?_)
    · exact S_To_stringOf_95 hd hG77 L ov1 rv2 rv3 rv4 rv5 rv6
    · refine z_go (fun Q hq => x_aload_n (dA d_To_stringOf 49 rfl) rfl rfl (x_bipush (dA d_To_stringOf 50 rfl) (by decide) hq)) ?_
      refine z_bnd (rest := []) (st1 := fun _ => []) (S_To_append_C (d := 0) (Nat.le_refl _) L (ch_lit (32 : Int) rfl)) (fun _ hx => absurd hx List.not_mem_nil) (fun _ => rfl) (fun Q' Q => x_callV (as := [mI (32 : Int)]) (rest := []) (k' := k_To_append_C) (dA d_To_stringOf 51 rfl) o_To_append_C lk_To_89 im_To_append_C se_To_append_C rfl (L.sh (x := (11, 3)) rfl) (by decide) (Nat.le_of_ble_eq_true rfl) (Nat.le_trans (Nat.le_of_ble_eq_true rfl) hd) (Nat.le_of_ble_eq_true rfl)) (fun x22 h20 e21 p23 => ?_)
      have L24 := L.ext e21
      exact S_To_stringOf_95 hd hG77 L24 (ov1.ext e21) rv2 rv3 rv4 rv5 rv6
noncomputable def F_To_stringOf_77 (v1 : Nat) (v1n : Nat) (v2 : Int) (v3 : Int) (v4 : Int) (v5 : Int) (v6 : Int) (h : MH) : RS Int64 := itr (fun self (q : Nat × Nat × Int × Int × Int × Int × Int × MH) => F_To_stringOf_77_b (fun v1 v1n v2 v3 v4 v5 v6 h => self (v1, v1n, v2, v3, v4, v5, v6, h)) q.1 q.2.1 q.2.2.1 q.2.2.2.1 q.2.2.2.2.1 q.2.2.2.2.2.1 q.2.2.2.2.2.2.1 q.2.2.2.2.2.2.2) FU (v1, v1n, v2, v3, v4, v5, v6, h)
theorem S_To_stringOf_77 {d : Nat} (hd : 2 ≤ d) {v1 : Nat} {v1n : Nat} {v2 : Int} {v3 : Int} {v4 : Int} {v5 : Int} {v6 : Int} {h : MH} (L : LayC h) (ov1 : ArO h v1 103 v1n) (rv2 : inR v2) (rv3 : inR v3) (rv4 : inR v4) (rv5 : inR v5) (rv6 : inR v6) : OK d k_To_stringOf 77 [mR 87, mR v1, mI v2, mI v3, mI v4, mI v5, mI v6] [] h cJ pT (F_To_stringOf_77  v1 v1n v2 v3 v4 v5 v6 h) := by
  unfold F_To_stringOf_77
  refine z_itr (P := fun q : Nat × Nat × Int × Int × Int × Int × Int × MH => LayC q.2.2.2.2.2.2.2 ∧ ArO q.2.2.2.2.2.2.2 q.1 103 q.2.1 ∧ inR q.2.2.1 ∧ inR q.2.2.2.1 ∧ inR q.2.2.2.2.1 ∧ inR q.2.2.2.2.2.1 ∧ inR q.2.2.2.2.2.2.1 ∧ True) (ls := fun q : Nat × Nat × Int × Int × Int × Int × Int × MH => [mR 87, mR q.1, mI q.2.2.1, mI q.2.2.2.1, mI q.2.2.2.2.1, mI q.2.2.2.2.2.1, mI q.2.2.2.2.2.2.1]) (hp := fun q : Nat × Nat × Int × Int × Int × Int × Int × MH => q.2.2.2.2.2.2.2) (fun self hs q hq => ?_) FU (v1, v1n, v2, v3, v4, v5, v6, h) ⟨L, ov1, rv2, rv3, rv4, rv5, rv6, trivial⟩
  exact S_To_stringOf_77_b hd (fun v1 v1n v2 v3 v4 v5 v6 h L ov1 rv2 rv3 rv4 rv5 rv6 => hs (v1, v1n, v2, v3, v4, v5, v6, h) ⟨L, ov1, rv2, rv3, rv4, rv5, rv6, trivial⟩) hq.1 hq.2.1 hq.2.2.1 hq.2.2.2.1 hq.2.2.2.2.1 hq.2.2.2.2.2.1 hq.2.2.2.2.2.2.1
noncomputable def F_To_stringOf_58 (v1 : Nat) (v1n : Nat) (v2 : Int) (v3 : Int) (v4 : Int) (h : MH) : RS Int64 := gd (inR ((402 : Int) + (mGi h 87 1))) (bnd (F_To_append_C (34 : Int) h) fun x28 h26 => F_To_stringOf_77 v1 v1n v2 v3 v4 ((402 : Int) + (mGi h 87 1)) v2 h26)
theorem S_To_stringOf_58 {d : Nat} (hd : 2 ≤ d) {v1 : Nat} {v1n : Nat} {v2 : Int} {v3 : Int} {v4 : Int} {h : MH} (L : LayC h) (ov1 : ArO h v1 103 v1n) (rv2 : inR v2) (rv3 : inR v3) (rv4 : inR v4) : OK d k_To_stringOf 58 [mR 87, mR v1, mI v2, mI v3, mI v4, mN, mN] [] h cJ pT (F_To_stringOf_58  v1 v1n v2 v3 v4 h) := by
  unfold F_To_stringOf_58
  refine z_go (fun Q hq => x_sipush (dA d_To_stringOf 33 rfl) (by decide) (x_aload_n (dA d_To_stringOf 34 rfl) rfl rfl (x_getI (dA d_To_stringOf 35 rfl) f_To_28 (L.sh (x := (11, 3)) rfl) (by decide) (by decide) rfl hq))) ?_
  refine z_gd (fun g25 => ?_)
  refine z_go (fun Q hq => x_iadd (dA d_To_stringOf 36 rfl) (x_istore (dA d_To_stringOf 37 rfl) (by decide) rfl (x_aload_n (dA d_To_stringOf 38 rfl) rfl rfl (x_bipush (dA d_To_stringOf 39 rfl) (by decide) hq)))) ?_
  refine z_bnd (rest := []) (st1 := fun _ => []) (S_To_append_C (d := 0) (Nat.le_refl _) L (ch_lit (34 : Int) rfl)) (fun _ hx => absurd hx List.not_mem_nil) (fun _ => rfl) (fun Q' Q => x_callV (as := [mI (34 : Int)]) (rest := []) (k' := k_To_append_C) (dA d_To_stringOf 40 rfl) o_To_append_C lk_To_89 im_To_append_C se_To_append_C rfl (L.sh (x := (11, 3)) rfl) (by decide) (Nat.le_of_ble_eq_true rfl) (Nat.le_trans (Nat.le_of_ble_eq_true rfl) hd) (Nat.le_of_ble_eq_true rfl)) (fun x28 h26 e27 p29 => ?_)
  have L30 := L.ext e27
  refine z_go (fun Q hq => x_iload_n (dA d_To_stringOf 41 rfl) rfl rfl (x_istore (dA d_To_stringOf 42 rfl) (by decide) rfl hq)) ?_
  exact S_To_stringOf_77 hd  L30 (ov1.ext e27) rv2 rv3 rv4 g25 rv2
noncomputable def F_To_stringOf_16_b (G16 : Nat → Nat → Int → Int → Int → Int → MH → RS Int64) (v1 : Nat) (v1n : Nat) (v2 : Int) (v3 : Int) (v4 : Int) (v5 : Int) (h : MH) : RS Int64 := if v3 ≤ v5 then gd (inR ((900 : Int) - (mGi h 87 1))) (if v4 ≤ ((900 : Int) - (mGi h 87 1)) then F_To_stringOf_58 v1 v1n v2 v3 v4 h else bnd (F_To_fail (1 : Int) h) fun x36 h34 => F_To_stringOf_58 v1 v1n v2 v3 v4 h34) else gd (0 ≤ v5 ∧ v5 < v1n) (bnd (F_To_length (mGl h v1 v5.toNat) h) fun x42 h40 => gd (inR (v4 + x42)) (gd (inR (v5 + (1 : Int))) (G16 v1 v1n v2 v3 (v4 + x42) (v5 + (1 : Int)) h40)))
theorem S_To_stringOf_16_b {d : Nat} (hd : 2 ≤ d) {G16 : Nat → Nat → Int → Int → Int → Int → MH → RS Int64} (hG16 : ∀ (v1 : Nat) (v1n : Nat) (v2 : Int) (v3 : Int) (v4 : Int) (v5 : Int) (h : MH), LayC h → ArO h v1 103 v1n → inR v2 → inR v3 → inR v4 → inR v5 → OK d k_To_stringOf 16 [mR 87, mR v1, mI v2, mI v3, mI v4, mI v5, mN] [] h cJ pT (G16 v1 v1n v2 v3 v4 v5 h)) {v1 : Nat} {v1n : Nat} {v2 : Int} {v3 : Int} {v4 : Int} {v5 : Int} {h : MH} (L : LayC h) (ov1 : ArO h v1 103 v1n) (rv2 : inR v2) (rv3 : inR v3) (rv4 : inR v4) (rv5 : inR v5) : OK d k_To_stringOf 16 [mR 87, mR v1, mI v2, mI v3, mI v4, mI v5, mN] [] h cJ pT (F_To_stringOf_16_b G16 v1 v1n v2 v3 v4 v5 h) := by
  unfold F_To_stringOf_16_b
  refine z_go (fun Q hq => x_iload (dA d_To_stringOf 12 rfl) rfl (x_iload_n (dA d_To_stringOf 13 rfl) rfl rfl hq)) ?_
  refine z_br (fun Q => x_icmp_ge (dA d_To_stringOf 14 rfl) rfl rv5 rv3) (fun c31 => ?_) (fun c31 => ?_)
  · refine z_go (fun Q hq => x_iload (dA d_To_stringOf 24 rfl) rfl (x_sipush (dA d_To_stringOf 25 rfl) (by decide) (x_aload_n (dA d_To_stringOf 26 rfl) rfl rfl (x_getI (dA d_To_stringOf 27 rfl) f_To_28 (L.sh (x := (11, 3)) rfl) (by decide) (by decide) rfl hq)))) ?_
    refine z_gd (fun g32 => ?_)
    refine z_go (fun Q hq => x_isub (dA d_To_stringOf 28 rfl) hq) ?_
    refine z_br (fun Q => x_icmp_le (dA d_To_stringOf 29 rfl) rfl rv4 g32) (fun c33 => ?_) (fun c33 => ?_)
    · refine z_fgt (ls' := [mR 87, mR v1, mI v2, mI v3, mI v4, mN, mN]) ⟨.inr rfl, .inr rfl, .inr rfl, .inr rfl, .inr rfl, .inl rfl, .inl rfl, trivial⟩ ?_
      exact S_To_stringOf_58 hd  L ov1 rv2 rv3 rv4
    · refine z_go (fun Q hq => x_aload_n (dA d_To_stringOf 30 rfl) rfl rfl (x_iconst (dA d_To_stringOf 31 rfl) hq)) ?_
      refine z_bnd (rest := []) (st1 := fun _ => []) (S_To_fail (d := 0) (Nat.le_refl _) L (inR_lit (1 : Int) rfl)) (fun _ hx => absurd hx List.not_mem_nil) (fun _ => rfl) (fun Q' Q => x_callV (as := [mI (1 : Int)]) (rest := []) (k' := k_To_fail) (dA d_To_stringOf 32 rfl) o_To_fail lk_To_85 im_To_fail se_To_fail rfl (L.sh (x := (11, 3)) rfl) (by decide) (Nat.le_of_ble_eq_true rfl) (Nat.le_trans (Nat.le_of_ble_eq_true rfl) hd) (Nat.le_of_ble_eq_true rfl)) (fun x36 h34 e35 p37 => ?_)
      have L38 := L.ext e35
      refine z_fgt (ls' := [mR 87, mR v1, mI v2, mI v3, mI v4, mN, mN]) ⟨.inr rfl, .inr rfl, .inr rfl, .inr rfl, .inr rfl, .inl rfl, .inl rfl, trivial⟩ ?_
      exact S_To_stringOf_58 hd  L38 (ov1.ext e35) rv2 rv3 rv4
  · refine z_go (fun Q hq => x_iload (dA d_To_stringOf 15 rfl) rfl (x_aload_n (dA d_To_stringOf 16 rfl) rfl rfl (x_iload (dA d_To_stringOf 17 rfl) rfl hq))) ?_
    refine z_gd (fun g39 => ?_)
    refine z_go (fun Q hq => x_lald (dA d_To_stringOf 18 rfl) ov1.1 g39.1 g39.2 ov1.2 hq) ?_
    refine z_bnd (rest := [mI v4]) (st1 := fun v => mI v :: [mI v4]) (S_To_length (d := 0) (Nat.le_refl _) L ) (fun _ hx => absurd hx List.not_mem_nil) (fun _ => rfl) (fun Q' Q => x_callS (as := [mL (mGl h v1 v5.toNat)]) (rest := [mI v4]) (k' := k_To_length) (dA d_To_stringOf 19 rfl) o_To_length lk_To_56 st_To_length (Nat.le_of_ble_eq_true rfl) (Nat.le_trans (Nat.le_of_ble_eq_true rfl) hd) (Nat.le_of_ble_eq_true rfl)) (fun x42 h40 e41 p43 => ?_)
    have L44 := L.ext e41
    refine z_gd (fun g45 => ?_)
    refine z_go (fun Q hq => x_iadd (dA d_To_stringOf 20 rfl) (x_istore (dA d_To_stringOf 21 rfl) (by decide) rfl hq)) ?_
    refine z_gd (fun g46 => ?_)
    refine z_go (fun Q hq => x_iinc (dA d_To_stringOf 22 rfl) rfl (by decide) rfl (x_goto (dA d_To_stringOf 23 rfl) rfl hq)) ?_
    exact hG16 v1 v1n v2 v3 (v4 + x42) (v5 + (1 : Int)) h40 L44 (ov1.ext e41) rv2 rv3 g45 g46
noncomputable def F_To_stringOf_16 (v1 : Nat) (v1n : Nat) (v2 : Int) (v3 : Int) (v4 : Int) (v5 : Int) (h : MH) : RS Int64 := itr (fun self (q : Nat × Nat × Int × Int × Int × Int × MH) => F_To_stringOf_16_b (fun v1 v1n v2 v3 v4 v5 h => self (v1, v1n, v2, v3, v4, v5, h)) q.1 q.2.1 q.2.2.1 q.2.2.2.1 q.2.2.2.2.1 q.2.2.2.2.2.1 q.2.2.2.2.2.2) FU (v1, v1n, v2, v3, v4, v5, h)
theorem S_To_stringOf_16 {d : Nat} (hd : 2 ≤ d) {v1 : Nat} {v1n : Nat} {v2 : Int} {v3 : Int} {v4 : Int} {v5 : Int} {h : MH} (L : LayC h) (ov1 : ArO h v1 103 v1n) (rv2 : inR v2) (rv3 : inR v3) (rv4 : inR v4) (rv5 : inR v5) : OK d k_To_stringOf 16 [mR 87, mR v1, mI v2, mI v3, mI v4, mI v5, mN] [] h cJ pT (F_To_stringOf_16  v1 v1n v2 v3 v4 v5 h) := by
  unfold F_To_stringOf_16
  refine z_itr (P := fun q : Nat × Nat × Int × Int × Int × Int × MH => LayC q.2.2.2.2.2.2 ∧ ArO q.2.2.2.2.2.2 q.1 103 q.2.1 ∧ inR q.2.2.1 ∧ inR q.2.2.2.1 ∧ inR q.2.2.2.2.1 ∧ inR q.2.2.2.2.2.1 ∧ True) (ls := fun q : Nat × Nat × Int × Int × Int × Int × MH => [mR 87, mR q.1, mI q.2.2.1, mI q.2.2.2.1, mI q.2.2.2.2.1, mI q.2.2.2.2.2.1, mN]) (hp := fun q : Nat × Nat × Int × Int × Int × Int × MH => q.2.2.2.2.2.2) (fun self hs q hq => ?_) FU (v1, v1n, v2, v3, v4, v5, h) ⟨L, ov1, rv2, rv3, rv4, rv5, trivial⟩
  exact S_To_stringOf_16_b hd (fun v1 v1n v2 v3 v4 v5 h L ov1 rv2 rv3 rv4 rv5 => hs (v1, v1n, v2, v3, v4, v5, h) ⟨L, ov1, rv2, rv3, rv4, rv5, trivial⟩) hq.1 hq.2.1 hq.2.2.1 hq.2.2.2.1 hq.2.2.2.2.1 hq.2.2.2.2.2.1
noncomputable def F_To_stringOf (a1 : Nat) (a1n : Nat) (a2 : Int) (a3 : Int) (h : MH) : RS Int64 := gd (inR (a3 - a2)) (gd (inR ((a3 - a2) - (1 : Int))) (gd (inR ((2 : Int) + (if (0 : Int) < ((a3 - a2) - (1 : Int)) then ((a3 - a2) - (1 : Int)) else (0 : Int)))) (F_To_stringOf_16 a1 a1n a2 a3 ((2 : Int) + (if (0 : Int) < ((a3 - a2) - (1 : Int)) then ((a3 - a2) - (1 : Int)) else (0 : Int))) a2 h)))
theorem S_To_stringOf {d : Nat} (hd : 2 ≤ d) {a1 : Nat} {a1n : Nat} {a2 : Int} {a3 : Int} {h : MH} (L : LayC h) (oa1 : ArO h a1 103 a1n) (ra2 : inR a2) (ra3 : inR a3) : OK d k_To_stringOf 0 [mR 87, mR a1, mI a2, mI a3, mN, mN, mN] [] h cJ pT (F_To_stringOf  a1 a1n a2 a3 h) := by
  unfold F_To_stringOf
  refine z_go (fun Q hq => x_iconst (dA d_To_stringOf 0 rfl) (x_iconst (dA d_To_stringOf 1 rfl) (x_iload_n (dA d_To_stringOf 2 rfl) rfl rfl (x_iload_n (dA d_To_stringOf 3 rfl) rfl rfl hq)))) ?_
  refine z_gd (fun g47 => ?_)
  refine z_go (fun Q hq => x_isub (dA d_To_stringOf 4 rfl) (x_iconst (dA d_To_stringOf 5 rfl) hq)) ?_
  refine z_gd (fun g48 => ?_)
  refine z_go (fun Q hq => x_isub (dA d_To_stringOf 6 rfl) (x_max (dA d_To_stringOf 7 rfl) lk_To_79 mm_max_st mm_iz mm_max_co (inR_lit (0 : Int) rfl) g48 (Nat.le_of_ble_eq_true rfl) hq)) ?_
  refine z_gd (fun g49 => ?_)
  refine z_go (fun Q hq => x_iadd (dA d_To_stringOf 8 rfl) (x_istore (dA d_To_stringOf 9 rfl) (by decide) rfl (x_iload_n (dA d_To_stringOf 10 rfl) rfl rfl (x_istore (dA d_To_stringOf 11 rfl) (by decide) rfl hq)))) ?_
  exact S_To_stringOf_16 hd  L oa1 ra2 ra3 g49 ra2
/-! TwoMills$Expander.substitute(ILTwoMills$Row;I)V -/
noncomputable def F_Ex_substitute_230 (X : Int → Nat → Nat → Int → Int → MH → RS Nat) (G8 : Int → Nat → Int → Int → MH → RS Unit) (v1 : Int) (v2 : Nat) (v3 : Int) (v4 : Int) (h : MH) : RS Unit := gd (inR (v4 + (1 : Int))) (G8 v1 v2 v3 (v4 + (1 : Int)) h)
theorem S_Ex_substitute_230 {d dX : Nat} (hd : dX + 7 ≤ d) {X : Int → Nat → Nat → Int → Int → MH → RS Nat} (hX : ∀ (a1 : Int) (a2 a2n : Nat) (a3 a4 : Int) (h : MH), LayC h → inR a1 → ArO h a2 103 a2n → inR a3 → inR a4 → OK dX k_Ex_expand 0 [mR 95, mI a1, mR a2, mI a3, mI a4, mN, mN] [] h cA pT (X a1 a2 a2n a3 a4 h)) {G8 : Int → Nat → Int → Int → MH → RS Unit} (hG8 : ∀ (v1 : Int) (v2 : Nat) (v3 : Int) (v4 : Int) (h : MH), LayC h → inR v1 → RoO h v2 → inR v3 → inR v4 → OK d k_Ex_substitute 8 [mR 95, mI v1, mR v2, mI v3, mI v4, mN, mN, mN, mN, mN] [] h cV pT (G8 v1 v2 v3 v4 h)) {v1 : Int} {v2 : Nat} {v3 : Int} {v4 : Int} {h : MH} (L : LayC h) (rv1 : inR v1) (ov2 : RoO h v2) (rv3 : inR v3) (rv4 : inR v4) : OK d k_Ex_substitute 230 [mR 95, mI v1, mR v2, mI v3, mI v4, mN, mN, mN, mN, mN] [] h cV pT (F_Ex_substitute_230 X G8 v1 v2 v3 v4 h) := by
  unfold F_Ex_substitute_230
  refine z_gd (fun g1 => ?_)
  refine z_go (fun Q hq => x_iinc (dA d_Ex_substitute 116 rfl) rfl (by decide) rfl (x_goto (dA d_Ex_substitute 117 rfl) rfl hq)) ?_
  exact hG8 v1 v2 v3 (v4 + (1 : Int)) h L rv1 ov2 rv3 g1
noncomputable def F_Ex_substitute_227 (X : Int → Nat → Nat → Int → Int → MH → RS Nat) (G8 : Int → Nat → Int → Int → MH → RS Unit) (v1 : Int) (v2 : Nat) (v3 : Int) (v4 : Int) (s0 : Nat) (s1 : Int64) (h : MH) : RS Unit := bnd (F_Ro_bring s0 s1 h) fun x4 h2 => F_Ex_substitute_230 X G8 v1 v2 v3 v4 h2
theorem S_Ex_substitute_227 {d dX : Nat} (hd : dX + 7 ≤ d) {X : Int → Nat → Nat → Int → Int → MH → RS Nat} (hX : ∀ (a1 : Int) (a2 a2n : Nat) (a3 a4 : Int) (h : MH), LayC h → inR a1 → ArO h a2 103 a2n → inR a3 → inR a4 → OK dX k_Ex_expand 0 [mR 95, mI a1, mR a2, mI a3, mI a4, mN, mN] [] h cA pT (X a1 a2 a2n a3 a4 h)) {G8 : Int → Nat → Int → Int → MH → RS Unit} (hG8 : ∀ (v1 : Int) (v2 : Nat) (v3 : Int) (v4 : Int) (h : MH), LayC h → inR v1 → RoO h v2 → inR v3 → inR v4 → OK d k_Ex_substitute 8 [mR 95, mI v1, mR v2, mI v3, mI v4, mN, mN, mN, mN, mN] [] h cV pT (G8 v1 v2 v3 v4 h)) {v1 : Int} {v2 : Nat} {v3 : Int} {v4 : Int} {s0 : Nat} {s1 : Int64} {h : MH} (L : LayC h) (rv1 : inR v1) (ov2 : RoO h v2) (rv3 : inR v3) (rv4 : inR v4) (os0 : RoO h s0) : OK d k_Ex_substitute 227 [mR 95, mI v1, mR v2, mI v3, mI v4, mN, mN, mN, mN, mN] [mL s1, mR s0] h cV pT (F_Ex_substitute_227 X G8 v1 v2 v3 v4 s0 s1 h) := by
  unfold F_Ex_substitute_227
  refine z_bnd (rest := []) (st1 := fun _ => []) (S_Ro_bring (d := 0) (Nat.le_refl _) L os0) (fun _ hx => absurd hx List.not_mem_nil) (fun _ => rfl) (fun Q' Q => x_callV (as := [mL s1]) (rest := []) (k' := k_Ro_bring) (dA d_Ex_substitute 115 rfl) o_Ro_bring lk_Ex_135 im_Ro_bring se_Ro_bring rfl os0.1 (by decide) (Nat.le_of_ble_eq_true rfl) (by omega) (Nat.le_of_ble_eq_true rfl)) (fun x4 h2 e3 p5 => ?_)
  have L6 := L.ext e3
  exact S_Ex_substitute_230 hd hX hG8 L6 rv1 (ov2.ext e3) rv3 rv4
noncomputable def F_Ex_substitute_188 (X : Int → Nat → Nat → Int → Int → MH → RS Nat) (G8 : Int → Nat → Int → Int → MH → RS Unit) (v1 : Int) (v2 : Nat) (v3 : Int) (v4 : Int) (v7 : Int) (s0 : Int) (h : MH) : RS Unit := gd (p01 s0) (bnd (F_Ex_bringArgument X v1 v2 v7 s0 h) fun x10 h8 => F_Ex_substitute_230 X G8 v1 v2 v3 v4 h8)
theorem S_Ex_substitute_188 {d dX : Nat} (hd : dX + 7 ≤ d) {X : Int → Nat → Nat → Int → Int → MH → RS Nat} (hX : ∀ (a1 : Int) (a2 a2n : Nat) (a3 a4 : Int) (h : MH), LayC h → inR a1 → ArO h a2 103 a2n → inR a3 → inR a4 → OK dX k_Ex_expand 0 [mR 95, mI a1, mR a2, mI a3, mI a4, mN, mN] [] h cA pT (X a1 a2 a2n a3 a4 h)) {G8 : Int → Nat → Int → Int → MH → RS Unit} (hG8 : ∀ (v1 : Int) (v2 : Nat) (v3 : Int) (v4 : Int) (h : MH), LayC h → inR v1 → RoO h v2 → inR v3 → inR v4 → OK d k_Ex_substitute 8 [mR 95, mI v1, mR v2, mI v3, mI v4, mN, mN, mN, mN, mN] [] h cV pT (G8 v1 v2 v3 v4 h)) {v1 : Int} {v2 : Nat} {v3 : Int} {v4 : Int} {v7 : Int} {s0 : Int} {h : MH} (L : LayC h) (rv1 : inR v1) (ov2 : RoO h v2) (rv3 : inR v3) (rv4 : inR v4) (rv7 : inR v7) (rs0 : inR s0) : OK d k_Ex_substitute 188 [mR 95, mI v1, mR v2, mI v3, mI v4, mN, mN, mI v7, mN, mN] [mI s0] h cV pT (F_Ex_substitute_188 X G8 v1 v2 v3 v4 v7 s0 h) := by
  unfold F_Ex_substitute_188
  refine z_go (fun Q hq => x_istore (dA d_Ex_substitute 96 rfl) (by decide) rfl (x_aload_n (dA d_Ex_substitute 97 rfl) rfl rfl (x_iload_n (dA d_Ex_substitute 98 rfl) rfl rfl (x_aload_n (dA d_Ex_substitute 99 rfl) rfl rfl (x_iload (dA d_Ex_substitute 100 rfl) rfl (x_iload (dA d_Ex_substitute 101 rfl) rfl hq)))))) ?_
  refine z_gd (fun g7 => ?_)
  refine z_bnd (rest := []) (st1 := fun _ => []) (S_Ex_bringArgument (d := dX + 3) (Nat.le_refl _) hX L rv1 ov2 rv7 g7) (fun _ hx => absurd hx List.not_mem_nil) (fun _ => rfl) (fun Q' Q => x_callV (as := [mI v1, mR v2, mI v7, mI s0]) (rest := []) (k' := k_Ex_bringArgument) (dA d_Ex_substitute 102 rfl) o_Ex_bringArgument lk_Ex_143 im_Ex_bringArgument se_Ex_bringArgument rfl (L.sh (x := (4, 4)) rfl) (by decide) (Nat.le_of_ble_eq_true rfl) (by omega) (Nat.le_of_ble_eq_true rfl)) (fun x10 h8 e9 p11 => ?_)
  have L12 := L.ext e9
  refine z_go (fun Q hq => x_goto (dA d_Ex_substitute 103 rfl) rfl hq) ?_
  refine z_fgt (ls' := [mR 95, mI v1, mR v2, mI v3, mI v4, mN, mN, mN, mN, mN]) ⟨.inr rfl, .inr rfl, .inr rfl, .inr rfl, .inr rfl, .inl rfl, .inl rfl, .inl rfl, .inl rfl, .inl rfl, trivial⟩ ?_
  exact S_Ex_substitute_230 hd hX hG8 L12 rv1 (ov2.ext e9) rv3 rv4
noncomputable def F_Ex_substitute_183 (X : Int → Nat → Nat → Int → Int → MH → RS Nat) (G8 : Int → Nat → Int → Int → MH → RS Unit) (v1 : Int) (v2 : Nat) (v3 : Int) (v4 : Int) (v7 : Int) (h : MH) : RS Unit := F_Ex_substitute_188 X G8 v1 v2 v3 v4 v7 (1 : Int) h
theorem S_Ex_substitute_183 {d dX : Nat} (hd : dX + 7 ≤ d) {X : Int → Nat → Nat → Int → Int → MH → RS Nat} (hX : ∀ (a1 : Int) (a2 a2n : Nat) (a3 a4 : Int) (h : MH), LayC h → inR a1 → ArO h a2 103 a2n → inR a3 → inR a4 → OK dX k_Ex_expand 0 [mR 95, mI a1, mR a2, mI a3, mI a4, mN, mN] [] h cA pT (X a1 a2 a2n a3 a4 h)) {G8 : Int → Nat → Int → Int → MH → RS Unit} (hG8 : ∀ (v1 : Int) (v2 : Nat) (v3 : Int) (v4 : Int) (h : MH), LayC h → inR v1 → RoO h v2 → inR v3 → inR v4 → OK d k_Ex_substitute 8 [mR 95, mI v1, mR v2, mI v3, mI v4, mN, mN, mN, mN, mN] [] h cV pT (G8 v1 v2 v3 v4 h)) {v1 : Int} {v2 : Nat} {v3 : Int} {v4 : Int} {v7 : Int} {h : MH} (L : LayC h) (rv1 : inR v1) (ov2 : RoO h v2) (rv3 : inR v3) (rv4 : inR v4) (rv7 : inR v7) : OK d k_Ex_substitute 183 [mR 95, mI v1, mR v2, mI v3, mI v4, mN, mN, mI v7, mN, mN] [] h cV pT (F_Ex_substitute_183 X G8 v1 v2 v3 v4 v7 h) := by
  unfold F_Ex_substitute_183
  refine z_go (fun Q hq => x_iconst (dA d_Ex_substitute 93 rfl) (x_goto (dA d_Ex_substitute 94 rfl) rfl hq)) ?_
  exact S_Ex_substitute_188 hd hX hG8 L rv1 ov2 rv3 rv4 rv7 (inR_lit (1 : Int) rfl)
noncomputable def F_Ex_substitute_134 (X : Int → Nat → Nat → Int → Int → MH → RS Nat) (G8 : Int → Nat → Int → Int → MH → RS Unit) (v1 : Int) (v2 : Nat) (v3 : Int) (v4 : Int) (v5 : Int64) (v7 : Int) (h : MH) : RS Unit := if v7 < 0 then bnd (F_To_isJoiner v5 h) fun x16 h14 => if x16 = 0 then F_Ex_substitute_227 X G8 v1 v2 v3 v4 v2 v5 h14 else F_Ex_substitute_227 X G8 v1 v2 v3 v4 v2 (v5 ||| (281474976710656 : Int64)) h14 else gd (inR (v4 - (1 : Int))) (bnd (F_Na_bodyAt v3 (v4 - (1 : Int)) h) fun x23 h21 => bnd (F_To_isJoiner x23 h21) fun x28 h26 => if x28 = 0 then gd (inR (v4 + (1 : Int))) (bnd (F_Na_bodyAt v3 (v4 + (1 : Int)) h26) fun x35 h33 => bnd (F_To_isJoiner x35 h33) fun x40 h38 => if x40 = 0 then F_Ex_substitute_188 X G8 v1 v2 v3 v4 v7 (0 : Int) h38 else F_Ex_substitute_183 X G8 v1 v2 v3 v4 v7 h38) else F_Ex_substitute_183 X G8 v1 v2 v3 v4 v7 h26)
theorem S_Ex_substitute_134 {d dX : Nat} (hd : dX + 7 ≤ d) {X : Int → Nat → Nat → Int → Int → MH → RS Nat} (hX : ∀ (a1 : Int) (a2 a2n : Nat) (a3 a4 : Int) (h : MH), LayC h → inR a1 → ArO h a2 103 a2n → inR a3 → inR a4 → OK dX k_Ex_expand 0 [mR 95, mI a1, mR a2, mI a3, mI a4, mN, mN] [] h cA pT (X a1 a2 a2n a3 a4 h)) {G8 : Int → Nat → Int → Int → MH → RS Unit} (hG8 : ∀ (v1 : Int) (v2 : Nat) (v3 : Int) (v4 : Int) (h : MH), LayC h → inR v1 → RoO h v2 → inR v3 → inR v4 → OK d k_Ex_substitute 8 [mR 95, mI v1, mR v2, mI v3, mI v4, mN, mN, mN, mN, mN] [] h cV pT (G8 v1 v2 v3 v4 h)) {v1 : Int} {v2 : Nat} {v3 : Int} {v4 : Int} {v5 : Int64} {v7 : Int} {h : MH} (L : LayC h) (rv1 : inR v1) (ov2 : RoO h v2) (rv3 : inR v3) (rv4 : inR v4) (rv7 : inR v7) : OK d k_Ex_substitute 134 [mR 95, mI v1, mR v2, mI v3, mI v4, mL v5, mN, mI v7, mN, mN] [] h cV pT (F_Ex_substitute_134 X G8 v1 v2 v3 v4 v5 v7 h) := by
  unfold F_Ex_substitute_134
  refine z_go (fun Q hq => x_iload (dA d_Ex_substitute 69 rfl) rfl hq) ?_
  refine z_br (fun Q => x_if_lt (dA d_Ex_substitute 70 rfl) rfl rv7) (fun c13 => ?_) (fun c13 => ?_)
  · refine z_go (fun Q hq => x_aload_n (dA d_Ex_substitute 104 rfl) rfl rfl (x_aload_n (dA d_Ex_substitute 105 rfl) rfl rfl (x_getR (dA d_Ex_substitute 106 rfl) f_Ex_17 (L.sh (x := (4, 4)) rfl) (by decide) (by decide) rfl (L.rf 101 rfl) (x_lload (dA d_Ex_substitute 107 rfl) rfl hq)))) ?_
    refine z_bnd (rest := [mR v2]) (st1 := fun v => mI v :: [mR v2]) (S_To_isJoiner (d := 6) (Nat.le_refl _) L ) (fun _ hx => absurd hx List.not_mem_nil) (fun _ => rfl) (fun Q' Q => x_callV (as := [mL v5]) (rest := [mR v2]) (k' := k_To_isJoiner) (dA d_Ex_substitute 108 rfl) o_To_isJoiner lk_Ex_139 im_To_isJoiner se_To_isJoiner rfl (L.sh (x := (11, 3)) rfl) (by decide) (Nat.le_of_ble_eq_true rfl) (by omega) (Nat.le_of_ble_eq_true rfl)) (fun x16 h14 e15 p17 => ?_)
    have L18 := L.ext e15
    refine z_br (fun Q => x_if_eq (dA d_Ex_substitute 109 rfl) rfl p17.inR) (fun c19 => ?_) (fun c19 => ?_)
    · refine z_go (fun Q hq => x_lload (dA d_Ex_substitute 114 rfl) rfl hq) ?_
      refine z_fgt (ls' := [mR 95, mI v1, mR v2, mI v3, mI v4, mN, mN, mN, mN, mN]) ⟨.inr rfl, .inr rfl, .inr rfl, .inr rfl, .inr rfl, .inl rfl, .inl rfl, .inl rfl, .inl rfl, .inl rfl, trivial⟩ ?_
      exact S_Ex_substitute_227 hd hX hG8 L18 rv1 (ov2.ext e15) rv3 rv4 (ov2.ext e15)
    · refine z_go (fun Q hq => x_lload (dA d_Ex_substitute 110 rfl) rfl (x_ldc2 (dA d_Ex_substitute 111 rfl) kl_Ex_147 (x_lor (dA d_Ex_substitute 112 rfl) (x_goto (dA d_Ex_substitute 113 rfl) rfl hq)))) ?_
      refine z_fgt (ls' := [mR 95, mI v1, mR v2, mI v3, mI v4, mN, mN, mN, mN, mN]) ⟨.inr rfl, .inr rfl, .inr rfl, .inr rfl, .inr rfl, .inl rfl, .inl rfl, .inl rfl, .inl rfl, .inl rfl, trivial⟩ ?_
      exact S_Ex_substitute_227 hd hX hG8 L18 rv1 (ov2.ext e15) rv3 rv4 (ov2.ext e15)
  · refine z_go (fun Q hq => x_aload_n (dA d_Ex_substitute 71 rfl) rfl rfl (x_getR (dA d_Ex_substitute 72 rfl) f_Ex_17 (L.sh (x := (4, 4)) rfl) (by decide) (by decide) rfl (L.rf 101 rfl) (x_aload_n (dA d_Ex_substitute 73 rfl) rfl rfl (x_getR (dA d_Ex_substitute 74 rfl) f_Ex_21 (L.sh (x := (4, 4)) rfl) (by decide) (by decide) rfl (L.rf 102 rfl) (x_iload_n (dA d_Ex_substitute 75 rfl) rfl rfl (x_iload (dA d_Ex_substitute 76 rfl) rfl (x_iconst (dA d_Ex_substitute 77 rfl) hq))))))) ?_
    refine z_gd (fun g20 => ?_)
    refine z_go (fun Q hq => x_isub (dA d_Ex_substitute 78 rfl) hq) ?_
    refine z_bnd (rest := [mR 87]) (st1 := fun v => mL v :: [mR 87]) (S_Na_bodyAt (d := 0) (Nat.le_refl _) L rv3 g20) (fun _ hx => absurd hx List.not_mem_nil) (fun _ => rfl) (fun Q' Q => x_callV (as := [mI v3, mI (v4 - (1 : Int))]) (rest := [mR 87]) (k' := k_Na_bodyAt) (dA d_Ex_substitute 79 rfl) o_Na_bodyAt lk_Ex_123 im_Na_bodyAt se_Na_bodyAt rfl (L.sh (x := (8, 5)) rfl) (by decide) (Nat.le_of_ble_eq_true rfl) (by omega) (Nat.le_of_ble_eq_true rfl)) (fun x23 h21 e22 p24 => ?_)
    have L25 := L.ext e22
    refine z_bnd (rest := []) (st1 := fun v => mI v :: []) (S_To_isJoiner (d := 6) (Nat.le_refl _) L25 ) (fun _ hx => absurd hx List.not_mem_nil) (fun _ => rfl) (fun Q' Q => x_callV (as := [mL x23]) (rest := []) (k' := k_To_isJoiner) (dA d_Ex_substitute 80 rfl) o_To_isJoiner lk_Ex_139 im_To_isJoiner se_To_isJoiner rfl (L25.sh (x := (11, 3)) rfl) (by decide) (Nat.le_of_ble_eq_true rfl) (by omega) (Nat.le_of_ble_eq_true rfl)) (fun x28 h26 e27 p29 => ?_)
    have L30 := L25.ext e27
    refine z_brn (fun Q => x_if_ne (dA d_Ex_substitute 81 rfl) rfl p29.inR) (fun c31 => ?_) (fun c31 => ?_)
    · refine z_go (fun Q hq => x_aload_n (dA d_Ex_substitute 82 rfl) rfl rfl (x_getR (dA d_Ex_substitute 83 rfl) f_Ex_17 (L30.sh (x := (4, 4)) rfl) (by decide) (by decide) rfl (L30.rf 101 rfl) (x_aload_n (dA d_Ex_substitute 84 rfl) rfl rfl (x_getR (dA d_Ex_substitute 85 rfl) f_Ex_21 (L30.sh (x := (4, 4)) rfl) (by decide) (by decide) rfl (L30.rf 102 rfl) (x_iload_n (dA d_Ex_substitute 86 rfl) rfl rfl (x_iload (dA d_Ex_substitute 87 rfl) rfl (x_iconst (dA d_Ex_substitute 88 rfl) hq))))))) ?_
      refine z_gd (fun g32 => ?_)
      refine z_go (fun Q hq => x_iadd (dA d_Ex_substitute 89 rfl) hq) ?_
      refine z_bnd (rest := [mR 87]) (st1 := fun v => mL v :: [mR 87]) (S_Na_bodyAt (d := 0) (Nat.le_refl _) L30 rv3 g32) (fun _ hx => absurd hx List.not_mem_nil) (fun _ => rfl) (fun Q' Q => x_callV (as := [mI v3, mI (v4 + (1 : Int))]) (rest := [mR 87]) (k' := k_Na_bodyAt) (dA d_Ex_substitute 90 rfl) o_Na_bodyAt lk_Ex_123 im_Na_bodyAt se_Na_bodyAt rfl (L30.sh (x := (8, 5)) rfl) (by decide) (Nat.le_of_ble_eq_true rfl) (by omega) (Nat.le_of_ble_eq_true rfl)) (fun x35 h33 e34 p36 => ?_)
      have L37 := L30.ext e34
      refine z_bnd (rest := []) (st1 := fun v => mI v :: []) (S_To_isJoiner (d := 6) (Nat.le_refl _) L37 ) (fun _ hx => absurd hx List.not_mem_nil) (fun _ => rfl) (fun Q' Q => x_callV (as := [mL x35]) (rest := []) (k' := k_To_isJoiner) (dA d_Ex_substitute 91 rfl) o_To_isJoiner lk_Ex_139 im_To_isJoiner se_To_isJoiner rfl (L37.sh (x := (11, 3)) rfl) (by decide) (Nat.le_of_ble_eq_true rfl) (by omega) (Nat.le_of_ble_eq_true rfl)) (fun x40 h38 e39 p41 => ?_)
      have L42 := L37.ext e39
      refine z_br (fun Q => x_if_eq (dA d_Ex_substitute 92 rfl) rfl p41.inR) (fun c43 => ?_) (fun c43 => ?_)
      · refine z_go (fun Q hq => x_iconst (dA d_Ex_substitute 95 rfl) hq) ?_
        refine z_fgt (ls' := [mR 95, mI v1, mR v2, mI v3, mI v4, mN, mN, mI v7, mN, mN]) ⟨.inr rfl, .inr rfl, .inr rfl, .inr rfl, .inr rfl, .inl rfl, .inl rfl, .inr rfl, .inl rfl, .inl rfl, trivial⟩ ?_
        exact S_Ex_substitute_188 hd hX hG8 L42 rv1 ((((ov2.ext e22).ext e27).ext e34).ext e39) rv3 rv4 rv7 (inR_lit (0 : Int) rfl)
      · refine z_fgt (ls' := [mR 95, mI v1, mR v2, mI v3, mI v4, mN, mN, mI v7, mN, mN]) ⟨.inr rfl, .inr rfl, .inr rfl, .inr rfl, .inr rfl, .inl rfl, .inl rfl, .inr rfl, .inl rfl, .inl rfl, trivial⟩ ?_
        exact S_Ex_substitute_183 hd hX hG8 L42 rv1 ((((ov2.ext e22).ext e27).ext e34).ext e39) rv3 rv4 rv7
    · refine z_fgt (ls' := [mR 95, mI v1, mR v2, mI v3, mI v4, mN, mN, mI v7, mN, mN]) ⟨.inr rfl, .inr rfl, .inr rfl, .inr rfl, .inr rfl, .inl rfl, .inl rfl, .inr rfl, .inl rfl, .inl rfl, trivial⟩ ?_
      exact S_Ex_substitute_183 hd hX hG8 L30 rv1 ((ov2.ext e22).ext e27) rv3 rv4 rv7
noncomputable def F_Ex_substitute_8_b (X : Int → Nat → Nat → Int → Int → MH → RS Nat) (G8 : Int → Nat → Int → Int → MH → RS Unit) (v1 : Int) (v2 : Nat) (v3 : Int) (v4 : Int) (h : MH) : RS Unit := gd (0 ≤ v3 ∧ v3 < 8) (if (mGi h 93 v3.toNat) ≤ v4 then some (.inl (), h) else bnd (F_Na_bodyAt v3 v4 h) fun x48 h46 => bnd (F_Na_parameterOf v3 x48 h46) fun x53 h51 => gd (inR (v4 + (1 : Int))) (bnd (F_Na_bodyAt v3 (v4 + (1 : Int)) h51) fun x59 h57 => bnd (F_Na_parameterOf v3 x59 h57) fun x64 h62 => if x64 < 0 then F_Ex_substitute_134 X G8 v1 v2 v3 v4 x48 x53 h62 else bnd (F_To_isSign x48 (35 : Int) h62) fun x70 h68 => if x70 = 0 then F_Ex_substitute_134 X G8 v1 v2 v3 v4 x48 x53 h68 else gd (0 ≤ x64 ∧ x64 < 4) (gd (inR ((mGi h68 (v2 + 4) x64.toNat) + (1 : Int))) (gd (inR (x64 + (1 : Int))) (gd (0 ≤ (x64 + (1 : Int)) ∧ (x64 + (1 : Int)) < 4) (bnd (F_To_stringOf (v2 + 1) 100 ((mGi h68 (v2 + 4) x64.toNat) + (1 : Int)) (mGi h68 (v2 + 4) (x64 + (1 : Int)).toNat) h68) fun x80 h78 => bnd (F_Ro_bring v2 x80 h78) fun x85 h83 => F_Ex_substitute_230 X G8 v1 v2 v3 (v4 + (1 : Int)) h83))))))
theorem S_Ex_substitute_8_b {d dX : Nat} (hd : dX + 7 ≤ d) {X : Int → Nat → Nat → Int → Int → MH → RS Nat} (hX : ∀ (a1 : Int) (a2 a2n : Nat) (a3 a4 : Int) (h : MH), LayC h → inR a1 → ArO h a2 103 a2n → inR a3 → inR a4 → OK dX k_Ex_expand 0 [mR 95, mI a1, mR a2, mI a3, mI a4, mN, mN] [] h cA pT (X a1 a2 a2n a3 a4 h)) {G8 : Int → Nat → Int → Int → MH → RS Unit} (hG8 : ∀ (v1 : Int) (v2 : Nat) (v3 : Int) (v4 : Int) (h : MH), LayC h → inR v1 → RoO h v2 → inR v3 → inR v4 → OK d k_Ex_substitute 8 [mR 95, mI v1, mR v2, mI v3, mI v4, mN, mN, mN, mN, mN] [] h cV pT (G8 v1 v2 v3 v4 h)) {v1 : Int} {v2 : Nat} {v3 : Int} {v4 : Int} {h : MH} (L : LayC h) (rv1 : inR v1) (ov2 : RoO h v2) (rv3 : inR v3) (rv4 : inR v4) : OK d k_Ex_substitute 8 [mR 95, mI v1, mR v2, mI v3, mI v4, mN, mN, mN, mN, mN] [] h cV pT (F_Ex_substitute_8_b X G8 v1 v2 v3 v4 h) := by
  unfold F_Ex_substitute_8_b
  refine z_go (fun Q hq => x_iload (dA d_Ex_substitute 5 rfl) rfl (x_aload_n (dA d_Ex_substitute 6 rfl) rfl rfl (x_getR (dA d_Ex_substitute 7 rfl) f_Ex_21 (L.sh (x := (4, 4)) rfl) (by decide) (by decide) rfl (L.rf 102 rfl) (x_getR (dA d_Ex_substitute 8 rfl) f_Ex_120 (L.sh (x := (8, 5)) rfl) (by decide) (by decide) rfl (L.rf 99 rfl) (x_iload_n (dA d_Ex_substitute 9 rfl) rfl rfl hq))))) ?_
  refine z_gd (fun g44 => ?_)
  refine z_go (fun Q hq => x_iald (dA d_Ex_substitute 10 rfl) (L.sh (x := (100, 8)) rfl) g44.1 g44.2 (by decide) hq) ?_
  refine z_br (fun Q => x_icmp_ge (dA d_Ex_substitute 11 rfl) rfl rv4 (L.rg _ _)) (fun c45 => ?_) (fun c45 => ?_)
  · exact z_retv (dA d_Ex_substitute 118 rfl) rfl
  · refine z_go (fun Q hq => x_aload_n (dA d_Ex_substitute 12 rfl) rfl rfl (x_getR (dA d_Ex_substitute 13 rfl) f_Ex_21 (L.sh (x := (4, 4)) rfl) (by decide) (by decide) rfl (L.rf 102 rfl) (x_iload_n (dA d_Ex_substitute 14 rfl) rfl rfl (x_iload (dA d_Ex_substitute 15 rfl) rfl hq)))) ?_
    refine z_bnd (rest := []) (st1 := fun v => mL v :: []) (S_Na_bodyAt (d := 0) (Nat.le_refl _) L rv3 rv4) (fun _ hx => absurd hx List.not_mem_nil) (fun _ => rfl) (fun Q' Q => x_callV (as := [mI v3, mI v4]) (rest := []) (k' := k_Na_bodyAt) (dA d_Ex_substitute 16 rfl) o_Na_bodyAt lk_Ex_123 im_Na_bodyAt se_Na_bodyAt rfl (L.sh (x := (8, 5)) rfl) (by decide) (Nat.le_of_ble_eq_true rfl) (by omega) (Nat.le_of_ble_eq_true rfl)) (fun x48 h46 e47 p49 => ?_)
    have L50 := L.ext e47
    refine z_go (fun Q hq => x_lstore (dA d_Ex_substitute 17 rfl) (by decide) rfl (x_aload_n (dA d_Ex_substitute 18 rfl) rfl rfl (x_getR (dA d_Ex_substitute 19 rfl) f_Ex_21 (L50.sh (x := (4, 4)) rfl) (by decide) (by decide) rfl (L50.rf 102 rfl) (x_aload_n (dA d_Ex_substitute 20 rfl) rfl rfl (x_getR (dA d_Ex_substitute 21 rfl) f_Ex_17 (L50.sh (x := (4, 4)) rfl) (by decide) (by decide) rfl (L50.rf 101 rfl) (x_iload_n (dA d_Ex_substitute 22 rfl) rfl rfl (x_lload (dA d_Ex_substitute 23 rfl) rfl hq))))))) ?_
    refine z_bnd (rest := []) (st1 := fun v => mI v :: []) (S_Na_parameterOf (d := 2) (Nat.le_refl _) L50 rv3) (fun _ hx => absurd hx List.not_mem_nil) (fun _ => rfl) (fun Q' Q => x_callV (as := [mR 87, mI v3, mL x48]) (rest := []) (k' := k_Na_parameterOf) (dA d_Ex_substitute 24 rfl) o_Na_parameterOf lk_Ex_127 im_Na_parameterOf se_Na_parameterOf rfl (L50.sh (x := (8, 5)) rfl) (by decide) (Nat.le_of_ble_eq_true rfl) (by omega) (Nat.le_of_ble_eq_true rfl)) (fun x53 h51 e52 p54 => ?_)
    have L55 := L50.ext e52
    refine z_go (fun Q hq => x_istore (dA d_Ex_substitute 25 rfl) (by decide) rfl (x_aload_n (dA d_Ex_substitute 26 rfl) rfl rfl (x_getR (dA d_Ex_substitute 27 rfl) f_Ex_21 (L55.sh (x := (4, 4)) rfl) (by decide) (by decide) rfl (L55.rf 102 rfl) (x_aload_n (dA d_Ex_substitute 28 rfl) rfl rfl (x_getR (dA d_Ex_substitute 29 rfl) f_Ex_17 (L55.sh (x := (4, 4)) rfl) (by decide) (by decide) rfl (L55.rf 101 rfl) (x_iload_n (dA d_Ex_substitute 30 rfl) rfl rfl (x_aload_n (dA d_Ex_substitute 31 rfl) rfl rfl (x_getR (dA d_Ex_substitute 32 rfl) f_Ex_21 (L55.sh (x := (4, 4)) rfl) (by decide) (by decide) rfl (L55.rf 102 rfl) (x_iload_n (dA d_Ex_substitute 33 rfl) rfl rfl (x_iload (dA d_Ex_substitute 34 rfl) rfl (x_iconst (dA d_Ex_substitute 35 rfl) hq))))))))))) ?_
    refine z_gd (fun g56 => ?_)
    refine z_go (fun Q hq => x_iadd (dA d_Ex_substitute 36 rfl) hq) ?_
    refine z_bnd (rest := [mI v3, mR 87, mR 89]) (st1 := fun v => mL v :: [mI v3, mR 87, mR 89]) (S_Na_bodyAt (d := 0) (Nat.le_refl _) L55 rv3 g56) (fun _ hx => absurd hx List.not_mem_nil) (fun _ => rfl) (fun Q' Q => x_callV (as := [mI v3, mI (v4 + (1 : Int))]) (rest := [mI v3, mR 87, mR 89]) (k' := k_Na_bodyAt) (dA d_Ex_substitute 37 rfl) o_Na_bodyAt lk_Ex_123 im_Na_bodyAt se_Na_bodyAt rfl (L55.sh (x := (8, 5)) rfl) (by decide) (Nat.le_of_ble_eq_true rfl) (by omega) (Nat.le_of_ble_eq_true rfl)) (fun x59 h57 e58 p60 => ?_)
    have L61 := L55.ext e58
    refine z_bnd (rest := []) (st1 := fun v => mI v :: []) (S_Na_parameterOf (d := 2) (Nat.le_refl _) L61 rv3) (fun _ hx => absurd hx List.not_mem_nil) (fun _ => rfl) (fun Q' Q => x_callV (as := [mR 87, mI v3, mL x59]) (rest := []) (k' := k_Na_parameterOf) (dA d_Ex_substitute 38 rfl) o_Na_parameterOf lk_Ex_127 im_Na_parameterOf se_Na_parameterOf rfl (L61.sh (x := (8, 5)) rfl) (by decide) (Nat.le_of_ble_eq_true rfl) (by omega) (Nat.le_of_ble_eq_true rfl)) (fun x64 h62 e63 p65 => ?_)
    have L66 := L61.ext e63
    refine z_go (fun Q hq => x_istore (dA d_Ex_substitute 39 rfl) (by decide) rfl (x_iload (dA d_Ex_substitute 40 rfl) rfl hq)) ?_
    refine z_br (fun Q => x_if_lt (dA d_Ex_substitute 41 rfl) rfl p65) (fun c67 => ?_) (fun c67 => ?_)
    · refine z_fgt (ls' := [mR 95, mI v1, mR v2, mI v3, mI v4, mL x48, mN, mI x53, mN, mN]) ⟨.inr rfl, .inr rfl, .inr rfl, .inr rfl, .inr rfl, .inr rfl, .inl rfl, .inr rfl, .inl rfl, .inl rfl, trivial⟩ ?_
      exact S_Ex_substitute_134 hd hX hG8 L66 rv1 ((((ov2.ext e47).ext e52).ext e58).ext e63) rv3 rv4 p54
    · refine z_go (fun Q hq => x_aload_n (dA d_Ex_substitute 42 rfl) rfl rfl (x_getR (dA d_Ex_substitute 43 rfl) f_Ex_17 (L66.sh (x := (4, 4)) rfl) (by decide) (by decide) rfl (L66.rf 101 rfl) (x_lload (dA d_Ex_substitute 44 rfl) rfl (x_bipush (dA d_Ex_substitute 45 rfl) (by decide) hq)))) ?_
      refine z_bnd (rest := []) (st1 := fun v => mI v :: []) (S_To_isSign (d := 1) (Nat.le_refl _) L66 (ch_lit (35 : Int) rfl)) (fun _ hx => absurd hx List.not_mem_nil) (fun _ => rfl) (fun Q' Q => x_callV (as := [mL x48, mI (35 : Int)]) (rest := []) (k' := k_To_isSign) (dA d_Ex_substitute 46 rfl) o_To_isSign lk_Ex_65 im_To_isSign se_To_isSign rfl (L66.sh (x := (11, 3)) rfl) (by decide) (Nat.le_of_ble_eq_true rfl) (by omega) (Nat.le_of_ble_eq_true rfl)) (fun x70 h68 e69 p71 => ?_)
      have L72 := L66.ext e69
      refine z_br (fun Q => x_if_eq (dA d_Ex_substitute 47 rfl) rfl p71.inR) (fun c73 => ?_) (fun c73 => ?_)
      · refine z_fgt (ls' := [mR 95, mI v1, mR v2, mI v3, mI v4, mL x48, mN, mI x53, mN, mN]) ⟨.inr rfl, .inr rfl, .inr rfl, .inr rfl, .inr rfl, .inr rfl, .inl rfl, .inr rfl, .inl rfl, .inl rfl, trivial⟩ ?_
        exact S_Ex_substitute_134 hd hX hG8 L72 rv1 (((((ov2.ext e47).ext e52).ext e58).ext e63).ext e69) rv3 rv4 p54
      · refine z_go (fun Q hq => x_aload_n (dA d_Ex_substitute 48 rfl) rfl rfl (x_aload_n (dA d_Ex_substitute 49 rfl) rfl rfl (x_getR (dA d_Ex_substitute 50 rfl) f_Ex_17 (L72.sh (x := (4, 4)) rfl) (by decide) (by decide) rfl (L72.rf 101 rfl) (x_aload_n (dA d_Ex_substitute 51 rfl) rfl rfl (x_getR (dA d_Ex_substitute 52 rfl) f_Ex_94 (((((ov2.ext e47).ext e52).ext e58).ext e63).ext e69).1 (by decide) (by decide) rfl (((((ov2.ext e47).ext e52).ext e58).ext e63).ext e69).2.1.1 (x_aload_n (dA d_Ex_substitute 53 rfl) rfl rfl (x_getR (dA d_Ex_substitute 54 rfl) f_Ex_88 (((((ov2.ext e47).ext e52).ext e58).ext e63).ext e69).1 (by decide) (by decide) rfl (((((ov2.ext e47).ext e52).ext e58).ext e63).ext e69).2.1.2.2.2 (x_iload (dA d_Ex_substitute 55 rfl) rfl hq)))))))) ?_
        refine z_gd (fun g74 => ?_)
        refine z_go (fun Q hq => x_iald (dA d_Ex_substitute 56 rfl) (show ArO _ _ _ _ from ⟨(((((ov2.ext e47).ext e52).ext e58).ext e63).ext e69).2.2.2.2.2, by decide⟩).1 g74.1 g74.2 (show ArO _ _ _ _ from ⟨(((((ov2.ext e47).ext e52).ext e58).ext e63).ext e69).2.2.2.2.2, by decide⟩).2 (x_iconst (dA d_Ex_substitute 57 rfl) hq)) ?_
        refine z_gd (fun g75 => ?_)
        refine z_go (fun Q hq => x_iadd (dA d_Ex_substitute 58 rfl) (x_aload_n (dA d_Ex_substitute 59 rfl) rfl rfl (x_getR (dA d_Ex_substitute 60 rfl) f_Ex_88 (((((ov2.ext e47).ext e52).ext e58).ext e63).ext e69).1 (by decide) (by decide) rfl (((((ov2.ext e47).ext e52).ext e58).ext e63).ext e69).2.1.2.2.2 (x_iload (dA d_Ex_substitute 61 rfl) rfl (x_iconst (dA d_Ex_substitute 62 rfl) hq))))) ?_
        refine z_gd (fun g76 => ?_)
        refine z_go (fun Q hq => x_iadd (dA d_Ex_substitute 63 rfl) hq) ?_
        refine z_gd (fun g77 => ?_)
        refine z_go (fun Q hq => x_iald (dA d_Ex_substitute 64 rfl) (show ArO _ _ _ _ from ⟨(((((ov2.ext e47).ext e52).ext e58).ext e63).ext e69).2.2.2.2.2, by decide⟩).1 g77.1 g77.2 (show ArO _ _ _ _ from ⟨(((((ov2.ext e47).ext e52).ext e58).ext e63).ext e69).2.2.2.2.2, by decide⟩).2 hq) ?_
        refine z_bnd (rest := [mR v2]) (st1 := fun v => mL v :: [mR v2]) (S_To_stringOf (d := 2) (Nat.le_refl _) L72 (show ArO _ _ _ _ from ⟨(((((ov2.ext e47).ext e52).ext e58).ext e63).ext e69).2.2.1, by decide⟩) g75 (L72.rg _ _)) (fun _ hx => absurd hx List.not_mem_nil) (fun _ => rfl) (fun Q' Q => x_callV (as := [mR (v2 + 1), mI ((mGi h68 (v2 + 4) x64.toNat) + (1 : Int)), mI (mGi h68 (v2 + 4) (x64 + (1 : Int)).toNat)]) (rest := [mR v2]) (k' := k_To_stringOf) (dA d_Ex_substitute 65 rfl) o_To_stringOf lk_Ex_131 im_To_stringOf se_To_stringOf rfl (L72.sh (x := (11, 3)) rfl) (by decide) (Nat.le_of_ble_eq_true rfl) (by omega) (Nat.le_of_ble_eq_true rfl)) (fun x80 h78 e79 p81 => ?_)
        have L82 := L72.ext e79
        refine z_bnd (rest := []) (st1 := fun _ => []) (S_Ro_bring (d := 0) (Nat.le_refl _) L82 ((((((ov2.ext e47).ext e52).ext e58).ext e63).ext e69).ext e79)) (fun _ hx => absurd hx List.not_mem_nil) (fun _ => rfl) (fun Q' Q => x_callV (as := [mL x80]) (rest := []) (k' := k_Ro_bring) (dA d_Ex_substitute 66 rfl) o_Ro_bring lk_Ex_135 im_Ro_bring se_Ro_bring rfl ((((((ov2.ext e47).ext e52).ext e58).ext e63).ext e69).ext e79).1 (by decide) (Nat.le_of_ble_eq_true rfl) (by omega) (Nat.le_of_ble_eq_true rfl)) (fun x85 h83 e84 p86 => ?_)
        have L87 := L82.ext e84
        refine z_go (fun Q hq => x_iinc (dA d_Ex_substitute 67 rfl) rfl (by decide) rfl (x_goto (dA d_Ex_substitute 68 rfl) rfl hq)) ?_
        refine z_fgt (ls' := [mR 95, mI v1, mR v2, mI v3, mI (v4 + (1 : Int)), mN, mN, mN, mN, mN]) ⟨.inr rfl, .inr rfl, .inr rfl, .inr rfl, .inr rfl, .inl rfl, .inl rfl, .inl rfl, .inl rfl, .inl rfl, trivial⟩ ?_
        exact S_Ex_substitute_230 hd hX hG8 L87 rv1 (((((((ov2.ext e47).ext e52).ext e58).ext e63).ext e69).ext e79).ext e84) rv3 g56
noncomputable def F_Ex_substitute_8 (X : Int → Nat → Nat → Int → Int → MH → RS Nat) (v1 : Int) (v2 : Nat) (v3 : Int) (v4 : Int) (h : MH) : RS Unit := itr (fun self (q : Int × Nat × Int × Int × MH) => F_Ex_substitute_8_b X (fun v1 v2 v3 v4 h => self (v1, v2, v3, v4, h)) q.1 q.2.1 q.2.2.1 q.2.2.2.1 q.2.2.2.2) FU (v1, v2, v3, v4, h)
theorem S_Ex_substitute_8 {d dX : Nat} (hd : dX + 7 ≤ d) {X : Int → Nat → Nat → Int → Int → MH → RS Nat} (hX : ∀ (a1 : Int) (a2 a2n : Nat) (a3 a4 : Int) (h : MH), LayC h → inR a1 → ArO h a2 103 a2n → inR a3 → inR a4 → OK dX k_Ex_expand 0 [mR 95, mI a1, mR a2, mI a3, mI a4, mN, mN] [] h cA pT (X a1 a2 a2n a3 a4 h)) {v1 : Int} {v2 : Nat} {v3 : Int} {v4 : Int} {h : MH} (L : LayC h) (rv1 : inR v1) (ov2 : RoO h v2) (rv3 : inR v3) (rv4 : inR v4) : OK d k_Ex_substitute 8 [mR 95, mI v1, mR v2, mI v3, mI v4, mN, mN, mN, mN, mN] [] h cV pT (F_Ex_substitute_8 X  v1 v2 v3 v4 h) := by
  unfold F_Ex_substitute_8
  refine z_itr (P := fun q : Int × Nat × Int × Int × MH => LayC q.2.2.2.2 ∧ inR q.1 ∧ RoO q.2.2.2.2 q.2.1 ∧ inR q.2.2.1 ∧ inR q.2.2.2.1 ∧ True) (ls := fun q : Int × Nat × Int × Int × MH => [mR 95, mI q.1, mR q.2.1, mI q.2.2.1, mI q.2.2.2.1, mN, mN, mN, mN, mN]) (hp := fun q : Int × Nat × Int × Int × MH => q.2.2.2.2) (fun self hs q hq => ?_) FU (v1, v2, v3, v4, h) ⟨L, rv1, ov2, rv3, rv4, trivial⟩
  exact S_Ex_substitute_8_b hd hX (fun v1 v2 v3 v4 h L rv1 ov2 rv3 rv4 => hs (v1, v2, v3, v4, h) ⟨L, rv1, ov2, rv3, rv4, trivial⟩) hq.1 hq.2.1 hq.2.2.1 hq.2.2.2.1 hq.2.2.2.2.1
noncomputable def F_Ex_substitute (X : Int → Nat → Nat → Int → Int → MH → RS Nat) (a1 : Int) (a2 : Nat) (a3 : Int) (h : MH) : RS Unit := sto (mPi h a2 5 (0 : Int)) fun h88 => F_Ex_substitute_8 X a1 a2 a3 (0 : Int) h88
theorem S_Ex_substitute {d dX : Nat} (hd : dX + 7 ≤ d) {X : Int → Nat → Nat → Int → Int → MH → RS Nat} (hX : ∀ (a1 : Int) (a2 a2n : Nat) (a3 a4 : Int) (h : MH), LayC h → inR a1 → ArO h a2 103 a2n → inR a3 → inR a4 → OK dX k_Ex_expand 0 [mR 95, mI a1, mR a2, mI a3, mI a4, mN, mN] [] h cA pT (X a1 a2 a2n a3 a4 h)) {a1 : Int} {a2 : Nat} {a3 : Int} {h : MH} (L : LayC h) (ra1 : inR a1) (oa2 : RoO h a2) (ra3 : inR a3) : OK d k_Ex_substitute 0 [mR 95, mI a1, mR a2, mI a3, mN, mN, mN, mN, mN, mN] [] h cV pT (F_Ex_substitute X  a1 a2 a3 h) := by
  unfold F_Ex_substitute
  refine z_go (fun Q hq => x_aload_n (dA d_Ex_substitute 0 rfl) rfl rfl (x_iconst (dA d_Ex_substitute 1 rfl) hq)) ?_
  refine z_sto (Ext.pi oa2.1 (by decide) (inR_lit (0 : Int) rfl)) (fun Q hq => x_putI (dA d_Ex_substitute 2 rfl) p_Ex_105 oa2.1 (by decide) cl_Ro rfl hq) (fun h88 e89 => ?_)
  have L90 := L.ext e89
  refine z_go (fun Q hq => x_iconst (dA d_Ex_substitute 3 rfl) (x_istore (dA d_Ex_substitute 4 rfl) (by decide) rfl hq)) ?_
  exact S_Ex_substitute_8 hd hX  L90 ra1 (oa2.ext e89) ra3 (inR_lit (0 : Int) rfl)
/-! TwoMills$Row.comeIn(I)Z -/
noncomputable def F_Ro_comeIn (r : Nat) (a1 : Int) (h : MH) : RS Int := gd (inR (a1 + (1 : Int))) (if (mGi h r 5) ≤ (a1 + (1 : Int)) then gd (inR ((a1 + (1 : Int)) - (mGi h r 5))) (sto (mPi h r 1 ((a1 + (1 : Int)) - (mGi h r 5))) fun h4 => gd (0 ≤ (0 : Int) ∧ 0 ≤ (mGi h4 r 1) ∧ 0 ≤ (mGi h4 r 5) ∧ (0 : Int) + (mGi h4 r 5) ≤ 1200 ∧ (mGi h4 r 1) + (mGi h4 r 5) ≤ 100) (sto (mCpL h4 (r + 3) (r + 1) (0 : Int).toNat (mGi h4 r 1).toNat (mGi h4 r 5).toNat) fun h8 => some (.inl (1 : Int), h8))) else some (.inl (0 : Int), h))
theorem S_Ro_comeIn {d : Nat} (hd : 0 ≤ d) {r : Nat} {a1 : Int} {h : MH} (L : LayC h) (or : RoO h r) (ra1 : inR a1) : OK d k_Ro_comeIn 0 [mR r, mI a1] [] h cI p01 (F_Ro_comeIn  r a1 h) := by
  unfold F_Ro_comeIn
  refine z_go (fun Q hq => x_aload_n (dA d_Ro_comeIn 0 rfl) rfl rfl (x_getI (dA d_Ro_comeIn 1 rfl) f_Ro_40 or.1 (by decide) (by decide) rfl (x_iload_n (dA d_Ro_comeIn 2 rfl) rfl rfl (x_iconst (dA d_Ro_comeIn 3 rfl) hq)))) ?_
  refine z_gd (fun g1 => ?_)
  refine z_go (fun Q hq => x_iadd (dA d_Ro_comeIn 4 rfl) hq) ?_
  refine z_br (fun Q => x_icmp_le (dA d_Ro_comeIn 5 rfl) rfl (L.rg _ _) g1) (fun c2 => ?_) (fun c2 => ?_)
  · refine z_go (fun Q hq => x_aload_n (dA d_Ro_comeIn 8 rfl) rfl rfl (x_iload_n (dA d_Ro_comeIn 9 rfl) rfl rfl (x_iconst (dA d_Ro_comeIn 10 rfl) (x_iadd (dA d_Ro_comeIn 11 rfl) (x_aload_n (dA d_Ro_comeIn 12 rfl) rfl rfl (x_getI (dA d_Ro_comeIn 13 rfl) f_Ro_40 or.1 (by decide) (by decide) rfl hq)))))) ?_
    refine z_gd (fun g3 => ?_)
    refine z_go (fun Q hq => x_isub (dA d_Ro_comeIn 14 rfl) hq) ?_
    refine z_sto (Ext.pi or.1 (by decide) g3) (fun Q hq => x_putI (dA d_Ro_comeIn 15 rfl) p_Ro_13 or.1 (by decide) cl_Ro rfl hq) (fun h4 e5 => ?_)
    have L6 := L.ext e5
    refine z_go (fun Q hq => x_aload_n (dA d_Ro_comeIn 16 rfl) rfl rfl (x_getR (dA d_Ro_comeIn 17 rfl) f_Ro_22 (or.ext e5).1 (by decide) (by decide) rfl (or.ext e5).2.1.2.2.1 (x_iconst (dA d_Ro_comeIn 18 rfl) (x_aload_n (dA d_Ro_comeIn 19 rfl) rfl rfl (x_getR (dA d_Ro_comeIn 20 rfl) f_Ro_9 (or.ext e5).1 (by decide) (by decide) rfl (or.ext e5).2.1.1 (x_aload_n (dA d_Ro_comeIn 21 rfl) rfl rfl (x_getI (dA d_Ro_comeIn 22 rfl) f_Ro_13 (or.ext e5).1 (by decide) (by decide) rfl (x_aload_n (dA d_Ro_comeIn 23 rfl) rfl rfl (x_getI (dA d_Ro_comeIn 24 rfl) f_Ro_40 (or.ext e5).1 (by decide) (by decide) rfl hq))))))))) ?_
    refine z_gd (fun g7 => ?_)
    refine z_sto Ext.cpL (fun Q hq => x_copyJI (dA d_Ro_comeIn 25 rfl) lk_Ro_29 (show ArO _ _ _ _ from ⟨(or.ext e5).2.2.2.2.1, by decide⟩).1 (show ArO _ _ _ _ from ⟨(or.ext e5).2.2.1, by decide⟩).1 g7 (show ArO _ _ _ _ from ⟨(or.ext e5).2.2.2.2.1, by decide⟩).2 (show ArO _ _ _ _ from ⟨(or.ext e5).2.2.1, by decide⟩).2 (Nat.le_of_ble_eq_true rfl) hq) (fun h8 e9 => ?_)
    have L10 := L6.ext e9
    refine z_go (fun Q hq => x_iconst (dA d_Ro_comeIn 26 rfl) hq) ?_
    exact z_retz (dA d_Ro_comeIn 27 rfl) rfl (.inr rfl)
  · refine z_go (fun Q hq => x_iconst (dA d_Ro_comeIn 6 rfl) hq) ?_
    exact z_retz (dA d_Ro_comeIn 7 rfl) rfl (.inl rfl)
/-! TwoMills$Tokens.hides(J)I -/
noncomputable def F_To_hides (a1 : Int64) (h : MH) : RS Int := some (.inl (((a1 >>> ((Int32.ofInt (40 : Int)).toInt64 &&& 63)) &&& (255 : Int64)).toInt32.toInt), h)
theorem S_To_hides {d : Nat} (hd : 0 ≤ d) {a1 : Int64} {h : MH} (L : LayC h) : OK d k_To_hides 0 [mL a1, mN] [] h cI inR (F_To_hides  a1 h) := by
  unfold F_To_hides
  refine z_go (fun Q hq => x_lload_n (dA d_To_hides 0 rfl) rfl rfl (x_bipush (dA d_To_hides 1 rfl) (by decide) (x_lshr (dA d_To_hides 2 rfl) (x_ldc2 (dA d_To_hides 3 rfl) kl_To_39 (x_land (dA d_To_hides 4 rfl) (x_l2i (dA d_To_hides 5 rfl) hq)))))) ?_
  exact z_reti (dA d_To_hides 6 rfl) rfl (inR_32 _)
/-! TwoMills$Tokens.joinAll([JI)I -/
noncomputable def F_To_joinAll_192 (G5 : Nat → Nat → Int → Int → Int → MH → RS Int) (v1 : Nat) (v1n : Nat) (v2 : Int) (v3 : Int) (v4 : Int) (v5 : Int64) (h : MH) : RS Int := gd (0 ≤ v3 ∧ v3 < v1n) (sto (mPl h v1 v3.toNat v5) fun h2 => gd (inR (v3 + (1 : Int))) (gd (inR (v4 + (1 : Int))) (G5 v1 v1n v2 (v3 + (1 : Int)) (v4 + (1 : Int)) h2)))
theorem S_To_joinAll_192 {d : Nat} (hd : 2 ≤ d) {G5 : Nat → Nat → Int → Int → Int → MH → RS Int} (hG5 : ∀ (v1 : Nat) (v1n : Nat) (v2 : Int) (v3 : Int) (v4 : Int) (h : MH), LayC h → ArO h v1 103 v1n → inR v2 → inR v3 → inR v4 → OK d k_To_joinAll 5 [mR 87, mR v1, mI v2, mI v3, mI v4, mN, mN, mN, mN, mN, mN, mN, mN] [] h cI inR (G5 v1 v1n v2 v3 v4 h)) {v1 : Nat} {v1n : Nat} {v2 : Int} {v3 : Int} {v4 : Int} {v5 : Int64} {h : MH} (L : LayC h) (ov1 : ArO h v1 103 v1n) (rv2 : inR v2) (rv3 : inR v3) (rv4 : inR v4) : OK d k_To_joinAll 192 [mR 87, mR v1, mI v2, mI v3, mI v4, mL v5, mN, mN, mN, mN, mN, mN, mN] [] h cI inR (F_To_joinAll_192 G5 v1 v1n v2 v3 v4 v5 h) := by
  unfold F_To_joinAll_192
  refine z_go (fun Q hq => x_aload_n (dA d_To_joinAll 103 rfl) rfl rfl (x_iload_n (dA d_To_joinAll 104 rfl) rfl rfl (x_lload (dA d_To_joinAll 105 rfl) rfl hq))) ?_
  refine z_gd (fun g1 => ?_)
  refine z_sto Ext.pl (fun Q hq => x_last (dA d_To_joinAll 106 rfl) ov1.1 g1.1 g1.2 ov1.2 hq) (fun h2 e3 => ?_)
  have L4 := L.ext e3
  refine z_gd (fun g5 => ?_)
  refine z_go (fun Q hq => x_iinc (dA d_To_joinAll 107 rfl) rfl (by decide) rfl hq) ?_
  refine z_gd (fun g6 => ?_)
  refine z_go (fun Q hq => x_iinc (dA d_To_joinAll 108 rfl) rfl (by decide) rfl (x_goto (dA d_To_joinAll 109 rfl) rfl hq)) ?_
  refine z_fgt (ls' := [mR 87, mR v1, mI v2, mI (v3 + (1 : Int)), mI (v4 + (1 : Int)), mN, mN, mN, mN, mN, mN, mN, mN]) ⟨.inr rfl, .inr rfl, .inr rfl, .inr rfl, .inr rfl, .inl rfl, .inl rfl, .inl rfl, .inl rfl, .inl rfl, .inl rfl, .inl rfl, .inl rfl, trivial⟩ ?_
  exact hG5 v1 v1n v2 (v3 + (1 : Int)) (v4 + (1 : Int)) h2 L4 (ov1.ext e3) rv2 g5 g6
noncomputable def F_To_joinAll_163 (G5 : Nat → Nat → Int → Int → Int → MH → RS Int) (v1 : Nat) (v1n : Nat) (v2 : Int) (v3 : Int) (v4 : Int) (v5 : Int64) (v7 : Int64) (v9 : Int64) (h : MH) : RS Int := bnd (F_To_hides v7 h) fun x9 h7 => bnd (F_To_hides v9 h7) fun x14 h12 => bnd (F_To_hiding v5 (iAnd x9 x14) h12) fun x19 h17 => gd (inR (v3 - (1 : Int))) (gd (inR (v4 + (1 : Int))) (F_To_joinAll_192 G5 v1 v1n v2 (if (0 : Int) < (v3 - (1 : Int)) then (v3 - (1 : Int)) else (0 : Int)) (v4 + (1 : Int)) x19 h17))
theorem S_To_joinAll_163 {d : Nat} (hd : 2 ≤ d) {G5 : Nat → Nat → Int → Int → Int → MH → RS Int} (hG5 : ∀ (v1 : Nat) (v1n : Nat) (v2 : Int) (v3 : Int) (v4 : Int) (h : MH), LayC h → ArO h v1 103 v1n → inR v2 → inR v3 → inR v4 → OK d k_To_joinAll 5 [mR 87, mR v1, mI v2, mI v3, mI v4, mN, mN, mN, mN, mN, mN, mN, mN] [] h cI inR (G5 v1 v1n v2 v3 v4 h)) {v1 : Nat} {v1n : Nat} {v2 : Int} {v3 : Int} {v4 : Int} {v5 : Int64} {v7 : Int64} {v9 : Int64} {h : MH} (L : LayC h) (ov1 : ArO h v1 103 v1n) (rv2 : inR v2) (rv3 : inR v3) (rv4 : inR v4) : OK d k_To_joinAll 163 [mR 87, mR v1, mI v2, mI v3, mI v4, mL v5, mN, mL v7, mN, mL v9, mN, mN, mN] [] h cI inR (F_To_joinAll_163 G5 v1 v1n v2 v3 v4 v5 v7 v9 h) := by
  unfold F_To_joinAll_163
  refine z_go (fun Q hq => x_lload (dA d_To_joinAll 88 rfl) rfl (x_lload (dA d_To_joinAll 89 rfl) rfl hq)) ?_
  refine z_bnd (rest := [mL v5]) (st1 := fun v => mI v :: [mL v5]) (S_To_hides (d := 0) (Nat.le_refl _) L ) (fun _ hx => absurd hx List.not_mem_nil) (fun _ => rfl) (fun Q' Q => x_callS (as := [mL v7]) (rest := [mL v5]) (k' := k_To_hides) (dA d_To_joinAll 90 rfl) o_To_hides lk_To_102 st_To_hides (Nat.le_of_ble_eq_true rfl) (Nat.le_trans (Nat.le_of_ble_eq_true rfl) hd) (Nat.le_of_ble_eq_true rfl)) (fun x9 h7 e8 p10 => ?_)
  have L11 := L.ext e8
  refine z_go (fun Q hq => x_lload (dA d_To_joinAll 91 rfl) rfl hq) ?_
  refine z_bnd (rest := [mI x9, mL v5]) (st1 := fun v => mI v :: [mI x9, mL v5]) (S_To_hides (d := 0) (Nat.le_refl _) L11 ) (fun _ hx => absurd hx List.not_mem_nil) (fun _ => rfl) (fun Q' Q => x_callS (as := [mL v9]) (rest := [mI x9, mL v5]) (k' := k_To_hides) (dA d_To_joinAll 92 rfl) o_To_hides lk_To_102 st_To_hides (Nat.le_of_ble_eq_true rfl) (Nat.le_trans (Nat.le_of_ble_eq_true rfl) hd) (Nat.le_of_ble_eq_true rfl)) (fun x14 h12 e13 p15 => ?_)
  have L16 := L11.ext e13
  refine z_go (fun Q hq => x_andI (dA d_To_joinAll 93 rfl) hq) ?_
  refine z_bnd (rest := []) (st1 := fun v => mL v :: []) (S_To_hiding (d := 0) (Nat.le_refl _) L16 (inR_and _ _)) (fun _ hx => absurd hx List.not_mem_nil) (fun _ => rfl) (fun Q' Q => x_callS (as := [mL v5, mI (iAnd x9 x14)]) (rest := []) (k' := k_To_hiding) (dA d_To_joinAll 94 rfl) o_To_hiding lk_To_105 st_To_hiding (Nat.le_of_ble_eq_true rfl) (Nat.le_trans (Nat.le_of_ble_eq_true rfl) hd) (Nat.le_of_ble_eq_true rfl)) (fun x19 h17 e18 p20 => ?_)
  have L21 := L16.ext e18
  refine z_go (fun Q hq => x_lstore (dA d_To_joinAll 95 rfl) (by decide) rfl (x_iconst (dA d_To_joinAll 96 rfl) (x_iload_n (dA d_To_joinAll 97 rfl) rfl rfl (x_iconst (dA d_To_joinAll 98 rfl) hq)))) ?_
  refine z_gd (fun g22 => ?_)
  refine z_go (fun Q hq => x_isub (dA d_To_joinAll 99 rfl) (x_max (dA d_To_joinAll 100 rfl) lk_To_79 mm_max_st mm_iz mm_max_co (inR_lit (0 : Int) rfl) g22 (Nat.le_of_ble_eq_true rfl) (x_istore_n (dA d_To_joinAll 101 rfl) rfl (by decide) rfl hq))) ?_
  refine z_gd (fun g23 => ?_)
  refine z_go (fun Q hq => x_iinc (dA d_To_joinAll 102 rfl) rfl (by decide) rfl hq) ?_
  refine z_fgt (ls' := [mR 87, mR v1, mI v2, mI (if (0 : Int) < (v3 - (1 : Int)) then (v3 - (1 : Int)) else (0 : Int)), mI (v4 + (1 : Int)), mL x19, mN, mN, mN, mN, mN, mN, mN]) ⟨.inr rfl, .inr rfl, .inr rfl, .inr rfl, .inr rfl, .inr rfl, .inl rfl, .inl rfl, .inl rfl, .inl rfl, .inl rfl, .inl rfl, .inl rfl, trivial⟩ ?_
  exact S_To_joinAll_192 hd hG5 L21 (((ov1.ext e8).ext e13).ext e18) rv2 (inR_mx (inR_lit (0 : Int) rfl) g22) g23
noncomputable def F_To_joinAll_157 (G5 : Nat → Nat → Int → Int → Int → MH → RS Int) (v1 : Nat) (v1n : Nat) (v2 : Int) (v3 : Int) (v4 : Int) (v5 : Int64) (v7 : Int64) (v9 : Int64) (h : MH) : RS Int := bnd (F_To_fail (7 : Int) h) fun x26 h24 => F_To_joinAll_163 G5 v1 v1n v2 v3 v4 v5 v7 v9 h24
theorem S_To_joinAll_157 {d : Nat} (hd : 2 ≤ d) {G5 : Nat → Nat → Int → Int → Int → MH → RS Int} (hG5 : ∀ (v1 : Nat) (v1n : Nat) (v2 : Int) (v3 : Int) (v4 : Int) (h : MH), LayC h → ArO h v1 103 v1n → inR v2 → inR v3 → inR v4 → OK d k_To_joinAll 5 [mR 87, mR v1, mI v2, mI v3, mI v4, mN, mN, mN, mN, mN, mN, mN, mN] [] h cI inR (G5 v1 v1n v2 v3 v4 h)) {v1 : Nat} {v1n : Nat} {v2 : Int} {v3 : Int} {v4 : Int} {v5 : Int64} {v7 : Int64} {v9 : Int64} {h : MH} (L : LayC h) (ov1 : ArO h v1 103 v1n) (rv2 : inR v2) (rv3 : inR v3) (rv4 : inR v4) : OK d k_To_joinAll 157 [mR 87, mR v1, mI v2, mI v3, mI v4, mL v5, mN, mL v7, mN, mL v9, mN, mN, mN] [] h cI inR (F_To_joinAll_157 G5 v1 v1n v2 v3 v4 v5 v7 v9 h) := by
  unfold F_To_joinAll_157
  refine z_go (fun Q hq => x_aload_n (dA d_To_joinAll 85 rfl) rfl rfl (x_bipush (dA d_To_joinAll 86 rfl) (by decide) hq)) ?_
  refine z_bnd (rest := []) (st1 := fun _ => []) (S_To_fail (d := 0) (Nat.le_refl _) L (inR_lit (7 : Int) rfl)) (fun _ hx => absurd hx List.not_mem_nil) (fun _ => rfl) (fun Q' Q => x_callV (as := [mI (7 : Int)]) (rest := []) (k' := k_To_fail) (dA d_To_joinAll 87 rfl) o_To_fail lk_To_85 im_To_fail se_To_fail rfl (L.sh (x := (11, 3)) rfl) (by decide) (Nat.le_of_ble_eq_true rfl) (Nat.le_trans (Nat.le_of_ble_eq_true rfl) hd) (Nat.le_of_ble_eq_true rfl)) (fun x26 h24 e25 p27 => ?_)
  have L28 := L.ext e25
  exact S_To_joinAll_163 hd hG5 L28 (ov1.ext e25) rv2 rv3 rv4
noncomputable def F_To_joinAll_136 (G5 : Nat → Nat → Int → Int → Int → MH → RS Int) (v1 : Nat) (v1n : Nat) (v2 : Int) (v3 : Int) (v4 : Int) (v7 : Int64) (v9 : Int64) (v11 : Int) (s0 : Int64) (h : MH) : RS Int := bnd (F_To_length s0 h) fun x31 h29 => if x31 = v11 then bnd (F_To_kind s0 h29) fun x37 h35 => if x37 = (3 : Int) then F_To_joinAll_157 G5 v1 v1n v2 v3 v4 s0 v7 v9 h35 else F_To_joinAll_163 G5 v1 v1n v2 v3 v4 s0 v7 v9 h35 else F_To_joinAll_157 G5 v1 v1n v2 v3 v4 s0 v7 v9 h29
theorem S_To_joinAll_136 {d : Nat} (hd : 2 ≤ d) {G5 : Nat → Nat → Int → Int → Int → MH → RS Int} (hG5 : ∀ (v1 : Nat) (v1n : Nat) (v2 : Int) (v3 : Int) (v4 : Int) (h : MH), LayC h → ArO h v1 103 v1n → inR v2 → inR v3 → inR v4 → OK d k_To_joinAll 5 [mR 87, mR v1, mI v2, mI v3, mI v4, mN, mN, mN, mN, mN, mN, mN, mN] [] h cI inR (G5 v1 v1n v2 v3 v4 h)) {v1 : Nat} {v1n : Nat} {v2 : Int} {v3 : Int} {v4 : Int} {v7 : Int64} {v9 : Int64} {v11 : Int} {s0 : Int64} {h : MH} (L : LayC h) (ov1 : ArO h v1 103 v1n) (rv2 : inR v2) (rv3 : inR v3) (rv4 : inR v4) (rv11 : inR v11) : OK d k_To_joinAll 136 [mR 87, mR v1, mI v2, mI v3, mI v4, mN, mN, mL v7, mN, mL v9, mN, mI v11, mN] [mL s0] h cI inR (F_To_joinAll_136 G5 v1 v1n v2 v3 v4 v7 v9 v11 s0 h) := by
  unfold F_To_joinAll_136
  refine z_go (fun Q hq => x_lstore (dA d_To_joinAll 76 rfl) (by decide) rfl (x_lload (dA d_To_joinAll 77 rfl) rfl hq)) ?_
  refine z_bnd (rest := []) (st1 := fun v => mI v :: []) (S_To_length (d := 0) (Nat.le_refl _) L ) (fun _ hx => absurd hx List.not_mem_nil) (fun _ => rfl) (fun Q' Q => x_callS (as := [mL s0]) (rest := []) (k' := k_To_length) (dA d_To_joinAll 78 rfl) o_To_length lk_To_56 st_To_length (Nat.le_of_ble_eq_true rfl) (Nat.le_trans (Nat.le_of_ble_eq_true rfl) hd) (Nat.le_of_ble_eq_true rfl)) (fun x31 h29 e30 p32 => ?_)
  have L33 := L.ext e30
  refine z_go (fun Q hq => x_iload (dA d_To_joinAll 79 rfl) rfl hq) ?_
  refine z_brn (fun Q => x_icmp_ne (dA d_To_joinAll 80 rfl) rfl p32 rv11) (fun c34 => ?_) (fun c34 => ?_)
  · refine z_go (fun Q hq => x_lload (dA d_To_joinAll 81 rfl) rfl hq) ?_
    refine z_bnd (rest := []) (st1 := fun v => mI v :: []) (S_To_kind (d := 0) (Nat.le_refl _) L33 ) (fun _ hx => absurd hx List.not_mem_nil) (fun _ => rfl) (fun Q' Q => x_callS (as := [mL s0]) (rest := []) (k' := k_To_kind) (dA d_To_joinAll 82 rfl) o_To_kind lk_To_70 st_To_kind (Nat.le_of_ble_eq_true rfl) (Nat.le_trans (Nat.le_of_ble_eq_true rfl) hd) (Nat.le_of_ble_eq_true rfl)) (fun x37 h35 e36 p38 => ?_)
    have L39 := L33.ext e36
    refine z_go (fun Q hq => x_iconst (dA d_To_joinAll 83 rfl) hq) ?_
    refine z_brn (fun Q => x_icmp_ne (dA d_To_joinAll 84 rfl) rfl p38 (inR_lit (3 : Int) rfl)) (fun c40 => ?_) (fun c40 => ?_)
    · refine z_fgt (ls' := [mR 87, mR v1, mI v2, mI v3, mI v4, mL s0, mN, mL v7, mN, mL v9, mN, mN, mN]) ⟨.inr rfl, .inr rfl, .inr rfl, .inr rfl, .inr rfl, .inr rfl, .inl rfl, .inr rfl, .inl rfl, .inr rfl, .inl rfl, .inl rfl, .inl rfl, trivial⟩ ?_
      exact S_To_joinAll_157 hd hG5 L39 ((ov1.ext e30).ext e36) rv2 rv3 rv4
    · refine z_fgt (ls' := [mR 87, mR v1, mI v2, mI v3, mI v4, mL s0, mN, mL v7, mN, mL v9, mN, mN, mN]) ⟨.inr rfl, .inr rfl, .inr rfl, .inr rfl, .inr rfl, .inr rfl, .inl rfl, .inr rfl, .inl rfl, .inr rfl, .inl rfl, .inl rfl, .inl rfl, trivial⟩ ?_
      exact S_To_joinAll_163 hd hG5 L39 ((ov1.ext e30).ext e36) rv2 rv3 rv4
  · refine z_fgt (ls' := [mR 87, mR v1, mI v2, mI v3, mI v4, mL s0, mN, mL v7, mN, mL v9, mN, mN, mN]) ⟨.inr rfl, .inr rfl, .inr rfl, .inr rfl, .inr rfl, .inr rfl, .inl rfl, .inr rfl, .inl rfl, .inr rfl, .inl rfl, .inl rfl, .inl rfl, trivial⟩ ?_
    exact S_To_joinAll_157 hd hG5 L33 (ov1.ext e30) rv2 rv3 rv4
noncomputable def F_To_joinAll_94 (G5 : Nat → Nat → Int → Int → Int → MH → RS Int) (v1 : Nat) (v1n : Nat) (v2 : Int) (v3 : Int) (v4 : Int) (v7 : Int64) (v9 : Int64) (v11 : Int) (h : MH) : RS Int := gd (inR ((402 : Int) + (mGi h 87 1))) (bnd (F_To_append_J v7 h) fun x44 h42 => bnd (F_To_append_J v9 h42) fun x49 h47 => if v11 = 0 then F_To_joinAll_136 G5 v1 v1n v2 v3 v4 v7 v9 v11 (0 : Int64) h47 else gd (inR (((402 : Int) + (mGi h 87 1)) + v11)) (bnd (F_To_scan ((402 : Int) + (mGi h 87 1)) (((402 : Int) + (mGi h 87 1)) + v11) h47) fun x56 h54 => F_To_joinAll_136 G5 v1 v1n v2 v3 v4 v7 v9 v11 x56 h54))
theorem S_To_joinAll_94 {d : Nat} (hd : 2 ≤ d) {G5 : Nat → Nat → Int → Int → Int → MH → RS Int} (hG5 : ∀ (v1 : Nat) (v1n : Nat) (v2 : Int) (v3 : Int) (v4 : Int) (h : MH), LayC h → ArO h v1 103 v1n → inR v2 → inR v3 → inR v4 → OK d k_To_joinAll 5 [mR 87, mR v1, mI v2, mI v3, mI v4, mN, mN, mN, mN, mN, mN, mN, mN] [] h cI inR (G5 v1 v1n v2 v3 v4 h)) {v1 : Nat} {v1n : Nat} {v2 : Int} {v3 : Int} {v4 : Int} {v7 : Int64} {v9 : Int64} {v11 : Int} {h : MH} (L : LayC h) (ov1 : ArO h v1 103 v1n) (rv2 : inR v2) (rv3 : inR v3) (rv4 : inR v4) (rv11 : inR v11) : OK d k_To_joinAll 94 [mR 87, mR v1, mI v2, mI v3, mI v4, mN, mN, mL v7, mN, mL v9, mN, mI v11, mN] [] h cI inR (F_To_joinAll_94 G5 v1 v1n v2 v3 v4 v7 v9 v11 h) := by
  unfold F_To_joinAll_94
  refine z_go (fun Q hq => x_sipush (dA d_To_joinAll 55 rfl) (by decide) (x_aload_n (dA d_To_joinAll 56 rfl) rfl rfl (x_getI (dA d_To_joinAll 57 rfl) f_To_28 (L.sh (x := (11, 3)) rfl) (by decide) (by decide) rfl hq))) ?_
  refine z_gd (fun g41 => ?_)
  refine z_go (fun Q hq => x_iadd (dA d_To_joinAll 58 rfl) (x_istore (dA d_To_joinAll 59 rfl) (by decide) rfl (x_aload_n (dA d_To_joinAll 60 rfl) rfl rfl (x_lload (dA d_To_joinAll 61 rfl) rfl hq)))) ?_
  refine z_bnd (rest := []) (st1 := fun _ => []) (S_To_append_J (d := 1) (Nat.le_refl _) L ) (fun _ hx => absurd hx List.not_mem_nil) (fun _ => rfl) (fun Q' Q => x_callV (as := [mL v7]) (rest := []) (k' := k_To_append_J) (dA d_To_joinAll 62 rfl) o_To_append_J lk_To_93 im_To_append_J se_To_append_J rfl (L.sh (x := (11, 3)) rfl) (by decide) (Nat.le_of_ble_eq_true rfl) (Nat.le_trans (Nat.le_of_ble_eq_true rfl) hd) (Nat.le_of_ble_eq_true rfl)) (fun x44 h42 e43 p45 => ?_)
  have L46 := L.ext e43
  refine z_go (fun Q hq => x_aload_n (dA d_To_joinAll 63 rfl) rfl rfl (x_lload (dA d_To_joinAll 64 rfl) rfl hq)) ?_
  refine z_bnd (rest := []) (st1 := fun _ => []) (S_To_append_J (d := 1) (Nat.le_refl _) L46 ) (fun _ hx => absurd hx List.not_mem_nil) (fun _ => rfl) (fun Q' Q => x_callV (as := [mL v9]) (rest := []) (k' := k_To_append_J) (dA d_To_joinAll 65 rfl) o_To_append_J lk_To_93 im_To_append_J se_To_append_J rfl (L46.sh (x := (11, 3)) rfl) (by decide) (Nat.le_of_ble_eq_true rfl) (Nat.le_trans (Nat.le_of_ble_eq_true rfl) hd) (Nat.le_of_ble_eq_true rfl)) (fun x49 h47 e48 p50 => ?_)
  have L51 := L46.ext e48
  refine z_go (fun Q hq => x_iload (dA d_To_joinAll 66 rfl) rfl hq) ?_
  refine z_brn (fun Q => x_if_ne (dA d_To_joinAll 67 rfl) rfl rv11) (fun c52 => ?_) (fun c52 => ?_)
  · refine z_go (fun Q hq => x_lconst (v := 0) (dA d_To_joinAll 68 rfl) rfl (x_goto (dA d_To_joinAll 69 rfl) rfl hq)) ?_
    refine z_fgt (ls' := [mR 87, mR v1, mI v2, mI v3, mI v4, mN, mN, mL v7, mN, mL v9, mN, mI v11, mN]) ⟨.inr rfl, .inr rfl, .inr rfl, .inr rfl, .inr rfl, .inl rfl, .inl rfl, .inr rfl, .inl rfl, .inr rfl, .inl rfl, .inr rfl, .inl rfl, trivial⟩ ?_
    exact S_To_joinAll_136 hd hG5 L51 ((ov1.ext e43).ext e48) rv2 rv3 rv4 rv11
  · refine z_go (fun Q hq => x_aload_n (dA d_To_joinAll 70 rfl) rfl rfl (x_iload (dA d_To_joinAll 71 rfl) rfl (x_iload (dA d_To_joinAll 72 rfl) rfl (x_iload (dA d_To_joinAll 73 rfl) rfl hq)))) ?_
    refine z_gd (fun g53 => ?_)
    refine z_go (fun Q hq => x_iadd (dA d_To_joinAll 74 rfl) hq) ?_
    refine z_bnd (rest := []) (st1 := fun v => mL v :: []) (S_To_scan (d := 1) (Nat.le_refl _) L51 g41 g53) (fun _ hx => absurd hx List.not_mem_nil) (fun _ => rfl) (fun Q' Q => x_callV (as := [mI ((402 : Int) + (mGi h 87 1)), mI (((402 : Int) + (mGi h 87 1)) + v11)]) (rest := []) (k' := k_To_scan) (dA d_To_joinAll 75 rfl) o_To_scan lk_To_98 im_To_scan se_To_scan rfl (L51.sh (x := (11, 3)) rfl) (by decide) (Nat.le_of_ble_eq_true rfl) (Nat.le_trans (Nat.le_of_ble_eq_true rfl) hd) (Nat.le_of_ble_eq_true rfl)) (fun x56 h54 e55 p57 => ?_)
    have L58 := L51.ext e55
    refine z_fgt (ls' := [mR 87, mR v1, mI v2, mI v3, mI v4, mN, mN, mL v7, mN, mL v9, mN, mI v11, mN]) ⟨.inr rfl, .inr rfl, .inr rfl, .inr rfl, .inr rfl, .inl rfl, .inl rfl, .inr rfl, .inl rfl, .inr rfl, .inl rfl, .inr rfl, .inl rfl, trivial⟩ ?_
    exact S_To_joinAll_136 hd hG5 L58 (((ov1.ext e43).ext e48).ext e55) rv2 rv3 rv4 rv11
noncomputable def F_To_joinAll_61 (G5 : Nat → Nat → Int → Int → Int → MH → RS Int) (v1 : Nat) (v1n : Nat) (v2 : Int) (v3 : Int) (v4 : Int) (v7 : Int64) (s0 : Int64) (h : MH) : RS Int := bnd (F_To_length v7 h) fun x61 h59 => bnd (F_To_length s0 h59) fun x66 h64 => gd (inR (x61 + x66)) (gd (inR ((900 : Int) - (mGi h64 87 1))) (if (x61 + x66) ≤ ((900 : Int) - (mGi h64 87 1)) then F_To_joinAll_94 G5 v1 v1n v2 v3 v4 v7 s0 (x61 + x66) h64 else bnd (F_To_fail (1 : Int) h64) fun x74 h72 => F_To_joinAll_94 G5 v1 v1n v2 v3 v4 v7 s0 (x61 + x66) h72))
theorem S_To_joinAll_61 {d : Nat} (hd : 2 ≤ d) {G5 : Nat → Nat → Int → Int → Int → MH → RS Int} (hG5 : ∀ (v1 : Nat) (v1n : Nat) (v2 : Int) (v3 : Int) (v4 : Int) (h : MH), LayC h → ArO h v1 103 v1n → inR v2 → inR v3 → inR v4 → OK d k_To_joinAll 5 [mR 87, mR v1, mI v2, mI v3, mI v4, mN, mN, mN, mN, mN, mN, mN, mN] [] h cI inR (G5 v1 v1n v2 v3 v4 h)) {v1 : Nat} {v1n : Nat} {v2 : Int} {v3 : Int} {v4 : Int} {v7 : Int64} {s0 : Int64} {h : MH} (L : LayC h) (ov1 : ArO h v1 103 v1n) (rv2 : inR v2) (rv3 : inR v3) (rv4 : inR v4) : OK d k_To_joinAll 61 [mR 87, mR v1, mI v2, mI v3, mI v4, mN, mN, mL v7, mN, mN, mN, mN, mN] [mL s0] h cI inR (F_To_joinAll_61 G5 v1 v1n v2 v3 v4 v7 s0 h) := by
  unfold F_To_joinAll_61
  refine z_go (fun Q hq => x_lstore (dA d_To_joinAll 39 rfl) (by decide) rfl (x_lload (dA d_To_joinAll 40 rfl) rfl hq)) ?_
  refine z_bnd (rest := []) (st1 := fun v => mI v :: []) (S_To_length (d := 0) (Nat.le_refl _) L ) (fun _ hx => absurd hx List.not_mem_nil) (fun _ => rfl) (fun Q' Q => x_callS (as := [mL v7]) (rest := []) (k' := k_To_length) (dA d_To_joinAll 41 rfl) o_To_length lk_To_56 st_To_length (Nat.le_of_ble_eq_true rfl) (Nat.le_trans (Nat.le_of_ble_eq_true rfl) hd) (Nat.le_of_ble_eq_true rfl)) (fun x61 h59 e60 p62 => ?_)
  have L63 := L.ext e60
  refine z_go (fun Q hq => x_lload (dA d_To_joinAll 42 rfl) rfl hq) ?_
  refine z_bnd (rest := [mI x61]) (st1 := fun v => mI v :: [mI x61]) (S_To_length (d := 0) (Nat.le_refl _) L63 ) (fun _ hx => absurd hx List.not_mem_nil) (fun _ => rfl) (fun Q' Q => x_callS (as := [mL s0]) (rest := [mI x61]) (k' := k_To_length) (dA d_To_joinAll 43 rfl) o_To_length lk_To_56 st_To_length (Nat.le_of_ble_eq_true rfl) (Nat.le_trans (Nat.le_of_ble_eq_true rfl) hd) (Nat.le_of_ble_eq_true rfl)) (fun x66 h64 e65 p67 => ?_)
  have L68 := L63.ext e65
  refine z_gd (fun g69 => ?_)
  refine z_go (fun Q hq => x_iadd (dA d_To_joinAll 44 rfl) (x_istore (dA d_To_joinAll 45 rfl) (by decide) rfl (x_iload (dA d_To_joinAll 46 rfl) rfl (x_sipush (dA d_To_joinAll 47 rfl) (by decide) (x_aload_n (dA d_To_joinAll 48 rfl) rfl rfl (x_getI (dA d_To_joinAll 49 rfl) f_To_28 (L68.sh (x := (11, 3)) rfl) (by decide) (by decide) rfl hq)))))) ?_
  refine z_gd (fun g70 => ?_)
  refine z_go (fun Q hq => x_isub (dA d_To_joinAll 50 rfl) hq) ?_
  refine z_br (fun Q => x_icmp_le (dA d_To_joinAll 51 rfl) rfl g69 g70) (fun c71 => ?_) (fun c71 => ?_)
  · exact S_To_joinAll_94 hd hG5 L68 ((ov1.ext e60).ext e65) rv2 rv3 rv4 g69
  · refine z_go (fun Q hq => x_aload_n (dA d_To_joinAll 52 rfl) rfl rfl (x_iconst (dA d_To_joinAll 53 rfl) hq)) ?_
    refine z_bnd (rest := []) (st1 := fun _ => []) (S_To_fail (d := 0) (Nat.le_refl _) L68 (inR_lit (1 : Int) rfl)) (fun _ hx => absurd hx List.not_mem_nil) (fun _ => rfl) (fun Q' Q => x_callV (as := [mI (1 : Int)]) (rest := []) (k' := k_To_fail) (dA d_To_joinAll 54 rfl) o_To_fail lk_To_85 im_To_fail se_To_fail rfl (L68.sh (x := (11, 3)) rfl) (by decide) (Nat.le_of_ble_eq_true rfl) (Nat.le_trans (Nat.le_of_ble_eq_true rfl) hd) (Nat.le_of_ble_eq_true rfl)) (fun x74 h72 e73 p75 => ?_)
    have L76 := L68.ext e73
    exact S_To_joinAll_94 hd hG5 L76 (((ov1.ext e60).ext e65).ext e73) rv2 rv3 rv4 g69
noncomputable def F_To_joinAll_41 (G5 : Nat → Nat → Int → Int → Int → MH → RS Int) (v1 : Nat) (v1n : Nat) (v2 : Int) (v3 : Int) (v4 : Int) (s0 : Int64) (h : MH) : RS Int := gd (inR (v4 + (1 : Int))) (if v2 ≤ (v4 + (1 : Int)) then F_To_joinAll_61 G5 v1 v1n v2 v3 v4 s0 (0 : Int64) h else gd (0 ≤ (v4 + (1 : Int)) ∧ (v4 + (1 : Int)) < v1n) (F_To_joinAll_61 G5 v1 v1n v2 v3 v4 s0 (mGl h v1 (v4 + (1 : Int)).toNat) h))
theorem S_To_joinAll_41 {d : Nat} (hd : 2 ≤ d) {G5 : Nat → Nat → Int → Int → Int → MH → RS Int} (hG5 : ∀ (v1 : Nat) (v1n : Nat) (v2 : Int) (v3 : Int) (v4 : Int) (h : MH), LayC h → ArO h v1 103 v1n → inR v2 → inR v3 → inR v4 → OK d k_To_joinAll 5 [mR 87, mR v1, mI v2, mI v3, mI v4, mN, mN, mN, mN, mN, mN, mN, mN] [] h cI inR (G5 v1 v1n v2 v3 v4 h)) {v1 : Nat} {v1n : Nat} {v2 : Int} {v3 : Int} {v4 : Int} {s0 : Int64} {h : MH} (L : LayC h) (ov1 : ArO h v1 103 v1n) (rv2 : inR v2) (rv3 : inR v3) (rv4 : inR v4) : OK d k_To_joinAll 41 [mR 87, mR v1, mI v2, mI v3, mI v4, mN, mN, mN, mN, mN, mN, mN, mN] [mL s0] h cI inR (F_To_joinAll_41 G5 v1 v1n v2 v3 v4 s0 h) := by
  unfold F_To_joinAll_41
  refine z_go (fun Q hq => x_lstore (dA d_To_joinAll 26 rfl) (by decide) rfl (x_iload (dA d_To_joinAll 27 rfl) rfl (x_iconst (dA d_To_joinAll 28 rfl) hq))) ?_
  refine z_gd (fun g77 => ?_)
  refine z_go (fun Q hq => x_iadd (dA d_To_joinAll 29 rfl) (x_iload_n (dA d_To_joinAll 30 rfl) rfl rfl hq)) ?_
  refine z_br (fun Q => x_icmp_ge (dA d_To_joinAll 31 rfl) rfl g77 rv2) (fun c78 => ?_) (fun c78 => ?_)
  · refine z_go (fun Q hq => x_lconst (v := 0) (dA d_To_joinAll 38 rfl) rfl hq) ?_
    exact S_To_joinAll_61 hd hG5 L ov1 rv2 rv3 rv4
  · refine z_go (fun Q hq => x_aload_n (dA d_To_joinAll 32 rfl) rfl rfl (x_iload (dA d_To_joinAll 33 rfl) rfl (x_iconst (dA d_To_joinAll 34 rfl) (x_iadd (dA d_To_joinAll 35 rfl) hq)))) ?_
    refine z_gd (fun g79 => ?_)
    refine z_go (fun Q hq => x_lald (dA d_To_joinAll 36 rfl) ov1.1 g79.1 g79.2 ov1.2 (x_goto (dA d_To_joinAll 37 rfl) rfl hq)) ?_
    exact S_To_joinAll_61 hd hG5 L ov1 rv2 rv3 rv4
noncomputable def F_To_joinAll_5_b (G5 : Nat → Nat → Int → Int → Int → MH → RS Int) (v1 : Nat) (v1n : Nat) (v2 : Int) (v3 : Int) (v4 : Int) (h : MH) : RS Int := if v2 ≤ v4 then some (.inl v3, h) else gd (0 ≤ v4 ∧ v4 < v1n) (if (lgI ((mGl h v1 v4.toNat) &&& (281474976710656 : Int64)) (0 : Int64)) = 0 then F_To_joinAll_192 G5 v1 v1n v2 v3 v4 (mGl h v1 v4.toNat) h else if v3 ≤ 0 then F_To_joinAll_41 G5 v1 v1n v2 v3 v4 (0 : Int64) h else gd (inR (v3 - (1 : Int))) (gd (0 ≤ (v3 - (1 : Int)) ∧ (v3 - (1 : Int)) < v1n) (F_To_joinAll_41 G5 v1 v1n v2 v3 v4 (mGl h v1 (v3 - (1 : Int)).toNat) h)))
theorem S_To_joinAll_5_b {d : Nat} (hd : 2 ≤ d) {G5 : Nat → Nat → Int → Int → Int → MH → RS Int} (hG5 : ∀ (v1 : Nat) (v1n : Nat) (v2 : Int) (v3 : Int) (v4 : Int) (h : MH), LayC h → ArO h v1 103 v1n → inR v2 → inR v3 → inR v4 → OK d k_To_joinAll 5 [mR 87, mR v1, mI v2, mI v3, mI v4, mN, mN, mN, mN, mN, mN, mN, mN] [] h cI inR (G5 v1 v1n v2 v3 v4 h)) {v1 : Nat} {v1n : Nat} {v2 : Int} {v3 : Int} {v4 : Int} {h : MH} (L : LayC h) (ov1 : ArO h v1 103 v1n) (rv2 : inR v2) (rv3 : inR v3) (rv4 : inR v4) : OK d k_To_joinAll 5 [mR 87, mR v1, mI v2, mI v3, mI v4, mN, mN, mN, mN, mN, mN, mN, mN] [] h cI inR (F_To_joinAll_5_b G5 v1 v1n v2 v3 v4 h) := by
  unfold F_To_joinAll_5_b
  refine z_go (fun Q hq => x_iload (dA d_To_joinAll 4 rfl) rfl (x_iload_n (dA d_To_joinAll 5 rfl) rfl rfl hq)) ?_
  refine z_br (fun Q => x_icmp_ge (dA d_To_joinAll 6 rfl) rfl rv4 rv2) (fun c80 => ?_) (fun c80 => ?_)
  · refine z_go (fun Q hq => x_iload_n (dA d_To_joinAll 110 rfl) rfl rfl hq) ?_
    exact z_reti (dA d_To_joinAll 111 rfl) rfl rv3
  · refine z_go (fun Q hq => x_aload_n (dA d_To_joinAll 7 rfl) rfl rfl (x_iload (dA d_To_joinAll 8 rfl) rfl hq)) ?_
    refine z_gd (fun g81 => ?_)
    refine z_go (fun Q hq => x_lald (dA d_To_joinAll 9 rfl) ov1.1 g81.1 g81.2 ov1.2 (x_lstore (dA d_To_joinAll 10 rfl) (by decide) rfl (x_lload (dA d_To_joinAll 11 rfl) rfl (x_ldc2 (dA d_To_joinAll 12 rfl) kl_To_96 (x_land (dA d_To_joinAll 13 rfl) (x_lconst (v := 0) (dA d_To_joinAll 14 rfl) rfl (x_lcmp (dA d_To_joinAll 15 rfl) hq))))))) ?_
    refine z_br (fun Q => x_if_eq (dA d_To_joinAll 16 rfl) rfl (inR_lgI _ _)) (fun c82 => ?_) (fun c82 => ?_)
    · exact S_To_joinAll_192 hd hG5 L ov1 rv2 rv3 rv4
    · refine z_go (fun Q hq => x_iload_n (dA d_To_joinAll 17 rfl) rfl rfl hq) ?_
      refine z_br (fun Q => x_if_le (dA d_To_joinAll 18 rfl) rfl rv3) (fun c83 => ?_) (fun c83 => ?_)
      · refine z_go (fun Q hq => x_lconst (v := 0) (dA d_To_joinAll 25 rfl) rfl hq) ?_
        refine z_fgt (ls' := [mR 87, mR v1, mI v2, mI v3, mI v4, mN, mN, mN, mN, mN, mN, mN, mN]) ⟨.inr rfl, .inr rfl, .inr rfl, .inr rfl, .inr rfl, .inl rfl, .inl rfl, .inl rfl, .inl rfl, .inl rfl, .inl rfl, .inl rfl, .inl rfl, trivial⟩ ?_
        exact S_To_joinAll_41 hd hG5 L ov1 rv2 rv3 rv4
      · refine z_go (fun Q hq => x_aload_n (dA d_To_joinAll 19 rfl) rfl rfl (x_iload_n (dA d_To_joinAll 20 rfl) rfl rfl (x_iconst (dA d_To_joinAll 21 rfl) hq))) ?_
        refine z_gd (fun g84 => ?_)
        refine z_go (fun Q hq => x_isub (dA d_To_joinAll 22 rfl) hq) ?_
        refine z_gd (fun g85 => ?_)
        refine z_go (fun Q hq => x_lald (dA d_To_joinAll 23 rfl) ov1.1 g85.1 g85.2 ov1.2 (x_goto (dA d_To_joinAll 24 rfl) rfl hq)) ?_
        refine z_fgt (ls' := [mR 87, mR v1, mI v2, mI v3, mI v4, mN, mN, mN, mN, mN, mN, mN, mN]) ⟨.inr rfl, .inr rfl, .inr rfl, .inr rfl, .inr rfl, .inl rfl, .inl rfl, .inl rfl, .inl rfl, .inl rfl, .inl rfl, .inl rfl, .inl rfl, trivial⟩ ?_
        exact S_To_joinAll_41 hd hG5 L ov1 rv2 rv3 rv4
noncomputable def F_To_joinAll_5 (v1 : Nat) (v1n : Nat) (v2 : Int) (v3 : Int) (v4 : Int) (h : MH) : RS Int := itr (fun self (q : Nat × Nat × Int × Int × Int × MH) => F_To_joinAll_5_b (fun v1 v1n v2 v3 v4 h => self (v1, v1n, v2, v3, v4, h)) q.1 q.2.1 q.2.2.1 q.2.2.2.1 q.2.2.2.2.1 q.2.2.2.2.2) FU (v1, v1n, v2, v3, v4, h)
theorem S_To_joinAll_5 {d : Nat} (hd : 2 ≤ d) {v1 : Nat} {v1n : Nat} {v2 : Int} {v3 : Int} {v4 : Int} {h : MH} (L : LayC h) (ov1 : ArO h v1 103 v1n) (rv2 : inR v2) (rv3 : inR v3) (rv4 : inR v4) : OK d k_To_joinAll 5 [mR 87, mR v1, mI v2, mI v3, mI v4, mN, mN, mN, mN, mN, mN, mN, mN] [] h cI inR (F_To_joinAll_5  v1 v1n v2 v3 v4 h) := by
  unfold F_To_joinAll_5
  refine z_itr (P := fun q : Nat × Nat × Int × Int × Int × MH => LayC q.2.2.2.2.2 ∧ ArO q.2.2.2.2.2 q.1 103 q.2.1 ∧ inR q.2.2.1 ∧ inR q.2.2.2.1 ∧ inR q.2.2.2.2.1 ∧ True) (ls := fun q : Nat × Nat × Int × Int × Int × MH => [mR 87, mR q.1, mI q.2.2.1, mI q.2.2.2.1, mI q.2.2.2.2.1, mN, mN, mN, mN, mN, mN, mN, mN]) (hp := fun q : Nat × Nat × Int × Int × Int × MH => q.2.2.2.2.2) (fun self hs q hq => ?_) FU (v1, v1n, v2, v3, v4, h) ⟨L, ov1, rv2, rv3, rv4, trivial⟩
  exact S_To_joinAll_5_b hd (fun v1 v1n v2 v3 v4 h L ov1 rv2 rv3 rv4 => hs (v1, v1n, v2, v3, v4, h) ⟨L, ov1, rv2, rv3, rv4, trivial⟩) hq.1 hq.2.1 hq.2.2.1 hq.2.2.2.1 hq.2.2.2.2.1
noncomputable def F_To_joinAll (a1 : Nat) (a1n : Nat) (a2 : Int) (h : MH) : RS Int := F_To_joinAll_5 a1 a1n a2 (0 : Int) (0 : Int) h
theorem S_To_joinAll {d : Nat} (hd : 2 ≤ d) {a1 : Nat} {a1n : Nat} {a2 : Int} {h : MH} (L : LayC h) (oa1 : ArO h a1 103 a1n) (ra2 : inR a2) : OK d k_To_joinAll 0 [mR 87, mR a1, mI a2, mN, mN, mN, mN, mN, mN, mN, mN, mN, mN] [] h cI inR (F_To_joinAll  a1 a1n a2 h) := by
  unfold F_To_joinAll
  refine z_go (fun Q hq => x_iconst (dA d_To_joinAll 0 rfl) (x_istore_n (dA d_To_joinAll 1 rfl) rfl (by decide) rfl (x_iconst (dA d_To_joinAll 2 rfl) (x_istore (dA d_To_joinAll 3 rfl) (by decide) rfl hq)))) ?_
  exact S_To_joinAll_5 hd  L oa1 ra2 (inR_lit (0 : Int) rfl) (inR_lit (0 : Int) rfl)
end Fns
