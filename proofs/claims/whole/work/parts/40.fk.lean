section Fns
/-! TwoMillsModel.worked(IJJ)J -/
noncomputable def F_M_worked_346 (s0 : Int) (h : MH) : RS Int64 := gd (p01 s0) (bnd (F_M_bit s0 h) fun x4 h2 => some (.inl x4, h2))
theorem S_M_worked_346 {d : Nat} (hd : 1 ≤ d) {s0 : Int} {h : MH} (L : LayC h) (rs0 : inR s0) : OK d k_M_worked 346 [mN, mN, mN, mN, mN] [mI s0] h cJ pT (F_M_worked_346  s0 h) := by
  unfold F_M_worked_346
  refine z_gd (fun g1 => ?_)
  refine z_bnd (rest := []) (st1 := fun v => mL v :: []) (S_M_bit (d := 0) (Nat.le_refl _) L g1) (fun _ hx => absurd hx List.not_mem_nil) (fun _ => rfl) (fun Q' Q => x_callS (as := [mI s0]) (rest := []) (k' := k_M_bit) (dA d_M_worked 138 rfl) o_M_bit lk_M_445 st_M_bit (Nat.le_of_ble_eq_true rfl) (Nat.le_trans (Nat.le_of_ble_eq_true rfl) hd) (Nat.le_of_ble_eq_true rfl)) (fun x4 h2 e3 p5 => ?_)
  have L6 := L.ext e3
  exact z_retj (dA d_M_worked 139 rfl) rfl
noncomputable def F_M_worked_341 (h : MH) : RS Int64 := F_M_worked_346 (1 : Int) h
theorem S_M_worked_341 {d : Nat} (hd : 1 ≤ d) {h : MH} (L : LayC h) : OK d k_M_worked 341 [mN, mN, mN, mN, mN] [] h cJ pT (F_M_worked_341   h) := by
  unfold F_M_worked_341
  refine z_go (fun Q hq => x_iconst (dA d_M_worked 135 rfl) (x_goto (dA d_M_worked 136 rfl) rfl hq)) ?_
  exact S_M_worked_346 hd  L (inR_lit (1 : Int) rfl)
noncomputable def F_M_worked_325 (s0 : Int) (h : MH) : RS Int64 := gd (p01 s0) (bnd (F_M_bit s0 h) fun x10 h8 => some (.inl x10, h8))
theorem S_M_worked_325 {d : Nat} (hd : 1 ≤ d) {s0 : Int} {h : MH} (L : LayC h) (rs0 : inR s0) : OK d k_M_worked 325 [mN, mN, mN, mN, mN] [mI s0] h cJ pT (F_M_worked_325  s0 h) := by
  unfold F_M_worked_325
  refine z_gd (fun g7 => ?_)
  refine z_bnd (rest := []) (st1 := fun v => mL v :: []) (S_M_bit (d := 0) (Nat.le_refl _) L g7) (fun _ hx => absurd hx List.not_mem_nil) (fun _ => rfl) (fun Q' Q => x_callS (as := [mI s0]) (rest := []) (k' := k_M_bit) (dA d_M_worked 125 rfl) o_M_bit lk_M_445 st_M_bit (Nat.le_of_ble_eq_true rfl) (Nat.le_trans (Nat.le_of_ble_eq_true rfl) hd) (Nat.le_of_ble_eq_true rfl)) (fun x10 h8 e9 p11 => ?_)
  have L12 := L.ext e9
  exact z_retj (dA d_M_worked 126 rfl) rfl
noncomputable def F_M_worked_324 (h : MH) : RS Int64 := F_M_worked_325 (0 : Int) h
theorem S_M_worked_324 {d : Nat} (hd : 1 ≤ d) {h : MH} (L : LayC h) : OK d k_M_worked 324 [mN, mN, mN, mN, mN] [] h cJ pT (F_M_worked_324   h) := by
  unfold F_M_worked_324
  refine z_go (fun Q hq => x_iconst (dA d_M_worked 124 rfl) hq) ?_
  exact S_M_worked_325 hd  L (inR_lit (0 : Int) rfl)
noncomputable def F_M_worked_292 (s0 : Int) (h : MH) : RS Int64 := gd (p01 s0) (bnd (F_M_bit s0 h) fun x16 h14 => some (.inl x16, h14))
theorem S_M_worked_292 {d : Nat} (hd : 1 ≤ d) {s0 : Int} {h : MH} (L : LayC h) (rs0 : inR s0) : OK d k_M_worked 292 [mN, mN, mN, mN, mN] [mI s0] h cJ pT (F_M_worked_292  s0 h) := by
  unfold F_M_worked_292
  refine z_gd (fun g13 => ?_)
  refine z_bnd (rest := []) (st1 := fun v => mL v :: []) (S_M_bit (d := 0) (Nat.le_refl _) L g13) (fun _ hx => absurd hx List.not_mem_nil) (fun _ => rfl) (fun Q' Q => x_callS (as := [mI s0]) (rest := []) (k' := k_M_bit) (dA d_M_worked 100 rfl) o_M_bit lk_M_445 st_M_bit (Nat.le_of_ble_eq_true rfl) (Nat.le_trans (Nat.le_of_ble_eq_true rfl) hd) (Nat.le_of_ble_eq_true rfl)) (fun x16 h14 e15 p17 => ?_)
  have L18 := L.ext e15
  exact z_retj (dA d_M_worked 101 rfl) rfl
noncomputable def F_M_worked_277 (s0 : Int) (h : MH) : RS Int64 := gd (p01 s0) (bnd (F_M_bit s0 h) fun x22 h20 => some (.inl x22, h20))
theorem S_M_worked_277 {d : Nat} (hd : 1 ≤ d) {s0 : Int} {h : MH} (L : LayC h) (rs0 : inR s0) : OK d k_M_worked 277 [mN, mN, mN, mN, mN] [mI s0] h cJ pT (F_M_worked_277  s0 h) := by
  unfold F_M_worked_277
  refine z_gd (fun g19 => ?_)
  refine z_bnd (rest := []) (st1 := fun v => mL v :: []) (S_M_bit (d := 0) (Nat.le_refl _) L g19) (fun _ hx => absurd hx List.not_mem_nil) (fun _ => rfl) (fun Q' Q => x_callS (as := [mI s0]) (rest := []) (k' := k_M_bit) (dA d_M_worked 91 rfl) o_M_bit lk_M_445 st_M_bit (Nat.le_of_ble_eq_true rfl) (Nat.le_trans (Nat.le_of_ble_eq_true rfl) hd) (Nat.le_of_ble_eq_true rfl)) (fun x22 h20 e21 p23 => ?_)
  have L24 := L.ext e21
  exact z_retj (dA d_M_worked 92 rfl) rfl
noncomputable def F_M_worked_262 (s0 : Int) (h : MH) : RS Int64 := gd (p01 s0) (bnd (F_M_bit s0 h) fun x28 h26 => some (.inl x28, h26))
theorem S_M_worked_262 {d : Nat} (hd : 1 ≤ d) {s0 : Int} {h : MH} (L : LayC h) (rs0 : inR s0) : OK d k_M_worked 262 [mN, mN, mN, mN, mN] [mI s0] h cJ pT (F_M_worked_262  s0 h) := by
  unfold F_M_worked_262
  refine z_gd (fun g25 => ?_)
  refine z_bnd (rest := []) (st1 := fun v => mL v :: []) (S_M_bit (d := 0) (Nat.le_refl _) L g25) (fun _ hx => absurd hx List.not_mem_nil) (fun _ => rfl) (fun Q' Q => x_callS (as := [mI s0]) (rest := []) (k' := k_M_bit) (dA d_M_worked 82 rfl) o_M_bit lk_M_445 st_M_bit (Nat.le_of_ble_eq_true rfl) (Nat.le_trans (Nat.le_of_ble_eq_true rfl) hd) (Nat.le_of_ble_eq_true rfl)) (fun x28 h26 e27 p29 => ?_)
  have L30 := L.ext e27
  exact z_retj (dA d_M_worked 83 rfl) rfl
noncomputable def F_M_worked_247 (s0 : Int) (h : MH) : RS Int64 := gd (p01 s0) (bnd (F_M_bit s0 h) fun x34 h32 => some (.inl x34, h32))
theorem S_M_worked_247 {d : Nat} (hd : 1 ≤ d) {s0 : Int} {h : MH} (L : LayC h) (rs0 : inR s0) : OK d k_M_worked 247 [mN, mN, mN, mN, mN] [mI s0] h cJ pT (F_M_worked_247  s0 h) := by
  unfold F_M_worked_247
  refine z_gd (fun g31 => ?_)
  refine z_bnd (rest := []) (st1 := fun v => mL v :: []) (S_M_bit (d := 0) (Nat.le_refl _) L g31) (fun _ hx => absurd hx List.not_mem_nil) (fun _ => rfl) (fun Q' Q => x_callS (as := [mI s0]) (rest := []) (k' := k_M_bit) (dA d_M_worked 73 rfl) o_M_bit lk_M_445 st_M_bit (Nat.le_of_ble_eq_true rfl) (Nat.le_trans (Nat.le_of_ble_eq_true rfl) hd) (Nat.le_of_ble_eq_true rfl)) (fun x34 h32 e33 p35 => ?_)
  have L36 := L.ext e33
  exact z_retj (dA d_M_worked 74 rfl) rfl
noncomputable def F_M_worked_232 (s0 : Int) (h : MH) : RS Int64 := gd (p01 s0) (bnd (F_M_bit s0 h) fun x40 h38 => some (.inl x40, h38))
theorem S_M_worked_232 {d : Nat} (hd : 1 ≤ d) {s0 : Int} {h : MH} (L : LayC h) (rs0 : inR s0) : OK d k_M_worked 232 [mN, mN, mN, mN, mN] [mI s0] h cJ pT (F_M_worked_232  s0 h) := by
  unfold F_M_worked_232
  refine z_gd (fun g37 => ?_)
  refine z_bnd (rest := []) (st1 := fun v => mL v :: []) (S_M_bit (d := 0) (Nat.le_refl _) L g37) (fun _ hx => absurd hx List.not_mem_nil) (fun _ => rfl) (fun Q' Q => x_callS (as := [mI s0]) (rest := []) (k' := k_M_bit) (dA d_M_worked 64 rfl) o_M_bit lk_M_445 st_M_bit (Nat.le_of_ble_eq_true rfl) (Nat.le_trans (Nat.le_of_ble_eq_true rfl) hd) (Nat.le_of_ble_eq_true rfl)) (fun x40 h38 e39 p41 => ?_)
  have L42 := L.ext e39
  exact z_retj (dA d_M_worked 65 rfl) rfl
noncomputable def F_M_worked_217 (s0 : Int) (h : MH) : RS Int64 := gd (p01 s0) (bnd (F_M_bit s0 h) fun x46 h44 => some (.inl x46, h44))
theorem S_M_worked_217 {d : Nat} (hd : 1 ≤ d) {s0 : Int} {h : MH} (L : LayC h) (rs0 : inR s0) : OK d k_M_worked 217 [mN, mN, mN, mN, mN] [mI s0] h cJ pT (F_M_worked_217  s0 h) := by
  unfold F_M_worked_217
  refine z_gd (fun g43 => ?_)
  refine z_bnd (rest := []) (st1 := fun v => mL v :: []) (S_M_bit (d := 0) (Nat.le_refl _) L g43) (fun _ hx => absurd hx List.not_mem_nil) (fun _ => rfl) (fun Q' Q => x_callS (as := [mI s0]) (rest := []) (k' := k_M_bit) (dA d_M_worked 55 rfl) o_M_bit lk_M_445 st_M_bit (Nat.le_of_ble_eq_true rfl) (Nat.le_trans (Nat.le_of_ble_eq_true rfl) hd) (Nat.le_of_ble_eq_true rfl)) (fun x46 h44 e45 p47 => ?_)
  have L48 := L.ext e45
  exact z_retj (dA d_M_worked 56 rfl) rfl
noncomputable def F_M_worked (a1 : Int) (a2 : Int64) (a3 : Int64) (h : MH) : RS Int64 := if a1 = (37 : Int) then if (lgI a3 (0 : Int64)) = 0 then some (.inl (0 : Int64), h) else gd (¬ a3 = 0) (some (.inl (a2 - a2 / a3 * a3), h)) else if a1 = (38 : Int) then some (.inl (a2 &&& a3), h) else if a1 = (42 : Int) then some (.inl (a2 * a3), h) else if a1 = (43 : Int) then some (.inl (a2 + a3), h) else if a1 = (45 : Int) then some (.inl (a2 - a3), h) else if a1 = (47 : Int) then if (lgI a3 (0 : Int64)) = 0 then some (.inl (0 : Int64), h) else gd (¬ a3 = 0) (some (.inl (a2 / a3), h)) else if a1 = (60 : Int) then if 0 ≤ (lgI a2 a3) then F_M_worked_217 (0 : Int) h else F_M_worked_217 (1 : Int) h else if a1 = (62 : Int) then if (lgI a2 a3) ≤ 0 then F_M_worked_232 (0 : Int) h else F_M_worked_232 (1 : Int) h else if a1 = (94 : Int) then some (.inl (a2 ^^^ a3), h) else if a1 = (124 : Int) then some (.inl (a2 ||| a3), h) else if a1 = (9766 : Int) then if (lgI a2 (0 : Int64)) = 0 then F_M_worked_324  h else if (lgI a3 (0 : Int64)) = 0 then F_M_worked_324  h else F_M_worked_325 (1 : Int) h else if a1 = (15420 : Int) then some (.inl (a2 <<< ((Int32.ofInt ((a3 &&& (63 : Int64)).toInt32.toInt)).toInt64 &&& 63)), h) else if a1 = (15649 : Int) then if (lgI a2 a3) = 0 then F_M_worked_292 (0 : Int) h else F_M_worked_292 (1 : Int) h else if a1 = (15676 : Int) then if 0 < (lgI a2 a3) then F_M_worked_247 (0 : Int) h else F_M_worked_247 (1 : Int) h else if a1 = (15677 : Int) then if (lgI a2 a3) = 0 then F_M_worked_277 (1 : Int) h else F_M_worked_277 (0 : Int) h else if a1 = (15678 : Int) then if (lgI a2 a3) < 0 then F_M_worked_262 (0 : Int) h else F_M_worked_262 (1 : Int) h else if a1 = (15934 : Int) then some (.inl (a2 >>> ((Int32.ofInt ((a3 &&& (63 : Int64)).toInt32.toInt)).toInt64 &&& 63)), h) else if (lgI a2 (0 : Int64)) = 0 then if (lgI a3 (0 : Int64)) = 0 then F_M_worked_346 (0 : Int) h else F_M_worked_341  h else F_M_worked_341  h
theorem S_M_worked {d : Nat} (hd : 1 ≤ d) {a1 : Int} {a2 : Int64} {a3 : Int64} {h : MH} (L : LayC h) (ra1 : inR a1) : OK d k_M_worked 0 [mI a1, mL a2, mN, mL a3, mN] [] h cJ pT (F_M_worked  a1 a2 a3 h) := by
  unfold F_M_worked
  refine z_go (fun Q hq => x_iload_n (dA d_M_worked 0 rfl) rfl rfl hq) ?_
  refine z_ite (fun c49 => ?_) (fun c49 => ?_)
  · refine z_go (fun Q hq => x_lookup (dA d_M_worked 1 rfl) rfl ra1 (by rw [c49] <;> rfl) rfl hq) ?_
    refine z_go (fun Q hq => x_lload_n (dA d_M_worked 16 rfl) rfl rfl (x_lconst (v := 0) (dA d_M_worked 17 rfl) rfl (x_lcmp (dA d_M_worked 18 rfl) hq))) ?_
    refine z_brn (fun Q => x_if_ne (dA d_M_worked 19 rfl) rfl (inR_lgI _ _)) (fun c50 => ?_) (fun c50 => ?_)
    · refine z_go (fun Q hq => x_lconst (v := 0) (dA d_M_worked 20 rfl) rfl (x_goto (dA d_M_worked 21 rfl) rfl hq)) ?_
      exact z_retj (dA d_M_worked 25 rfl) rfl
    · refine z_go (fun Q hq => x_lload_n (dA d_M_worked 22 rfl) rfl rfl (x_lload_n (dA d_M_worked 23 rfl) rfl rfl hq)) ?_
      refine z_gd (fun g51 => ?_)
      refine z_go (fun Q hq => x_lrem (dA d_M_worked 24 rfl) g51 hq) ?_
      exact z_retj (dA d_M_worked 25 rfl) rfl
  refine z_ite (fun c52 => ?_) (fun c52 => ?_)
  · refine z_go (fun Q hq => x_lookup (dA d_M_worked 1 rfl) rfl ra1 (by rw [c52] <;> rfl) rfl hq) ?_
    refine z_go (fun Q hq => x_lload_n (dA d_M_worked 102 rfl) rfl rfl (x_lload_n (dA d_M_worked 103 rfl) rfl rfl (x_land (dA d_M_worked 104 rfl) hq))) ?_
    exact z_retj (dA d_M_worked 105 rfl) rfl
  refine z_ite (fun c53 => ?_) (fun c53 => ?_)
  · refine z_go (fun Q hq => x_lookup (dA d_M_worked 1 rfl) rfl ra1 (by rw [c53] <;> rfl) rfl hq) ?_
    refine z_go (fun Q hq => x_lload_n (dA d_M_worked 2 rfl) rfl rfl (x_lload_n (dA d_M_worked 3 rfl) rfl rfl (x_lmul (dA d_M_worked 4 rfl) hq))) ?_
    exact z_retj (dA d_M_worked 5 rfl) rfl
  refine z_ite (fun c54 => ?_) (fun c54 => ?_)
  · refine z_go (fun Q hq => x_lookup (dA d_M_worked 1 rfl) rfl ra1 (by rw [c54] <;> rfl) rfl hq) ?_
    refine z_go (fun Q hq => x_lload_n (dA d_M_worked 26 rfl) rfl rfl (x_lload_n (dA d_M_worked 27 rfl) rfl rfl (x_ladd (dA d_M_worked 28 rfl) hq))) ?_
    exact z_retj (dA d_M_worked 29 rfl) rfl
  refine z_ite (fun c55 => ?_) (fun c55 => ?_)
  · refine z_go (fun Q hq => x_lookup (dA d_M_worked 1 rfl) rfl ra1 (by rw [c55] <;> rfl) rfl hq) ?_
    refine z_go (fun Q hq => x_lload_n (dA d_M_worked 30 rfl) rfl rfl (x_lload_n (dA d_M_worked 31 rfl) rfl rfl (x_lsub (dA d_M_worked 32 rfl) hq))) ?_
    exact z_retj (dA d_M_worked 33 rfl) rfl
  refine z_ite (fun c56 => ?_) (fun c56 => ?_)
  · refine z_go (fun Q hq => x_lookup (dA d_M_worked 1 rfl) rfl ra1 (by rw [c56] <;> rfl) rfl hq) ?_
    refine z_go (fun Q hq => x_lload_n (dA d_M_worked 6 rfl) rfl rfl (x_lconst (v := 0) (dA d_M_worked 7 rfl) rfl (x_lcmp (dA d_M_worked 8 rfl) hq))) ?_
    refine z_brn (fun Q => x_if_ne (dA d_M_worked 9 rfl) rfl (inR_lgI _ _)) (fun c57 => ?_) (fun c57 => ?_)
    · refine z_go (fun Q hq => x_lconst (v := 0) (dA d_M_worked 10 rfl) rfl (x_goto (dA d_M_worked 11 rfl) rfl hq)) ?_
      exact z_retj (dA d_M_worked 15 rfl) rfl
    · refine z_go (fun Q hq => x_lload_n (dA d_M_worked 12 rfl) rfl rfl (x_lload_n (dA d_M_worked 13 rfl) rfl rfl hq)) ?_
      refine z_gd (fun g58 => ?_)
      refine z_go (fun Q hq => x_ldiv (dA d_M_worked 14 rfl) g58 hq) ?_
      exact z_retj (dA d_M_worked 15 rfl) rfl
  refine z_ite (fun c59 => ?_) (fun c59 => ?_)
  · refine z_go (fun Q hq => x_lookup (dA d_M_worked 1 rfl) rfl ra1 (by rw [c59] <;> rfl) rfl hq) ?_
    refine z_go (fun Q hq => x_lload_n (dA d_M_worked 48 rfl) rfl rfl (x_lload_n (dA d_M_worked 49 rfl) rfl rfl (x_lcmp (dA d_M_worked 50 rfl) hq))) ?_
    refine z_br (fun Q => x_if_ge (dA d_M_worked 51 rfl) rfl (inR_lgI _ _)) (fun c60 => ?_) (fun c60 => ?_)
    · refine z_go (fun Q hq => x_iconst (dA d_M_worked 54 rfl) hq) ?_
      refine z_fgt (ls' := [mN, mN, mN, mN, mN]) ⟨.inl rfl, .inl rfl, .inl rfl, .inl rfl, .inl rfl, trivial⟩ ?_
      exact S_M_worked_217 hd  L (inR_lit (0 : Int) rfl)
    · refine z_go (fun Q hq => x_iconst (dA d_M_worked 52 rfl) (x_goto (dA d_M_worked 53 rfl) rfl hq)) ?_
      refine z_fgt (ls' := [mN, mN, mN, mN, mN]) ⟨.inl rfl, .inl rfl, .inl rfl, .inl rfl, .inl rfl, trivial⟩ ?_
      exact S_M_worked_217 hd  L (inR_lit (1 : Int) rfl)
  refine z_ite (fun c61 => ?_) (fun c61 => ?_)
  · refine z_go (fun Q hq => x_lookup (dA d_M_worked 1 rfl) rfl ra1 (by rw [c61] <;> rfl) rfl hq) ?_
    refine z_go (fun Q hq => x_lload_n (dA d_M_worked 57 rfl) rfl rfl (x_lload_n (dA d_M_worked 58 rfl) rfl rfl (x_lcmp (dA d_M_worked 59 rfl) hq))) ?_
    refine z_br (fun Q => x_if_le (dA d_M_worked 60 rfl) rfl (inR_lgI _ _)) (fun c62 => ?_) (fun c62 => ?_)
    · refine z_go (fun Q hq => x_iconst (dA d_M_worked 63 rfl) hq) ?_
      refine z_fgt (ls' := [mN, mN, mN, mN, mN]) ⟨.inl rfl, .inl rfl, .inl rfl, .inl rfl, .inl rfl, trivial⟩ ?_
      exact S_M_worked_232 hd  L (inR_lit (0 : Int) rfl)
    · refine z_go (fun Q hq => x_iconst (dA d_M_worked 61 rfl) (x_goto (dA d_M_worked 62 rfl) rfl hq)) ?_
      refine z_fgt (ls' := [mN, mN, mN, mN, mN]) ⟨.inl rfl, .inl rfl, .inl rfl, .inl rfl, .inl rfl, trivial⟩ ?_
      exact S_M_worked_232 hd  L (inR_lit (1 : Int) rfl)
  refine z_ite (fun c63 => ?_) (fun c63 => ?_)
  · refine z_go (fun Q hq => x_lookup (dA d_M_worked 1 rfl) rfl ra1 (by rw [c63] <;> rfl) rfl hq) ?_
    refine z_go (fun Q hq => x_lload_n (dA d_M_worked 106 rfl) rfl rfl (x_lload_n (dA d_M_worked 107 rfl) rfl rfl (x_lxor (dA d_M_worked 108 rfl) hq))) ?_
    exact z_retj (dA d_M_worked 109 rfl) rfl
  refine z_ite (fun c64 => ?_) (fun c64 => ?_)
  · refine z_go (fun Q hq => x_lookup (dA d_M_worked 1 rfl) rfl ra1 (by rw [c64] <;> rfl) rfl hq) ?_
    refine z_go (fun Q hq => x_lload_n (dA d_M_worked 110 rfl) rfl rfl (x_lload_n (dA d_M_worked 111 rfl) rfl rfl (x_lor (dA d_M_worked 112 rfl) hq))) ?_
    exact z_retj (dA d_M_worked 113 rfl) rfl
  refine z_ite (fun c65 => ?_) (fun c65 => ?_)
  · refine z_go (fun Q hq => x_lookup (dA d_M_worked 1 rfl) rfl ra1 (by rw [c65] <;> rfl) rfl hq) ?_
    refine z_go (fun Q hq => x_lload_n (dA d_M_worked 114 rfl) rfl rfl (x_lconst (v := 0) (dA d_M_worked 115 rfl) rfl (x_lcmp (dA d_M_worked 116 rfl) hq))) ?_
    refine z_br (fun Q => x_if_eq (dA d_M_worked 117 rfl) rfl (inR_lgI _ _)) (fun c66 => ?_) (fun c66 => ?_)
    · refine z_fgt (ls' := [mN, mN, mN, mN, mN]) ⟨.inl rfl, .inl rfl, .inl rfl, .inl rfl, .inl rfl, trivial⟩ ?_
      exact S_M_worked_324 hd  L 
    · refine z_go (fun Q hq => x_lload_n (dA d_M_worked 118 rfl) rfl rfl (x_lconst (v := 0) (dA d_M_worked 119 rfl) rfl (x_lcmp (dA d_M_worked 120 rfl) hq))) ?_
      refine z_br (fun Q => x_if_eq (dA d_M_worked 121 rfl) rfl (inR_lgI _ _)) (fun c67 => ?_) (fun c67 => ?_)
      · refine z_fgt (ls' := [mN, mN, mN, mN, mN]) ⟨.inl rfl, .inl rfl, .inl rfl, .inl rfl, .inl rfl, trivial⟩ ?_
        exact S_M_worked_324 hd  L 
      · refine z_go (fun Q hq => x_iconst (dA d_M_worked 122 rfl) (x_goto (dA d_M_worked 123 rfl) rfl hq)) ?_
        refine z_fgt (ls' := [mN, mN, mN, mN, mN]) ⟨.inl rfl, .inl rfl, .inl rfl, .inl rfl, .inl rfl, trivial⟩ ?_
        exact S_M_worked_325 hd  L (inR_lit (1 : Int) rfl)
  refine z_ite (fun c68 => ?_) (fun c68 => ?_)
  · refine z_go (fun Q hq => x_lookup (dA d_M_worked 1 rfl) rfl ra1 (by rw [c68] <;> rfl) rfl hq) ?_
    refine z_go (fun Q hq => x_lload_n (dA d_M_worked 34 rfl) rfl rfl (x_lload_n (dA d_M_worked 35 rfl) rfl rfl (x_ldc2 (dA d_M_worked 36 rfl) kl_M_443 (x_land (dA d_M_worked 37 rfl) (x_l2i (dA d_M_worked 38 rfl) (x_lshl (dA d_M_worked 39 rfl) hq)))))) ?_
    exact z_retj (dA d_M_worked 40 rfl) rfl
  refine z_ite (fun c69 => ?_) (fun c69 => ?_)
  · refine z_go (fun Q hq => x_lookup (dA d_M_worked 1 rfl) rfl ra1 (by rw [c69] <;> rfl) rfl hq) ?_
    refine z_go (fun Q hq => x_lload_n (dA d_M_worked 93 rfl) rfl rfl (x_lload_n (dA d_M_worked 94 rfl) rfl rfl (x_lcmp (dA d_M_worked 95 rfl) hq))) ?_
    refine z_br (fun Q => x_if_eq (dA d_M_worked 96 rfl) rfl (inR_lgI _ _)) (fun c70 => ?_) (fun c70 => ?_)
    · refine z_go (fun Q hq => x_iconst (dA d_M_worked 99 rfl) hq) ?_
      refine z_fgt (ls' := [mN, mN, mN, mN, mN]) ⟨.inl rfl, .inl rfl, .inl rfl, .inl rfl, .inl rfl, trivial⟩ ?_
      exact S_M_worked_292 hd  L (inR_lit (0 : Int) rfl)
    · refine z_go (fun Q hq => x_iconst (dA d_M_worked 97 rfl) (x_goto (dA d_M_worked 98 rfl) rfl hq)) ?_
      refine z_fgt (ls' := [mN, mN, mN, mN, mN]) ⟨.inl rfl, .inl rfl, .inl rfl, .inl rfl, .inl rfl, trivial⟩ ?_
      exact S_M_worked_292 hd  L (inR_lit (1 : Int) rfl)
  refine z_ite (fun c71 => ?_) (fun c71 => ?_)
  · refine z_go (fun Q hq => x_lookup (dA d_M_worked 1 rfl) rfl ra1 (by rw [c71] <;> rfl) rfl hq) ?_
    refine z_go (fun Q hq => x_lload_n (dA d_M_worked 66 rfl) rfl rfl (x_lload_n (dA d_M_worked 67 rfl) rfl rfl (x_lcmp (dA d_M_worked 68 rfl) hq))) ?_
    refine z_br (fun Q => x_if_gt (dA d_M_worked 69 rfl) rfl (inR_lgI _ _)) (fun c72 => ?_) (fun c72 => ?_)
    · refine z_go (fun Q hq => x_iconst (dA d_M_worked 72 rfl) hq) ?_
      refine z_fgt (ls' := [mN, mN, mN, mN, mN]) ⟨.inl rfl, .inl rfl, .inl rfl, .inl rfl, .inl rfl, trivial⟩ ?_
      exact S_M_worked_247 hd  L (inR_lit (0 : Int) rfl)
    · refine z_go (fun Q hq => x_iconst (dA d_M_worked 70 rfl) (x_goto (dA d_M_worked 71 rfl) rfl hq)) ?_
      refine z_fgt (ls' := [mN, mN, mN, mN, mN]) ⟨.inl rfl, .inl rfl, .inl rfl, .inl rfl, .inl rfl, trivial⟩ ?_
      exact S_M_worked_247 hd  L (inR_lit (1 : Int) rfl)
  refine z_ite (fun c73 => ?_) (fun c73 => ?_)
  · refine z_go (fun Q hq => x_lookup (dA d_M_worked 1 rfl) rfl ra1 (by rw [c73] <;> rfl) rfl hq) ?_
    refine z_go (fun Q hq => x_lload_n (dA d_M_worked 84 rfl) rfl rfl (x_lload_n (dA d_M_worked 85 rfl) rfl rfl (x_lcmp (dA d_M_worked 86 rfl) hq))) ?_
    refine z_brn (fun Q => x_if_ne (dA d_M_worked 87 rfl) rfl (inR_lgI _ _)) (fun c74 => ?_) (fun c74 => ?_)
    · refine z_go (fun Q hq => x_iconst (dA d_M_worked 88 rfl) (x_goto (dA d_M_worked 89 rfl) rfl hq)) ?_
      refine z_fgt (ls' := [mN, mN, mN, mN, mN]) ⟨.inl rfl, .inl rfl, .inl rfl, .inl rfl, .inl rfl, trivial⟩ ?_
      exact S_M_worked_277 hd  L (inR_lit (1 : Int) rfl)
    · refine z_go (fun Q hq => x_iconst (dA d_M_worked 90 rfl) hq) ?_
      refine z_fgt (ls' := [mN, mN, mN, mN, mN]) ⟨.inl rfl, .inl rfl, .inl rfl, .inl rfl, .inl rfl, trivial⟩ ?_
      exact S_M_worked_277 hd  L (inR_lit (0 : Int) rfl)
  refine z_ite (fun c75 => ?_) (fun c75 => ?_)
  · refine z_go (fun Q hq => x_lookup (dA d_M_worked 1 rfl) rfl ra1 (by rw [c75] <;> rfl) rfl hq) ?_
    refine z_go (fun Q hq => x_lload_n (dA d_M_worked 75 rfl) rfl rfl (x_lload_n (dA d_M_worked 76 rfl) rfl rfl (x_lcmp (dA d_M_worked 77 rfl) hq))) ?_
    refine z_br (fun Q => x_if_lt (dA d_M_worked 78 rfl) rfl (inR_lgI _ _)) (fun c76 => ?_) (fun c76 => ?_)
    · refine z_go (fun Q hq => x_iconst (dA d_M_worked 81 rfl) hq) ?_
      refine z_fgt (ls' := [mN, mN, mN, mN, mN]) ⟨.inl rfl, .inl rfl, .inl rfl, .inl rfl, .inl rfl, trivial⟩ ?_
      exact S_M_worked_262 hd  L (inR_lit (0 : Int) rfl)
    · refine z_go (fun Q hq => x_iconst (dA d_M_worked 79 rfl) (x_goto (dA d_M_worked 80 rfl) rfl hq)) ?_
      refine z_fgt (ls' := [mN, mN, mN, mN, mN]) ⟨.inl rfl, .inl rfl, .inl rfl, .inl rfl, .inl rfl, trivial⟩ ?_
      exact S_M_worked_262 hd  L (inR_lit (1 : Int) rfl)
  refine z_ite (fun c77 => ?_) (fun c77 => ?_)
  · refine z_go (fun Q hq => x_lookup (dA d_M_worked 1 rfl) rfl ra1 (by rw [c77] <;> rfl) rfl hq) ?_
    refine z_go (fun Q hq => x_lload_n (dA d_M_worked 41 rfl) rfl rfl (x_lload_n (dA d_M_worked 42 rfl) rfl rfl (x_ldc2 (dA d_M_worked 43 rfl) kl_M_443 (x_land (dA d_M_worked 44 rfl) (x_l2i (dA d_M_worked 45 rfl) (x_lshr (dA d_M_worked 46 rfl) hq)))))) ?_
    exact z_retj (dA d_M_worked 47 rfl) rfl
  refine z_go (fun Q hq => x_lookup (off := 328) (dA d_M_worked 1 rfl) rfl ra1 (by simp [Op.lookupswitch.offset, c49, c52, c53, c54, c55, c56, c59, c61, c63, c64, c65, c68, c69, c71, c73, c75, c77, Ne.symm c49, Ne.symm c52, Ne.symm c53, Ne.symm c54, Ne.symm c55, Ne.symm c56, Ne.symm c59, Ne.symm c61, Ne.symm c63, Ne.symm c64, Ne.symm c65, Ne.symm c68, Ne.symm c69, Ne.symm c71, Ne.symm c73, Ne.symm c75, Ne.symm c77]) rfl hq) ?_
  refine z_go (fun Q hq => x_lload_n (dA d_M_worked 127 rfl) rfl rfl (x_lconst (v := 0) (dA d_M_worked 128 rfl) rfl (x_lcmp (dA d_M_worked 129 rfl) hq))) ?_
  refine z_brn (fun Q => x_if_ne (dA d_M_worked 130 rfl) rfl (inR_lgI _ _)) (fun c78 => ?_) (fun c78 => ?_)
  · refine z_go (fun Q hq => x_lload_n (dA d_M_worked 131 rfl) rfl rfl (x_lconst (v := 0) (dA d_M_worked 132 rfl) rfl (x_lcmp (dA d_M_worked 133 rfl) hq))) ?_
    refine z_br (fun Q => x_if_eq (dA d_M_worked 134 rfl) rfl (inR_lgI _ _)) (fun c79 => ?_) (fun c79 => ?_)
    · refine z_go (fun Q hq => x_iconst (dA d_M_worked 137 rfl) hq) ?_
      refine z_fgt (ls' := [mN, mN, mN, mN, mN]) ⟨.inl rfl, .inl rfl, .inl rfl, .inl rfl, .inl rfl, trivial⟩ ?_
      exact S_M_worked_346 hd  L (inR_lit (0 : Int) rfl)
    · refine z_fgt (ls' := [mN, mN, mN, mN, mN]) ⟨.inl rfl, .inl rfl, .inl rfl, .inl rfl, .inl rfl, trivial⟩ ?_
      exact S_M_worked_341 hd  L 
  · refine z_fgt (ls' := [mN, mN, mN, mN, mN]) ⟨.inl rfl, .inl rfl, .inl rfl, .inl rfl, .inl rfl, trivial⟩ ?_
    exact S_M_worked_341 hd  L 
/-! TwoMillsModel.hold(IZ)V -/
noncomputable def F_M_hold_34 (s1 : Int) (s2 : Int) (h : MH) : RS Unit := gd (inR (s1 + s2)) (sto (mPi h 107 51 (s1 + s2)) fun h2 => gd (inR ((mGi h2 107 50) + (1 : Int))) (sto (mPi h2 107 50 ((mGi h2 107 50) + (1 : Int))) fun h6 => some (.inl (), h6)))
theorem S_M_hold_34 {d : Nat} (hd : 0 ≤ d) {s1 : Int} {s2 : Int} {h : MH} (L : LayC h) (rs1 : inR s1) (rs2 : inR s2) : OK d k_M_hold 34 [mR 107, mN, mN] [mI s2, mI s1, mR 107] h cV pT (F_M_hold_34  s1 s2 h) := by
  unfold F_M_hold_34
  refine z_gd (fun g1 => ?_)
  refine z_go (fun Q hq => x_iadd (dA d_M_hold 20 rfl) hq) ?_
  refine z_sto (Ext.pi (L.sh (x := (12, 66)) rfl) (by decide) g1) (fun Q hq => x_putI (dA d_M_hold 21 rfl) p_M_452 (L.sh (x := (12, 66)) rfl) (by decide) cl_M rfl hq) (fun h2 e3 => ?_)
  have L4 := L.ext e3
  refine z_go (fun Q hq => x_aload_n (dA d_M_hold 22 rfl) rfl rfl (x_dup (dA d_M_hold 23 rfl) rfl (x_getI (dA d_M_hold 24 rfl) f_M_449 (L4.sh (x := (12, 66)) rfl) (by decide) (by decide) rfl (x_iconst (dA d_M_hold 25 rfl) hq)))) ?_
  refine z_gd (fun g5 => ?_)
  refine z_go (fun Q hq => x_iadd (dA d_M_hold 26 rfl) hq) ?_
  refine z_sto (Ext.pi (L4.sh (x := (12, 66)) rfl) (by decide) g5) (fun Q hq => x_putI (dA d_M_hold 27 rfl) p_M_449 (L4.sh (x := (12, 66)) rfl) (by decide) cl_M rfl hq) (fun h6 e7 => ?_)
  have L8 := L4.ext e7
  exact z_retv (dA d_M_hold 28 rfl) rfl
noncomputable def F_M_hold (a1 : Int) (a2 : Int) (h : MH) : RS Unit := gd (0 ≤ (mGi h 107 50) ∧ (mGi h 107 50) < 240) (sto (mPi h 147 (mGi h 107 50).toNat a1) fun h10 => gd (0 ≤ (mGi h10 107 50) ∧ (mGi h10 107 50) < 240) (sto (mPi h10 148 (mGi h10 107 50).toNat a2) fun h14 => if a2 = 0 then F_M_hold_34 (mGi h14 107 51) (0 : Int) h14 else F_M_hold_34 (mGi h14 107 51) (1 : Int) h14))
theorem S_M_hold {d : Nat} (hd : 0 ≤ d) {a1 : Int} {a2 : Int} {h : MH} (L : LayC h) (ra1 : inR a1) (ra2 : p01 a2) : OK d k_M_hold 0 [mR 107, mI a1, mI a2] [] h cV pT (F_M_hold  a1 a2 h) := by
  unfold F_M_hold
  refine z_go (fun Q hq => x_aload_n (dA d_M_hold 0 rfl) rfl rfl (x_getR (dA d_M_hold 1 rfl) f_M_130 (L.sh (x := (12, 66)) rfl) (by decide) (by decide) rfl (L.rf 148 rfl) (x_aload_n (dA d_M_hold 2 rfl) rfl rfl (x_getI (dA d_M_hold 3 rfl) f_M_449 (L.sh (x := (12, 66)) rfl) (by decide) (by decide) rfl (x_iload_n (dA d_M_hold 4 rfl) rfl rfl hq))))) ?_
  refine z_gd (fun g9 => ?_)
  refine z_sto (Ext.pi (L.sh (x := (100, 240)) rfl) (by decide) ra1) (fun Q hq => x_iast (dA d_M_hold 5 rfl) (L.sh (x := (100, 240)) rfl) g9.1 g9.2 (by decide) hq) (fun h10 e11 => ?_)
  have L12 := L.ext e11
  refine z_go (fun Q hq => x_aload_n (dA d_M_hold 6 rfl) rfl rfl (x_getR (dA d_M_hold 7 rfl) f_M_133 (L12.sh (x := (12, 66)) rfl) (by decide) (by decide) rfl (L12.rf 149 rfl) (x_aload_n (dA d_M_hold 8 rfl) rfl rfl (x_getI (dA d_M_hold 9 rfl) f_M_449 (L12.sh (x := (12, 66)) rfl) (by decide) (by decide) rfl (x_iload_n (dA d_M_hold 10 rfl) rfl rfl hq))))) ?_
  refine z_gd (fun g13 => ?_)
  refine z_sto (Ext.pi (L12.sh (x := (102, 240)) rfl) (by decide) ra2.inR) (fun Q hq => x_zast (dA d_M_hold 11 rfl) (L12.sh (x := (102, 240)) rfl) g13.1 g13.2 (by decide) ra2 hq) (fun h14 e15 => ?_)
  have L16 := L12.ext e15
  refine z_go (fun Q hq => x_aload_n (dA d_M_hold 12 rfl) rfl rfl (x_dup (dA d_M_hold 13 rfl) rfl (x_getI (dA d_M_hold 14 rfl) f_M_452 (L16.sh (x := (12, 66)) rfl) (by decide) (by decide) rfl (x_iload_n (dA d_M_hold 15 rfl) rfl rfl hq)))) ?_
  refine z_br (fun Q => x_if_eq (dA d_M_hold 16 rfl) rfl ra2.inR) (fun c17 => ?_) (fun c17 => ?_)
  · refine z_go (fun Q hq => x_iconst (dA d_M_hold 19 rfl) hq) ?_
    refine z_fgt (ls' := [mR 107, mN, mN]) ⟨.inr rfl, .inl rfl, .inl rfl, trivial⟩ ?_
    exact S_M_hold_34 hd  L16 (L16.rg _ _) (inR_lit (0 : Int) rfl)
  · refine z_go (fun Q hq => x_iconst (dA d_M_hold 17 rfl) (x_goto (dA d_M_hold 18 rfl) rfl hq)) ?_
    refine z_fgt (ls' := [mR 107, mN, mN]) ⟨.inr rfl, .inl rfl, .inl rfl, trivial⟩ ?_
    exact S_M_hold_34 hd  L16 (L16.rg _ _) (inR_lit (1 : Int) rfl)
/-! TwoMillsModel.push(J)V -/
noncomputable def F_M_push (a1 : Int64) (h : MH) : RS Unit := gd (0 ≤ (mGi h 107 49) ∧ (mGi h 107 49) < 120) (sto (mPl h 139 (mGi h 107 49).toNat a1) fun h2 => gd (inR ((mGi h2 107 49) + (1 : Int))) (sto (mPi h2 107 49 ((mGi h2 107 49) + (1 : Int))) fun h6 => some (.inl (), h6)))
theorem S_M_push {d : Nat} (hd : 0 ≤ d) {a1 : Int64} {h : MH} (L : LayC h) : OK d k_M_push 0 [mR 107, mL a1, mN] [] h cV pT (F_M_push  a1 h) := by
  unfold F_M_push
  refine z_go (fun Q hq => x_aload_n (dA d_M_push 0 rfl) rfl rfl (x_getR (dA d_M_push 1 rfl) f_M_106 (L.sh (x := (12, 66)) rfl) (by decide) (by decide) rfl (L.rf 140 rfl) (x_aload_n (dA d_M_push 2 rfl) rfl rfl (x_getI (dA d_M_push 3 rfl) f_M_455 (L.sh (x := (12, 66)) rfl) (by decide) (by decide) rfl (x_lload_n (dA d_M_push 4 rfl) rfl rfl hq))))) ?_
  refine z_gd (fun g1 => ?_)
  refine z_sto Ext.pl (fun Q hq => x_last (dA d_M_push 5 rfl) (L.sh (x := (103, 120)) rfl) g1.1 g1.2 (by decide) hq) (fun h2 e3 => ?_)
  have L4 := L.ext e3
  refine z_go (fun Q hq => x_aload_n (dA d_M_push 6 rfl) rfl rfl (x_dup (dA d_M_push 7 rfl) rfl (x_getI (dA d_M_push 8 rfl) f_M_455 (L4.sh (x := (12, 66)) rfl) (by decide) (by decide) rfl (x_iconst (dA d_M_push 9 rfl) hq)))) ?_
  refine z_gd (fun g5 => ?_)
  refine z_go (fun Q hq => x_iadd (dA d_M_push 10 rfl) hq) ?_
  refine z_sto (Ext.pi (L4.sh (x := (12, 66)) rfl) (by decide) g5) (fun Q hq => x_putI (dA d_M_push 11 rfl) p_M_455 (L4.sh (x := (12, 66)) rfl) (by decide) cl_M rfl hq) (fun h6 e7 => ?_)
  have L8 := L4.ext e7
  exact z_retv (dA d_M_push 12 rfl) rfl
/-! TwoMillsModel.reduce()V -/
noncomputable def F_M_reduce_172 (s1 : Int) (s2 : Int) (h : MH) : RS Unit := gd (inR (s1 - s2)) (sto (mPi h 107 51 (s1 - s2)) fun h2 => some (.inl (), h2))
theorem S_M_reduce_172 {d : Nat} (hd : 2 ≤ d) {s1 : Int} {s2 : Int} {h : MH} (L : LayC h) (rs1 : inR s1) (rs2 : inR s2) : OK d k_M_reduce 172 [mN, mN, mN, mN] [mI s2, mI s1, mR 107] h cV pT (F_M_reduce_172  s1 s2 h) := by
  unfold F_M_reduce_172
  refine z_gd (fun g1 => ?_)
  refine z_go (fun Q hq => x_isub (dA d_M_reduce 97 rfl) hq) ?_
  refine z_sto (Ext.pi (L.sh (x := (12, 66)) rfl) (by decide) g1) (fun Q hq => x_putI (dA d_M_reduce 98 rfl) p_M_452 (L.sh (x := (12, 66)) rfl) (by decide) cl_M rfl hq) (fun h2 e3 => ?_)
  have L4 := L.ext e3
  exact z_retv (dA d_M_reduce 99 rfl) rfl
noncomputable def F_M_reduce_123 (v1 : Int) (v2 : Int64) (h : MH) : RS Unit := gd (inR ((mGi h 107 49) - (1 : Int))) (gd (0 ≤ ((mGi h 107 49) - (1 : Int)) ∧ ((mGi h 107 49) - (1 : Int)) < 120) (bnd (F_M_worked v1 (mGl h 139 ((mGi h 107 49) - (1 : Int)).toNat) v2 h) fun x9 h7 => sto (mPl h7 139 ((mGi h 107 49) - (1 : Int)).toNat x9) fun h12 => gd (0 ≤ (mGi h12 107 50) ∧ (mGi h12 107 50) < 240) (if (mGi h12 148 (mGi h12 107 50).toNat) = 0 then F_M_reduce_172 (mGi h12 107 51) (0 : Int) h12 else F_M_reduce_172 (mGi h12 107 51) (1 : Int) h12)))
theorem S_M_reduce_123 {d : Nat} (hd : 2 ≤ d) {v1 : Int} {v2 : Int64} {h : MH} (L : LayC h) (rv1 : inR v1) : OK d k_M_reduce 123 [mR 107, mI v1, mL v2, mN] [] h cV pT (F_M_reduce_123  v1 v2 h) := by
  unfold F_M_reduce_123
  refine z_go (fun Q hq => x_aload_n (dA d_M_reduce 68 rfl) rfl rfl (x_getR (dA d_M_reduce 69 rfl) f_M_106 (L.sh (x := (12, 66)) rfl) (by decide) (by decide) rfl (L.rf 140 rfl) (x_aload_n (dA d_M_reduce 70 rfl) rfl rfl (x_getI (dA d_M_reduce 71 rfl) f_M_455 (L.sh (x := (12, 66)) rfl) (by decide) (by decide) rfl (x_iconst (dA d_M_reduce 72 rfl) hq))))) ?_
  refine z_gd (fun g5 => ?_)
  refine z_go (fun Q hq => x_isub (dA d_M_reduce 73 rfl) (x_iload_n (dA d_M_reduce 74 rfl) rfl rfl (x_aload_n (dA d_M_reduce 75 rfl) rfl rfl (x_getR (dA d_M_reduce 76 rfl) f_M_106 (L.sh (x := (12, 66)) rfl) (by decide) (by decide) rfl (L.rf 140 rfl) (x_aload_n (dA d_M_reduce 77 rfl) rfl rfl (x_getI (dA d_M_reduce 78 rfl) f_M_455 (L.sh (x := (12, 66)) rfl) (by decide) (by decide) rfl (x_iconst (dA d_M_reduce 79 rfl) (x_isub (dA d_M_reduce 80 rfl) hq)))))))) ?_
  refine z_gd (fun g6 => ?_)
  refine z_go (fun Q hq => x_lald (dA d_M_reduce 81 rfl) (L.sh (x := (103, 120)) rfl) g6.1 g6.2 (by decide) (x_lload_n (dA d_M_reduce 82 rfl) rfl rfl hq)) ?_
  refine z_bnd (rest := [mI ((mGi h 107 49) - (1 : Int)), mR 139]) (st1 := fun v => mL v :: [mI ((mGi h 107 49) - (1 : Int)), mR 139]) (S_M_worked (d := 1) (Nat.le_refl _) L rv1) (fun _ hx => absurd hx List.not_mem_nil) (fun _ => rfl) (fun Q' Q => x_callS (as := [mI v1, mL (mGl h 139 ((mGi h 107 49) - (1 : Int)).toNat), mL v2]) (rest := [mI ((mGi h 107 49) - (1 : Int)), mR 139]) (k' := k_M_worked) (dA d_M_reduce 83 rfl) o_M_worked lk_M_463 st_M_worked (Nat.le_of_ble_eq_true rfl) (Nat.le_trans (Nat.le_of_ble_eq_true rfl) hd) (Nat.le_of_ble_eq_true rfl)) (fun x9 h7 e8 p10 => ?_)
  have L11 := L.ext e8
  refine z_sto Ext.pl (fun Q hq => x_last (dA d_M_reduce 84 rfl) (L11.sh (x := (103, 120)) rfl) g6.1 g6.2 (by decide) hq) (fun h12 e13 => ?_)
  have L14 := L11.ext e13
  refine z_go (fun Q hq => x_aload_n (dA d_M_reduce 85 rfl) rfl rfl (x_dup (dA d_M_reduce 86 rfl) rfl (x_getI (dA d_M_reduce 87 rfl) f_M_452 (L14.sh (x := (12, 66)) rfl) (by decide) (by decide) rfl (x_aload_n (dA d_M_reduce 88 rfl) rfl rfl (x_getR (dA d_M_reduce 89 rfl) f_M_133 (L14.sh (x := (12, 66)) rfl) (by decide) (by decide) rfl (L14.rf 149 rfl) (x_aload_n (dA d_M_reduce 90 rfl) rfl rfl (x_getI (dA d_M_reduce 91 rfl) f_M_449 (L14.sh (x := (12, 66)) rfl) (by decide) (by decide) rfl hq))))))) ?_
  refine z_gd (fun g15 => ?_)
  refine z_go (fun Q hq => x_zald (dA d_M_reduce 92 rfl) (L14.sh (x := (102, 240)) rfl) g15.1 g15.2 (by decide) hq) ?_
  refine z_br (fun Q => x_if_eq (dA d_M_reduce 93 rfl) rfl (L14.rg _ _)) (fun c16 => ?_) (fun c16 => ?_)
  · refine z_go (fun Q hq => x_iconst (dA d_M_reduce 96 rfl) hq) ?_
    refine z_fgt (ls' := [mN, mN, mN, mN]) ⟨.inl rfl, .inl rfl, .inl rfl, .inl rfl, trivial⟩ ?_
    exact S_M_reduce_172 hd  L14 (L14.rg _ _) (inR_lit (0 : Int) rfl)
  · refine z_go (fun Q hq => x_iconst (dA d_M_reduce 94 rfl) (x_goto (dA d_M_reduce 95 rfl) rfl hq)) ?_
    refine z_fgt (ls' := [mN, mN, mN, mN]) ⟨.inl rfl, .inl rfl, .inl rfl, .inl rfl, trivial⟩ ?_
    exact S_M_reduce_172 hd  L14 (L14.rg _ _) (inR_lit (1 : Int) rfl)
noncomputable def F_M_reduce_104 (v1 : Int) (v2 : Int64) (h : MH) : RS Unit := if (lgI v2 (0 : Int64)) = 0 then if (mGi h 107 51) = 0 then bnd (F_M_fail (9 : Int) h) fun x21 h19 => F_M_reduce_123 v1 v2 h19 else F_M_reduce_123 v1 v2 h else F_M_reduce_123 v1 v2 h
theorem S_M_reduce_104 {d : Nat} (hd : 2 ≤ d) {v1 : Int} {v2 : Int64} {h : MH} (L : LayC h) (rv1 : inR v1) : OK d k_M_reduce 104 [mR 107, mI v1, mL v2, mN] [] h cV pT (F_M_reduce_104  v1 v2 h) := by
  unfold F_M_reduce_104
  refine z_go (fun Q hq => x_lload_n (dA d_M_reduce 58 rfl) rfl rfl (x_lconst (v := 0) (dA d_M_reduce 59 rfl) rfl (x_lcmp (dA d_M_reduce 60 rfl) hq))) ?_
  refine z_brn (fun Q => x_if_ne (dA d_M_reduce 61 rfl) rfl (inR_lgI _ _)) (fun c17 => ?_) (fun c17 => ?_)
  · refine z_go (fun Q hq => x_aload_n (dA d_M_reduce 62 rfl) rfl rfl (x_getI (dA d_M_reduce 63 rfl) f_M_452 (L.sh (x := (12, 66)) rfl) (by decide) (by decide) rfl hq)) ?_
    refine z_brn (fun Q => x_if_ne (dA d_M_reduce 64 rfl) rfl (L.rg _ _)) (fun c18 => ?_) (fun c18 => ?_)
    · refine z_go (fun Q hq => x_aload_n (dA d_M_reduce 65 rfl) rfl rfl (x_bipush (dA d_M_reduce 66 rfl) (by decide) hq)) ?_
      refine z_bnd (rest := []) (st1 := fun _ => []) (S_M_fail (d := 0) (Nat.le_refl _) L (inR_lit (9 : Int) rfl)) (fun _ hx => absurd hx List.not_mem_nil) (fun _ => rfl) (fun Q' Q => x_callV (as := [mI (9 : Int)]) (rest := []) (k' := k_M_fail) (dA d_M_reduce 67 rfl) o_M_fail lk_M_146 im_M_fail se_M_fail rfl (L.sh (x := (12, 66)) rfl) (by decide) (Nat.le_of_ble_eq_true rfl) (Nat.le_trans (Nat.le_of_ble_eq_true rfl) hd) (Nat.le_of_ble_eq_true rfl)) (fun x21 h19 e20 p22 => ?_)
      have L23 := L.ext e20
      exact S_M_reduce_123 hd  L23 rv1
    · exact S_M_reduce_123 hd  L rv1
  · exact S_M_reduce_123 hd  L rv1
noncomputable def F_M_reduce_87 (v1 : Int) (v2 : Int64) (h : MH) : RS Unit := if 0 ≤ v1 then if v1 = (47 : Int) then F_M_reduce_104 v1 v2 h else if v1 = (37 : Int) then F_M_reduce_104 v1 v2 h else F_M_reduce_123 v1 v2 h else some (.inl (), h)
theorem S_M_reduce_87 {d : Nat} (hd : 2 ≤ d) {v1 : Int} {v2 : Int64} {h : MH} (L : LayC h) (rv1 : inR v1) : OK d k_M_reduce 87 [mR 107, mI v1, mL v2, mN] [] h cV pT (F_M_reduce_87  v1 v2 h) := by
  unfold F_M_reduce_87
  refine z_go (fun Q hq => x_iload_n (dA d_M_reduce 49 rfl) rfl rfl hq) ?_
  refine z_br (fun Q => x_if_ge (dA d_M_reduce 50 rfl) rfl rv1) (fun c24 => ?_) (fun c24 => ?_)
  · refine z_go (fun Q hq => x_iload_n (dA d_M_reduce 52 rfl) rfl rfl (x_bipush (dA d_M_reduce 53 rfl) (by decide) hq)) ?_
    refine z_br (fun Q => x_icmp_eq (dA d_M_reduce 54 rfl) rfl rv1 (inR_lit (47 : Int) rfl)) (fun c25 => ?_) (fun c25 => ?_)
    · exact S_M_reduce_104 hd  L rv1
    · refine z_go (fun Q hq => x_iload_n (dA d_M_reduce 55 rfl) rfl rfl (x_bipush (dA d_M_reduce 56 rfl) (by decide) hq)) ?_
      refine z_brn (fun Q => x_icmp_ne (dA d_M_reduce 57 rfl) rfl rv1 (inR_lit (37 : Int) rfl)) (fun c26 => ?_) (fun c26 => ?_)
      · exact S_M_reduce_104 hd  L rv1
      · exact S_M_reduce_123 hd  L rv1
  · exact z_retv (dA d_M_reduce 51 rfl) rfl
noncomputable def F_M_reduce_84 (v1 : Int) (v2 : Int64) (s1 : Int64) (h : MH) : RS Unit := bnd (F_M_push s1 h) fun x29 h27 => F_M_reduce_87 v1 v2 h27
theorem S_M_reduce_84 {d : Nat} (hd : 2 ≤ d) {v1 : Int} {v2 : Int64} {s1 : Int64} {h : MH} (L : LayC h) (rv1 : inR v1) : OK d k_M_reduce 84 [mR 107, mI v1, mL v2, mN] [mL s1, mR 107] h cV pT (F_M_reduce_84  v1 v2 s1 h) := by
  unfold F_M_reduce_84
  refine z_bnd (rest := []) (st1 := fun _ => []) (S_M_push (d := 0) (Nat.le_refl _) L ) (fun _ hx => absurd hx List.not_mem_nil) (fun _ => rfl) (fun Q' Q => x_callV (as := [mL s1]) (rest := []) (k' := k_M_push) (dA d_M_reduce 48 rfl) o_M_push lk_M_460 im_M_push se_M_push rfl (L.sh (x := (12, 66)) rfl) (by decide) (Nat.le_of_ble_eq_true rfl) (Nat.le_trans (Nat.le_of_ble_eq_true rfl) hd) (Nat.le_of_ble_eq_true rfl)) (fun x29 h27 e28 p30 => ?_)
  have L31 := L.ext e28
  exact S_M_reduce_87 hd  L31 rv1
noncomputable def F_M_reduce_81 (v1 : Int) (v2 : Int64) (s1 : Int) (h : MH) : RS Unit := gd (p01 s1) (bnd (F_M_bit s1 h) fun x35 h33 => F_M_reduce_84 v1 v2 x35 h33)
theorem S_M_reduce_81 {d : Nat} (hd : 2 ≤ d) {v1 : Int} {v2 : Int64} {s1 : Int} {h : MH} (L : LayC h) (rv1 : inR v1) (rs1 : inR s1) : OK d k_M_reduce 81 [mR 107, mI v1, mL v2, mN] [mI s1, mR 107] h cV pT (F_M_reduce_81  v1 v2 s1 h) := by
  unfold F_M_reduce_81
  refine z_gd (fun g32 => ?_)
  refine z_bnd (rest := [mR 107]) (st1 := fun v => mL v :: [mR 107]) (S_M_bit (d := 0) (Nat.le_refl _) L g32) (fun _ hx => absurd hx List.not_mem_nil) (fun _ => rfl) (fun Q' Q => x_callS (as := [mI s1]) (rest := [mR 107]) (k' := k_M_bit) (dA d_M_reduce 47 rfl) o_M_bit lk_M_445 st_M_bit (Nat.le_of_ble_eq_true rfl) (Nat.le_trans (Nat.le_of_ble_eq_true rfl) hd) (Nat.le_of_ble_eq_true rfl)) (fun x35 h33 e34 p36 => ?_)
  have L37 := L.ext e34
  exact S_M_reduce_84 hd  L37 rv1
noncomputable def F_M_reduce (h : MH) : RS Unit := gd (inR ((mGi h 107 50) - (1 : Int))) (sto (mPi h 107 50 ((mGi h 107 50) - (1 : Int))) fun h39 => gd (inR ((mGi h39 107 49) - (1 : Int))) (sto (mPi h39 107 49 ((mGi h39 107 49) - (1 : Int))) fun h43 => gd (0 ≤ (mGi h43 107 50) ∧ (mGi h43 107 50) < 240) (gd (0 ≤ (mGi h43 107 49) ∧ (mGi h43 107 49) < 120) (if 0 ≤ (mGi h43 147 (mGi h43 107 50).toNat) then F_M_reduce_87 (mGi h43 147 (mGi h43 107 50).toNat) (mGl h43 139 (mGi h43 107 49).toNat) h43 else if (mGi h43 147 (mGi h43 107 50).toNat) = (-45 : Int) then F_M_reduce_84 (mGi h43 147 (mGi h43 107 50).toNat) (mGl h43 139 (mGi h43 107 49).toNat) (-(mGl h43 139 (mGi h43 107 49).toNat)) h43 else if (mGi h43 147 (mGi h43 107 50).toNat) = (-126 : Int) then F_M_reduce_84 (mGi h43 147 (mGi h43 107 50).toNat) (mGl h43 139 (mGi h43 107 49).toNat) ((mGl h43 139 (mGi h43 107 49).toNat) ^^^ (-1 : Int64)) h43 else if (lgI (mGl h43 139 (mGi h43 107 49).toNat) (0 : Int64)) = 0 then F_M_reduce_81 (mGi h43 147 (mGi h43 107 50).toNat) (mGl h43 139 (mGi h43 107 49).toNat) (1 : Int) h43 else F_M_reduce_81 (mGi h43 147 (mGi h43 107 50).toNat) (mGl h43 139 (mGi h43 107 49).toNat) (0 : Int) h43))))
theorem S_M_reduce {d : Nat} (hd : 2 ≤ d) {h : MH} (L : LayC h) : OK d k_M_reduce 0 [mR 107, mN, mN, mN] [] h cV pT (F_M_reduce   h) := by
  unfold F_M_reduce
  refine z_go (fun Q hq => x_aload_n (dA d_M_reduce 0 rfl) rfl rfl (x_dup (dA d_M_reduce 1 rfl) rfl (x_getI (dA d_M_reduce 2 rfl) f_M_449 (L.sh (x := (12, 66)) rfl) (by decide) (by decide) rfl (x_iconst (dA d_M_reduce 3 rfl) hq)))) ?_
  refine z_gd (fun g38 => ?_)
  refine z_go (fun Q hq => x_isub (dA d_M_reduce 4 rfl) hq) ?_
  refine z_sto (Ext.pi (L.sh (x := (12, 66)) rfl) (by decide) g38) (fun Q hq => x_putI (dA d_M_reduce 5 rfl) p_M_449 (L.sh (x := (12, 66)) rfl) (by decide) cl_M rfl hq) (fun h39 e40 => ?_)
  have L41 := L.ext e40
  refine z_go (fun Q hq => x_aload_n (dA d_M_reduce 6 rfl) rfl rfl (x_dup (dA d_M_reduce 7 rfl) rfl (x_getI (dA d_M_reduce 8 rfl) f_M_455 (L41.sh (x := (12, 66)) rfl) (by decide) (by decide) rfl (x_iconst (dA d_M_reduce 9 rfl) hq)))) ?_
  refine z_gd (fun g42 => ?_)
  refine z_go (fun Q hq => x_isub (dA d_M_reduce 10 rfl) hq) ?_
  refine z_sto (Ext.pi (L41.sh (x := (12, 66)) rfl) (by decide) g42) (fun Q hq => x_putI (dA d_M_reduce 11 rfl) p_M_455 (L41.sh (x := (12, 66)) rfl) (by decide) cl_M rfl hq) (fun h43 e44 => ?_)
  have L45 := L41.ext e44
  refine z_go (fun Q hq => x_aload_n (dA d_M_reduce 12 rfl) rfl rfl (x_getR (dA d_M_reduce 13 rfl) f_M_130 (L45.sh (x := (12, 66)) rfl) (by decide) (by decide) rfl (L45.rf 148 rfl) (x_aload_n (dA d_M_reduce 14 rfl) rfl rfl (x_getI (dA d_M_reduce 15 rfl) f_M_449 (L45.sh (x := (12, 66)) rfl) (by decide) (by decide) rfl hq)))) ?_
  refine z_gd (fun g46 => ?_)
  refine z_go (fun Q hq => x_iald (dA d_M_reduce 16 rfl) (L45.sh (x := (100, 240)) rfl) g46.1 g46.2 (by decide) (x_istore_n (dA d_M_reduce 17 rfl) rfl (by decide) rfl (x_aload_n (dA d_M_reduce 18 rfl) rfl rfl (x_getR (dA d_M_reduce 19 rfl) f_M_106 (L45.sh (x := (12, 66)) rfl) (by decide) (by decide) rfl (L45.rf 140 rfl) (x_aload_n (dA d_M_reduce 20 rfl) rfl rfl (x_getI (dA d_M_reduce 21 rfl) f_M_455 (L45.sh (x := (12, 66)) rfl) (by decide) (by decide) rfl hq)))))) ?_
  refine z_gd (fun g47 => ?_)
  refine z_go (fun Q hq => x_lald (dA d_M_reduce 22 rfl) (L45.sh (x := (103, 120)) rfl) g47.1 g47.2 (by decide) (x_lstore_n (dA d_M_reduce 23 rfl) rfl (by decide) rfl (x_iload_n (dA d_M_reduce 24 rfl) rfl rfl hq))) ?_
  refine z_br (fun Q => x_if_ge (dA d_M_reduce 25 rfl) rfl (L45.rg _ _)) (fun c48 => ?_) (fun c48 => ?_)
  · exact S_M_reduce_87 hd  L45 (L45.rg _ _)
  · refine z_go (fun Q hq => x_aload_n (dA d_M_reduce 26 rfl) rfl rfl (x_iload_n (dA d_M_reduce 27 rfl) rfl rfl (x_bipush (dA d_M_reduce 28 rfl) (by decide) hq))) ?_
    refine z_brn (fun Q => x_icmp_ne (dA d_M_reduce 29 rfl) rfl (L45.rg _ _) (inR_lit (-45 : Int) rfl)) (fun c49 => ?_) (fun c49 => ?_)
    · refine z_go (fun Q hq => x_lload_n (dA d_M_reduce 30 rfl) rfl rfl (x_lneg (dA d_M_reduce 31 rfl) (x_goto (dA d_M_reduce 32 rfl) rfl hq))) ?_
      exact S_M_reduce_84 hd  L45 (L45.rg _ _)
    · refine z_go (fun Q hq => x_iload_n (dA d_M_reduce 33 rfl) rfl rfl (x_bipush (dA d_M_reduce 34 rfl) (by decide) hq)) ?_
      refine z_brn (fun Q => x_icmp_ne (dA d_M_reduce 35 rfl) rfl (L45.rg _ _) (inR_lit (-126 : Int) rfl)) (fun c50 => ?_) (fun c50 => ?_)
      · refine z_go (fun Q hq => x_lload_n (dA d_M_reduce 36 rfl) rfl rfl (x_ldc2 (dA d_M_reduce 37 rfl) kl_M_458 (x_lxor (dA d_M_reduce 38 rfl) (x_goto (dA d_M_reduce 39 rfl) rfl hq)))) ?_
        exact S_M_reduce_84 hd  L45 (L45.rg _ _)
      · refine z_go (fun Q hq => x_lload_n (dA d_M_reduce 40 rfl) rfl rfl (x_lconst (v := 0) (dA d_M_reduce 41 rfl) rfl (x_lcmp (dA d_M_reduce 42 rfl) hq))) ?_
        refine z_brn (fun Q => x_if_ne (dA d_M_reduce 43 rfl) rfl (inR_lgI _ _)) (fun c51 => ?_) (fun c51 => ?_)
        · refine z_go (fun Q hq => x_iconst (dA d_M_reduce 44 rfl) (x_goto (dA d_M_reduce 45 rfl) rfl hq)) ?_
          exact S_M_reduce_81 hd  L45 (L45.rg _ _) (inR_lit (1 : Int) rfl)
        · refine z_go (fun Q hq => x_iconst (dA d_M_reduce 46 rfl) hq) ?_
          exact S_M_reduce_81 hd  L45 (L45.rg _ _) (inR_lit (0 : Int) rfl)
/-! TwoMillsModel.reduceTo(I)V -/
noncomputable def F_M_reduceTo_39 (G0 : Int → MH → RS Unit) (v1 : Int) (h : MH) : RS Unit := bnd (F_M_reduce h) fun x3 h1 => G0 v1 h1
theorem S_M_reduceTo_39 {d : Nat} (hd : 3 ≤ d) {G0 : Int → MH → RS Unit} (hG0 : ∀ (v1 : Int) (h : MH), LayC h → inR v1 → OK d k_M_reduceTo 0 [mR 107, mI v1] [] h cV pT (G0 v1 h)) {v1 : Int} {h : MH} (L : LayC h) (rv1 : inR v1) : OK d k_M_reduceTo 39 [mR 107, mI v1] [] h cV pT (F_M_reduceTo_39 G0 v1 h) := by
  unfold F_M_reduceTo_39
  refine z_go (fun Q hq => x_aload_n (dA d_M_reduceTo 21 rfl) rfl rfl hq) ?_
  refine z_bnd (rest := []) (st1 := fun _ => []) (S_M_reduce (d := 2) (Nat.le_refl _) L ) (fun _ hx => absurd hx List.not_mem_nil) (fun _ => rfl) (fun Q' Q => x_callV (as := []) (rest := []) (k' := k_M_reduce) (dA d_M_reduceTo 22 rfl) o_M_reduce lk_M_470 im_M_reduce se_M_reduce rfl (L.sh (x := (12, 66)) rfl) (by decide) (Nat.le_of_ble_eq_true rfl) (Nat.le_trans (Nat.le_of_ble_eq_true rfl) hd) (Nat.le_of_ble_eq_true rfl)) (fun x3 h1 e2 p4 => ?_)
  have L5 := L.ext e2
  refine z_go (fun Q hq => x_goto (dA d_M_reduceTo 23 rfl) rfl hq) ?_
  exact hG0 v1 h1 L5 rv1
noncomputable def F_M_reduceTo_0_b (G0 : Int → MH → RS Unit) (v1 : Int) (h : MH) : RS Unit := if (mGi h 107 50) ≤ 0 then some (.inl (), h) else gd (inR ((mGi h 107 50) - (1 : Int))) (gd (0 ≤ ((mGi h 107 50) - (1 : Int)) ∧ ((mGi h 107 50) - (1 : Int)) < 240) (if (mGi h 147 ((mGi h 107 50) - (1 : Int)).toNat) < 0 then F_M_reduceTo_39 G0 v1 h else bnd (F_M_strength (mGi h 147 ((mGi h 107 50) - (1 : Int)).toNat) h) fun x12 h10 => if x12 < v1 then some (.inl (), h10) else F_M_reduceTo_39 G0 v1 h10))
theorem S_M_reduceTo_0_b {d : Nat} (hd : 3 ≤ d) {G0 : Int → MH → RS Unit} (hG0 : ∀ (v1 : Int) (h : MH), LayC h → inR v1 → OK d k_M_reduceTo 0 [mR 107, mI v1] [] h cV pT (G0 v1 h)) {v1 : Int} {h : MH} (L : LayC h) (rv1 : inR v1) : OK d k_M_reduceTo 0 [mR 107, mI v1] [] h cV pT (F_M_reduceTo_0_b G0 v1 h) := by
  unfold F_M_reduceTo_0_b
  refine z_go (fun Q hq => x_aload_n (dA d_M_reduceTo 0 rfl) rfl rfl (x_getI (dA d_M_reduceTo 1 rfl) f_M_449 (L.sh (x := (12, 66)) rfl) (by decide) (by decide) rfl hq)) ?_
  refine z_br (fun Q => x_if_le (dA d_M_reduceTo 2 rfl) rfl (L.rg _ _)) (fun c6 => ?_) (fun c6 => ?_)
  · exact z_retv (dA d_M_reduceTo 24 rfl) rfl
  · refine z_go (fun Q hq => x_aload_n (dA d_M_reduceTo 3 rfl) rfl rfl (x_getR (dA d_M_reduceTo 4 rfl) f_M_130 (L.sh (x := (12, 66)) rfl) (by decide) (by decide) rfl (L.rf 148 rfl) (x_aload_n (dA d_M_reduceTo 5 rfl) rfl rfl (x_getI (dA d_M_reduceTo 6 rfl) f_M_449 (L.sh (x := (12, 66)) rfl) (by decide) (by decide) rfl (x_iconst (dA d_M_reduceTo 7 rfl) hq))))) ?_
    refine z_gd (fun g7 => ?_)
    refine z_go (fun Q hq => x_isub (dA d_M_reduceTo 8 rfl) hq) ?_
    refine z_gd (fun g8 => ?_)
    refine z_go (fun Q hq => x_iald (dA d_M_reduceTo 9 rfl) (L.sh (x := (100, 240)) rfl) g8.1 g8.2 (by decide) hq) ?_
    refine z_br (fun Q => x_if_lt (dA d_M_reduceTo 10 rfl) rfl (L.rg _ _)) (fun c9 => ?_) (fun c9 => ?_)
    · exact S_M_reduceTo_39 hd hG0 L rv1
    · refine z_go (fun Q hq => x_aload_n (dA d_M_reduceTo 11 rfl) rfl rfl (x_getR (dA d_M_reduceTo 12 rfl) f_M_130 (L.sh (x := (12, 66)) rfl) (by decide) (by decide) rfl (L.rf 148 rfl) (x_aload_n (dA d_M_reduceTo 13 rfl) rfl rfl (x_getI (dA d_M_reduceTo 14 rfl) f_M_449 (L.sh (x := (12, 66)) rfl) (by decide) (by decide) rfl (x_iconst (dA d_M_reduceTo 15 rfl) (x_isub (dA d_M_reduceTo 16 rfl) (x_iald (dA d_M_reduceTo 17 rfl) (L.sh (x := (100, 240)) rfl) g8.1 g8.2 (by decide) hq))))))) ?_
      refine z_bnd (rest := []) (st1 := fun v => mI v :: []) (S_M_strength (d := 0) (Nat.le_refl _) L (L.rg _ _)) (fun _ hx => absurd hx List.not_mem_nil) (fun _ => rfl) (fun Q' Q => x_callS (as := [mI (mGi h 147 ((mGi h 107 50) - (1 : Int)).toNat)]) (rest := []) (k' := k_M_strength) (dA d_M_reduceTo 18 rfl) o_M_strength lk_M_467 st_M_strength (Nat.le_of_ble_eq_true rfl) (Nat.le_trans (Nat.le_of_ble_eq_true rfl) hd) (Nat.le_of_ble_eq_true rfl)) (fun x12 h10 e11 p13 => ?_)
      have L14 := L.ext e11
      refine z_go (fun Q hq => x_iload_n (dA d_M_reduceTo 19 rfl) rfl rfl hq) ?_
      refine z_br (fun Q => x_icmp_lt (dA d_M_reduceTo 20 rfl) rfl p13 rv1) (fun c15 => ?_) (fun c15 => ?_)
      · exact z_retv (dA d_M_reduceTo 24 rfl) rfl
      · exact S_M_reduceTo_39 hd hG0 L14 rv1
noncomputable def F_M_reduceTo_0 (v1 : Int) (h : MH) : RS Unit := itr (fun self (q : Int × MH) => F_M_reduceTo_0_b (fun v1 h => self (v1, h)) q.1 q.2) FU (v1, h)
theorem S_M_reduceTo_0 {d : Nat} (hd : 3 ≤ d) {v1 : Int} {h : MH} (L : LayC h) (rv1 : inR v1) : OK d k_M_reduceTo 0 [mR 107, mI v1] [] h cV pT (F_M_reduceTo_0  v1 h) := by
  unfold F_M_reduceTo_0
  refine z_itr (P := fun q : Int × MH => LayC q.2 ∧ inR q.1 ∧ True) (ls := fun q : Int × MH => [mR 107, mI q.1]) (hp := fun q : Int × MH => q.2) (fun self hs q hq => ?_) FU (v1, h) ⟨L, rv1, trivial⟩
  exact S_M_reduceTo_0_b hd (fun v1 h L rv1 => hs (v1, h) ⟨L, rv1, trivial⟩) hq.1 hq.2.1
noncomputable def F_M_reduceTo (a1 : Int) (h : MH) : RS Unit := F_M_reduceTo_0 a1 h
theorem S_M_reduceTo {d : Nat} (hd : 3 ≤ d) {a1 : Int} {h : MH} (L : LayC h) (ra1 : inR a1) : OK d k_M_reduceTo 0 [mR 107, mI a1] [] h cV pT (F_M_reduceTo  a1 h) := by
  unfold F_M_reduceTo
  exact S_M_reduceTo_0 hd  L ra1
/-! TwoMillsModel.number(J)J -/
noncomputable def F_M_number_97 (v3 : Int64) (v5 : Int) (h : MH) : RS Int64 := if v5 = 0 then bnd (F_M_fail (9 : Int) h) fun x4 h2 => some (.inl v3, h2) else some (.inl v3, h)
theorem S_M_number_97 {d : Nat} (hd : 1 ≤ d) {v3 : Int64} {v5 : Int} {h : MH} (L : LayC h) (rv5 : inR v5) : OK d k_M_number 97 [mR 107, mN, mN, mL v3, mN, mI v5, mN, mN] [] h cJ pT (F_M_number_97  v3 v5 h) := by
  unfold F_M_number_97
  refine z_go (fun Q hq => x_iload (dA d_M_number 51 rfl) rfl hq) ?_
  refine z_brn (fun Q => x_if_ne (dA d_M_number 52 rfl) rfl rv5) (fun c1 => ?_) (fun c1 => ?_)
  · refine z_go (fun Q hq => x_aload_n (dA d_M_number 53 rfl) rfl rfl (x_bipush (dA d_M_number 54 rfl) (by decide) hq)) ?_
    refine z_bnd (rest := []) (st1 := fun _ => []) (S_M_fail (d := 0) (Nat.le_refl _) L (inR_lit (9 : Int) rfl)) (fun _ hx => absurd hx List.not_mem_nil) (fun _ => rfl) (fun Q' Q => x_callV (as := [mI (9 : Int)]) (rest := []) (k' := k_M_fail) (dA d_M_number 55 rfl) o_M_fail lk_M_146 im_M_fail se_M_fail rfl (L.sh (x := (12, 66)) rfl) (by decide) (Nat.le_of_ble_eq_true rfl) (Nat.le_trans (Nat.le_of_ble_eq_true rfl) hd) (Nat.le_of_ble_eq_true rfl)) (fun x4 h2 e3 p5 => ?_)
    have L6 := L.ext e3
    refine z_go (fun Q hq => x_lload_n (dA d_M_number 56 rfl) rfl rfl hq) ?_
    exact z_retj (dA d_M_number 57 rfl) rfl
  · refine z_go (fun Q hq => x_lload_n (dA d_M_number 56 rfl) rfl rfl hq) ?_
    exact z_retj (dA d_M_number 57 rfl) rfl
noncomputable def F_M_number_79 (G8 : Int64 → Int64 → Int → Int → MH → RS Int64) (v1 : Int64) (v3 : Int64) (v6 : Int) (v7 : Int) (s0 : Int) (h : MH) : RS Int64 := gd (inR (v6 + (1 : Int))) (G8 v1 ((v3 * (10 : Int64)) + ((Int32.ofInt v7).toInt64)) s0 (v6 + (1 : Int)) h)
theorem S_M_number_79 {d : Nat} (hd : 1 ≤ d) {G8 : Int64 → Int64 → Int → Int → MH → RS Int64} (hG8 : ∀ (v1 : Int64) (v3 : Int64) (v5 : Int) (v6 : Int) (h : MH), LayC h → inR v5 → inR v6 → OK d k_M_number 8 [mR 107, mL v1, mN, mL v3, mN, mI v5, mI v6, mN] [] h cJ pT (G8 v1 v3 v5 v6 h)) {v1 : Int64} {v3 : Int64} {v6 : Int} {v7 : Int} {s0 : Int} {h : MH} (L : LayC h) (rv6 : inR v6) (rv7 : inR v7) (rs0 : inR s0) : OK d k_M_number 79 [mR 107, mL v1, mN, mL v3, mN, mN, mI v6, mI v7] [mI s0] h cJ pT (F_M_number_79 G8 v1 v3 v6 v7 s0 h) := by
  unfold F_M_number_79
  refine z_go (fun Q hq => x_istore (dA d_M_number 41 rfl) (by decide) rfl (x_lload_n (dA d_M_number 42 rfl) rfl rfl (x_ldc2 (dA d_M_number 43 rfl) kl_M_157 (x_lmul (dA d_M_number 44 rfl) (x_iload (dA d_M_number 45 rfl) rfl (x_i2l (dA d_M_number 46 rfl) (x_ladd (dA d_M_number 47 rfl) (x_lstore_n (dA d_M_number 48 rfl) rfl (by decide) rfl hq)))))))) ?_
  refine z_gd (fun g7 => ?_)
  refine z_go (fun Q hq => x_iinc (dA d_M_number 49 rfl) rfl (by decide) rfl (x_goto (dA d_M_number 50 rfl) rfl hq)) ?_
  refine z_fgt (ls' := [mR 107, mL v1, mN, mL ((v3 * (10 : Int64)) + ((Int32.ofInt v7).toInt64)), mN, mI s0, mI (v6 + (1 : Int)), mN]) ⟨.inr rfl, .inr rfl, .inl rfl, .inr rfl, .inl rfl, .inr rfl, .inr rfl, .inl rfl, trivial⟩ ?_
  exact hG8 v1 ((v3 * (10 : Int64)) + ((Int32.ofInt v7).toInt64)) s0 (v6 + (1 : Int)) h L rs0 g7
noncomputable def F_M_number_78 (G8 : Int64 → Int64 → Int → Int → MH → RS Int64) (v1 : Int64) (v3 : Int64) (v6 : Int) (v7 : Int) (h : MH) : RS Int64 := F_M_number_79 G8 v1 v3 v6 v7 (0 : Int) h
theorem S_M_number_78 {d : Nat} (hd : 1 ≤ d) {G8 : Int64 → Int64 → Int → Int → MH → RS Int64} (hG8 : ∀ (v1 : Int64) (v3 : Int64) (v5 : Int) (v6 : Int) (h : MH), LayC h → inR v5 → inR v6 → OK d k_M_number 8 [mR 107, mL v1, mN, mL v3, mN, mI v5, mI v6, mN] [] h cJ pT (G8 v1 v3 v5 v6 h)) {v1 : Int64} {v3 : Int64} {v6 : Int} {v7 : Int} {h : MH} (L : LayC h) (rv6 : inR v6) (rv7 : inR v7) : OK d k_M_number 78 [mR 107, mL v1, mN, mL v3, mN, mN, mI v6, mI v7] [] h cJ pT (F_M_number_78 G8 v1 v3 v6 v7 h) := by
  unfold F_M_number_78
  refine z_go (fun Q hq => x_iconst (dA d_M_number 40 rfl) hq) ?_
  exact S_M_number_79 hd hG8 L rv6 rv7 (inR_lit (0 : Int) rfl)
noncomputable def F_M_number_74 (G8 : Int64 → Int64 → Int → Int → MH → RS Int64) (v1 : Int64) (v3 : Int64) (v6 : Int) (v7 : Int) (h : MH) : RS Int64 := F_M_number_79 G8 v1 v3 v6 v7 (1 : Int) h
theorem S_M_number_74 {d : Nat} (hd : 1 ≤ d) {G8 : Int64 → Int64 → Int → Int → MH → RS Int64} (hG8 : ∀ (v1 : Int64) (v3 : Int64) (v5 : Int) (v6 : Int) (h : MH), LayC h → inR v5 → inR v6 → OK d k_M_number 8 [mR 107, mL v1, mN, mL v3, mN, mI v5, mI v6, mN] [] h cJ pT (G8 v1 v3 v5 v6 h)) {v1 : Int64} {v3 : Int64} {v6 : Int} {v7 : Int} {h : MH} (L : LayC h) (rv6 : inR v6) (rv7 : inR v7) : OK d k_M_number 74 [mR 107, mL v1, mN, mL v3, mN, mN, mI v6, mI v7] [] h cJ pT (F_M_number_74 G8 v1 v3 v6 v7 h) := by
  unfold F_M_number_74
  refine z_go (fun Q hq => x_iconst (dA d_M_number 38 rfl) (x_goto (dA d_M_number 39 rfl) rfl hq)) ?_
  exact S_M_number_79 hd hG8 L rv6 rv7 (inR_lit (1 : Int) rfl)
noncomputable def F_M_number_8_b (G8 : Int64 → Int64 → Int → Int → MH → RS Int64) (v1 : Int64) (v3 : Int64) (v5 : Int) (v6 : Int) (h : MH) : RS Int64 := bnd (F_M_sizeOf v1 h) fun x10 h8 => if x10 ≤ v6 then F_M_number_97 v3 v5 h8 else if v5 = 0 then F_M_number_97 v3 v5 h8 else bnd (F_M_placeOf v1 h8) fun x17 h15 => gd (inR (x17 + v6)) (gd (0 ≤ (x17 + v6) ∧ (x17 + v6) < 1302) (gd (inR ((mGi h15 121 (x17 + v6).toNat) - (48 : Int))) (if ((mGi h15 121 (x17 + v6).toNat) - (48 : Int)) < 0 then F_M_number_78 G8 v1 v3 v6 ((mGi h15 121 (x17 + v6).toNat) - (48 : Int)) h15 else if (9 : Int) < ((mGi h15 121 (x17 + v6).toNat) - (48 : Int)) then F_M_number_78 G8 v1 v3 v6 ((mGi h15 121 (x17 + v6).toNat) - (48 : Int)) h15 else if (lgI v3 (922337203685477580 : Int64)) < 0 then F_M_number_74 G8 v1 v3 v6 ((mGi h15 121 (x17 + v6).toNat) - (48 : Int)) h15 else if (lgI v3 (922337203685477580 : Int64)) = 0 then if (8 : Int) ≤ ((mGi h15 121 (x17 + v6).toNat) - (48 : Int)) then F_M_number_78 G8 v1 v3 v6 ((mGi h15 121 (x17 + v6).toNat) - (48 : Int)) h15 else F_M_number_74 G8 v1 v3 v6 ((mGi h15 121 (x17 + v6).toNat) - (48 : Int)) h15 else F_M_number_78 G8 v1 v3 v6 ((mGi h15 121 (x17 + v6).toNat) - (48 : Int)) h15)))
theorem S_M_number_8_b {d : Nat} (hd : 1 ≤ d) {G8 : Int64 → Int64 → Int → Int → MH → RS Int64} (hG8 : ∀ (v1 : Int64) (v3 : Int64) (v5 : Int) (v6 : Int) (h : MH), LayC h → inR v5 → inR v6 → OK d k_M_number 8 [mR 107, mL v1, mN, mL v3, mN, mI v5, mI v6, mN] [] h cJ pT (G8 v1 v3 v5 v6 h)) {v1 : Int64} {v3 : Int64} {v5 : Int} {v6 : Int} {h : MH} (L : LayC h) (rv5 : inR v5) (rv6 : inR v6) : OK d k_M_number 8 [mR 107, mL v1, mN, mL v3, mN, mI v5, mI v6, mN] [] h cJ pT (F_M_number_8_b G8 v1 v3 v5 v6 h) := by
  unfold F_M_number_8_b
  refine z_go (fun Q hq => x_iload (dA d_M_number 6 rfl) rfl (x_lload_n (dA d_M_number 7 rfl) rfl rfl hq)) ?_
  refine z_bnd (rest := [mI v6]) (st1 := fun v => mI v :: [mI v6]) (S_M_sizeOf (d := 0) (Nat.le_refl _) L ) (fun _ hx => absurd hx List.not_mem_nil) (fun _ => rfl) (fun Q' Q => x_callS (as := [mL v1]) (rest := [mI v6]) (k' := k_M_sizeOf) (dA d_M_number 8 rfl) o_M_sizeOf lk_M_324 st_M_sizeOf (Nat.le_of_ble_eq_true rfl) (Nat.le_trans (Nat.le_of_ble_eq_true rfl) hd) (Nat.le_of_ble_eq_true rfl)) (fun x10 h8 e9 p11 => ?_)
  have L12 := L.ext e9
  refine z_br (fun Q => x_icmp_ge (dA d_M_number 9 rfl) rfl rv6 p11) (fun c13 => ?_) (fun c13 => ?_)
  · refine z_fgt (ls' := [mR 107, mN, mN, mL v3, mN, mI v5, mN, mN]) ⟨.inr rfl, .inl rfl, .inl rfl, .inr rfl, .inl rfl, .inr rfl, .inl rfl, .inl rfl, trivial⟩ ?_
    exact S_M_number_97 hd  L12 rv5
  · refine z_go (fun Q hq => x_iload (dA d_M_number 10 rfl) rfl hq) ?_
    refine z_br (fun Q => x_if_eq (dA d_M_number 11 rfl) rfl rv5) (fun c14 => ?_) (fun c14 => ?_)
    · refine z_fgt (ls' := [mR 107, mN, mN, mL v3, mN, mI v5, mN, mN]) ⟨.inr rfl, .inl rfl, .inl rfl, .inr rfl, .inl rfl, .inr rfl, .inl rfl, .inl rfl, trivial⟩ ?_
      exact S_M_number_97 hd  L12 rv5
    · refine z_go (fun Q hq => x_aload_n (dA d_M_number 12 rfl) rfl rfl (x_getR (dA d_M_number 13 rfl) f_M_51 (L12.sh (x := (12, 66)) rfl) (by decide) (by decide) rfl (L12.rf 122 rfl) (x_lload_n (dA d_M_number 14 rfl) rfl rfl hq))) ?_
      refine z_bnd (rest := [mR 121]) (st1 := fun v => mI v :: [mR 121]) (S_M_placeOf (d := 0) (Nat.le_refl _) L12 ) (fun _ hx => absurd hx List.not_mem_nil) (fun _ => rfl) (fun Q' Q => x_callS (as := [mL v1]) (rest := [mR 121]) (k' := k_M_placeOf) (dA d_M_number 15 rfl) o_M_placeOf lk_M_327 st_M_placeOf (Nat.le_of_ble_eq_true rfl) (Nat.le_trans (Nat.le_of_ble_eq_true rfl) hd) (Nat.le_of_ble_eq_true rfl)) (fun x17 h15 e16 p18 => ?_)
      have L19 := L12.ext e16
      refine z_go (fun Q hq => x_iload (dA d_M_number 16 rfl) rfl hq) ?_
      refine z_gd (fun g20 => ?_)
      refine z_go (fun Q hq => x_iadd (dA d_M_number 17 rfl) hq) ?_
      refine z_gd (fun g21 => ?_)
      refine z_go (fun Q hq => x_cald (dA d_M_number 18 rfl) (L19.sh (x := (101, 1302)) rfl) g21.1 g21.2 (by decide) (x_bipush (dA d_M_number 19 rfl) (by decide) hq)) ?_
      refine z_gd (fun g22 => ?_)
      refine z_go (fun Q hq => x_isub (dA d_M_number 20 rfl) (x_istore (dA d_M_number 21 rfl) (by decide) rfl (x_iload (dA d_M_number 22 rfl) rfl hq))) ?_
      refine z_br (fun Q => x_if_lt (dA d_M_number 23 rfl) rfl g22) (fun c23 => ?_) (fun c23 => ?_)
      · refine z_fgt (ls' := [mR 107, mL v1, mN, mL v3, mN, mN, mI v6, mI ((mGi h15 121 (x17 + v6).toNat) - (48 : Int))]) ⟨.inr rfl, .inr rfl, .inl rfl, .inr rfl, .inl rfl, .inl rfl, .inr rfl, .inr rfl, trivial⟩ ?_
        exact S_M_number_78 hd hG8 L19 rv6 g22
      · refine z_go (fun Q hq => x_iload (dA d_M_number 24 rfl) rfl (x_bipush (dA d_M_number 25 rfl) (by decide) hq)) ?_
        refine z_br (fun Q => x_icmp_gt (dA d_M_number 26 rfl) rfl g22 (inR_lit (9 : Int) rfl)) (fun c24 => ?_) (fun c24 => ?_)
        · refine z_fgt (ls' := [mR 107, mL v1, mN, mL v3, mN, mN, mI v6, mI ((mGi h15 121 (x17 + v6).toNat) - (48 : Int))]) ⟨.inr rfl, .inr rfl, .inl rfl, .inr rfl, .inl rfl, .inl rfl, .inr rfl, .inr rfl, trivial⟩ ?_
          exact S_M_number_78 hd hG8 L19 rv6 g22
        · refine z_go (fun Q hq => x_lload_n (dA d_M_number 27 rfl) rfl rfl (x_ldc2 (dA d_M_number 28 rfl) kl_M_473 (x_lcmp (dA d_M_number 29 rfl) hq))) ?_
          refine z_br (fun Q => x_if_lt (dA d_M_number 30 rfl) rfl (inR_lgI _ _)) (fun c25 => ?_) (fun c25 => ?_)
          · refine z_fgt (ls' := [mR 107, mL v1, mN, mL v3, mN, mN, mI v6, mI ((mGi h15 121 (x17 + v6).toNat) - (48 : Int))]) ⟨.inr rfl, .inr rfl, .inl rfl, .inr rfl, .inl rfl, .inl rfl, .inr rfl, .inr rfl, trivial⟩ ?_
            exact S_M_number_74 hd hG8 L19 rv6 g22
          · refine z_go (fun Q hq => x_lload_n (dA d_M_number 31 rfl) rfl rfl (x_ldc2 (dA d_M_number 32 rfl) kl_M_473 (x_lcmp (dA d_M_number 33 rfl) hq))) ?_
            refine z_brn (fun Q => x_if_ne (dA d_M_number 34 rfl) rfl (inR_lgI _ _)) (fun c26 => ?_) (fun c26 => ?_)
            · refine z_go (fun Q hq => x_iload (dA d_M_number 35 rfl) rfl (x_bipush (dA d_M_number 36 rfl) (by decide) hq)) ?_
              refine z_br (fun Q => x_icmp_ge (dA d_M_number 37 rfl) rfl g22 (inR_lit (8 : Int) rfl)) (fun c27 => ?_) (fun c27 => ?_)
              · refine z_fgt (ls' := [mR 107, mL v1, mN, mL v3, mN, mN, mI v6, mI ((mGi h15 121 (x17 + v6).toNat) - (48 : Int))]) ⟨.inr rfl, .inr rfl, .inl rfl, .inr rfl, .inl rfl, .inl rfl, .inr rfl, .inr rfl, trivial⟩ ?_
                exact S_M_number_78 hd hG8 L19 rv6 g22
              · refine z_fgt (ls' := [mR 107, mL v1, mN, mL v3, mN, mN, mI v6, mI ((mGi h15 121 (x17 + v6).toNat) - (48 : Int))]) ⟨.inr rfl, .inr rfl, .inl rfl, .inr rfl, .inl rfl, .inl rfl, .inr rfl, .inr rfl, trivial⟩ ?_
                exact S_M_number_74 hd hG8 L19 rv6 g22
            · refine z_fgt (ls' := [mR 107, mL v1, mN, mL v3, mN, mN, mI v6, mI ((mGi h15 121 (x17 + v6).toNat) - (48 : Int))]) ⟨.inr rfl, .inr rfl, .inl rfl, .inr rfl, .inl rfl, .inl rfl, .inr rfl, .inr rfl, trivial⟩ ?_
              exact S_M_number_78 hd hG8 L19 rv6 g22
noncomputable def F_M_number_8 (v1 : Int64) (v3 : Int64) (v5 : Int) (v6 : Int) (h : MH) : RS Int64 := itr (fun self (q : Int64 × Int64 × Int × Int × MH) => F_M_number_8_b (fun v1 v3 v5 v6 h => self (v1, v3, v5, v6, h)) q.1 q.2.1 q.2.2.1 q.2.2.2.1 q.2.2.2.2) FU (v1, v3, v5, v6, h)
theorem S_M_number_8 {d : Nat} (hd : 1 ≤ d) {v1 : Int64} {v3 : Int64} {v5 : Int} {v6 : Int} {h : MH} (L : LayC h) (rv5 : inR v5) (rv6 : inR v6) : OK d k_M_number 8 [mR 107, mL v1, mN, mL v3, mN, mI v5, mI v6, mN] [] h cJ pT (F_M_number_8  v1 v3 v5 v6 h) := by
  unfold F_M_number_8
  refine z_itr (P := fun q : Int64 × Int64 × Int × Int × MH => LayC q.2.2.2.2 ∧ inR q.2.2.1 ∧ inR q.2.2.2.1 ∧ True) (ls := fun q : Int64 × Int64 × Int × Int × MH => [mR 107, mL q.1, mN, mL q.2.1, mN, mI q.2.2.1, mI q.2.2.2.1, mN]) (hp := fun q : Int64 × Int64 × Int × Int × MH => q.2.2.2.2) (fun self hs q hq => ?_) FU (v1, v3, v5, v6, h) ⟨L, rv5, rv6, trivial⟩
  exact S_M_number_8_b hd (fun v1 v3 v5 v6 h L rv5 rv6 => hs (v1, v3, v5, v6, h) ⟨L, rv5, rv6, trivial⟩) hq.1 hq.2.1 hq.2.2.1
noncomputable def F_M_number (a1 : Int64) (h : MH) : RS Int64 := F_M_number_8 a1 (0 : Int64) (1 : Int) (0 : Int) h
theorem S_M_number {d : Nat} (hd : 1 ≤ d) {a1 : Int64} {h : MH} (L : LayC h) : OK d k_M_number 0 [mR 107, mL a1, mN, mN, mN, mN, mN, mN] [] h cJ pT (F_M_number  a1 h) := by
  unfold F_M_number
  refine z_go (fun Q hq => x_lconst (v := 0) (dA d_M_number 0 rfl) rfl (x_lstore_n (dA d_M_number 1 rfl) rfl (by decide) rfl (x_iconst (dA d_M_number 2 rfl) (x_istore (dA d_M_number 3 rfl) (by decide) rfl (x_iconst (dA d_M_number 4 rfl) (x_istore (dA d_M_number 5 rfl) (by decide) rfl hq)))))) ?_
  exact S_M_number_8 hd  L (inR_lit (1 : Int) rfl) (inR_lit (0 : Int) rfl)
/-! TwoMillsModel.begins(J)Z -/
noncomputable def F_M_begins_124 (s1 : Int) (h : MH) : RS Int := bnd (F_M_hold s1 (0 : Int) h) fun x3 h1 => some (.inl (1 : Int), h1)
theorem S_M_begins_124 {d : Nat} (hd : 2 ≤ d) {s1 : Int} {h : MH} (L : LayC h) (rs1 : inR s1) : OK d k_M_begins 124 [mN, mN, mN, mN, mN] [mI s1, mR 107] h cI p01 (F_M_begins_124  s1 h) := by
  unfold F_M_begins_124
  refine z_go (fun Q hq => x_iconst (dA d_M_begins 63 rfl) hq) ?_
  refine z_bnd (rest := []) (st1 := fun _ => []) (S_M_hold (d := 0) (Nat.le_refl _) L rs1 (.inl rfl)) (fun _ hx => absurd hx List.not_mem_nil) (fun _ => rfl) (fun Q' Q => x_callV (as := [mI s1, mI (0 : Int)]) (rest := []) (k' := k_M_hold) (dA d_M_begins 64 rfl) o_M_hold lk_M_479 im_M_hold se_M_hold rfl (L.sh (x := (12, 66)) rfl) (by decide) (Nat.le_of_ble_eq_true rfl) (Nat.le_trans (Nat.le_of_ble_eq_true rfl) hd) (Nat.le_of_ble_eq_true rfl)) (fun x3 h1 e2 p4 => ?_)
  have L5 := L.ext e2
  refine z_go (fun Q hq => x_iconst (dA d_M_begins 65 rfl) hq) ?_
  exact z_retz (dA d_M_begins 66 rfl) rfl (.inr rfl)
noncomputable def F_M_begins_100 (v4 : Int) (s1 : Int) (h : MH) : RS Int := gd (p01 s1) (bnd (F_M_need s1 (9 : Int) h) fun x9 h7 => if x9 = 0 then some (.inl (1 : Int), h7) else if v4 = (40 : Int) then F_M_begins_124 v4 h7 else gd (inR (-v4)) (F_M_begins_124 (-v4) h7))
theorem S_M_begins_100 {d : Nat} (hd : 2 ≤ d) {v4 : Int} {s1 : Int} {h : MH} (L : LayC h) (rv4 : inR v4) (rs1 : inR s1) : OK d k_M_begins 100 [mR 107, mN, mN, mN, mI v4] [mI s1, mR 107] h cI p01 (F_M_begins_100  v4 s1 h) := by
  unfold F_M_begins_100
  refine z_go (fun Q hq => x_bipush (dA d_M_begins 52 rfl) (by decide) hq) ?_
  refine z_gd (fun g6 => ?_)
  refine z_bnd (rest := []) (st1 := fun v => mI v :: []) (S_M_need (d := 1) (Nat.le_refl _) L g6 (inR_lit (9 : Int) rfl)) (fun _ hx => absurd hx List.not_mem_nil) (fun _ => rfl) (fun Q' Q => x_callV (as := [mI s1, mI (9 : Int)]) (rest := []) (k' := k_M_need) (dA d_M_begins 53 rfl) o_M_need lk_M_181 im_M_need se_M_need rfl (L.sh (x := (12, 66)) rfl) (by decide) (Nat.le_of_ble_eq_true rfl) (Nat.le_trans (Nat.le_of_ble_eq_true rfl) hd) (Nat.le_of_ble_eq_true rfl)) (fun x9 h7 e8 p10 => ?_)
  have L11 := L.ext e8
  refine z_br (fun Q => x_if_eq (dA d_M_begins 54 rfl) rfl p10.inR) (fun c12 => ?_) (fun c12 => ?_)
  · refine z_go (fun Q hq => x_iconst (dA d_M_begins 65 rfl) hq) ?_
    exact z_retz (dA d_M_begins 66 rfl) rfl (.inr rfl)
  · refine z_go (fun Q hq => x_aload_n (dA d_M_begins 55 rfl) rfl rfl (x_iload (dA d_M_begins 56 rfl) rfl (x_bipush (dA d_M_begins 57 rfl) (by decide) hq))) ?_
    refine z_brn (fun Q => x_icmp_ne (dA d_M_begins 58 rfl) rfl rv4 (inR_lit (40 : Int) rfl)) (fun c13 => ?_) (fun c13 => ?_)
    · refine z_go (fun Q hq => x_iload (dA d_M_begins 59 rfl) rfl (x_goto (dA d_M_begins 60 rfl) rfl hq)) ?_
      refine z_fgt (ls' := [mN, mN, mN, mN, mN]) ⟨.inl rfl, .inl rfl, .inl rfl, .inl rfl, .inl rfl, trivial⟩ ?_
      exact S_M_begins_124 hd  L11 rv4
    · refine z_go (fun Q hq => x_iload (dA d_M_begins 61 rfl) rfl hq) ?_
      refine z_gd (fun g14 => ?_)
      refine z_go (fun Q hq => x_ineg (dA d_M_begins 62 rfl) hq) ?_
      refine z_fgt (ls' := [mN, mN, mN, mN, mN]) ⟨.inl rfl, .inl rfl, .inl rfl, .inl rfl, .inl rfl, trivial⟩ ?_
      exact S_M_begins_124 hd  L11 g14
noncomputable def F_M_begins_99 (v4 : Int) (h : MH) : RS Int := F_M_begins_100 v4 (0 : Int) h
theorem S_M_begins_99 {d : Nat} (hd : 2 ≤ d) {v4 : Int} {h : MH} (L : LayC h) (rv4 : inR v4) : OK d k_M_begins 99 [mR 107, mN, mN, mN, mI v4] [mR 107] h cI p01 (F_M_begins_99  v4 h) := by
  unfold F_M_begins_99
  refine z_go (fun Q hq => x_iconst (dA d_M_begins 51 rfl) hq) ?_
  exact S_M_begins_100 hd  L rv4 (inR_lit (0 : Int) rfl)
noncomputable def F_M_begins_95 (v4 : Int) (h : MH) : RS Int := F_M_begins_100 v4 (1 : Int) h
theorem S_M_begins_95 {d : Nat} (hd : 2 ≤ d) {v4 : Int} {h : MH} (L : LayC h) (rv4 : inR v4) : OK d k_M_begins 95 [mR 107, mN, mN, mN, mI v4] [mR 107] h cI p01 (F_M_begins_95  v4 h) := by
  unfold F_M_begins_95
  refine z_go (fun Q hq => x_iconst (dA d_M_begins 49 rfl) (x_goto (dA d_M_begins 50 rfl) rfl hq)) ?_
  exact S_M_begins_100 hd  L rv4 (inR_lit (1 : Int) rfl)
noncomputable def F_M_begins_40 (s1 : Int64) (h : MH) : RS Int := bnd (F_M_push s1 h) fun x17 h15 => some (.inl (0 : Int), h15)
theorem S_M_begins_40 {d : Nat} (hd : 2 ≤ d) {s1 : Int64} {h : MH} (L : LayC h) : OK d k_M_begins 40 [mN, mN, mN, mN, mN] [mL s1, mR 107] h cI p01 (F_M_begins_40  s1 h) := by
  unfold F_M_begins_40
  refine z_bnd (rest := []) (st1 := fun _ => []) (S_M_push (d := 0) (Nat.le_refl _) L ) (fun _ hx => absurd hx List.not_mem_nil) (fun _ => rfl) (fun Q' Q => x_callV (as := [mL s1]) (rest := []) (k' := k_M_push) (dA d_M_begins 22 rfl) o_M_push lk_M_460 im_M_push se_M_push rfl (L.sh (x := (12, 66)) rfl) (by decide) (Nat.le_of_ble_eq_true rfl) (Nat.le_trans (Nat.le_of_ble_eq_true rfl) hd) (Nat.le_of_ble_eq_true rfl)) (fun x17 h15 e16 p18 => ?_)
  have L19 := L.ext e16
  refine z_go (fun Q hq => x_iconst (dA d_M_begins 23 rfl) hq) ?_
  exact z_retz (dA d_M_begins 24 rfl) rfl (.inl rfl)
noncomputable def F_M_begins_26 (v1 : Int64) (v3 : Int) (h : MH) : RS Int := if v3 = 0 then bnd (F_M_number v1 h) fun x23 h21 => F_M_begins_40 x23 h21 else F_M_begins_40 (0 : Int64) h
theorem S_M_begins_26 {d : Nat} (hd : 2 ≤ d) {v1 : Int64} {v3 : Int} {h : MH} (L : LayC h) (rv3 : inR v3) : OK d k_M_begins 26 [mR 107, mL v1, mN, mI v3, mN] [] h cI p01 (F_M_begins_26  v1 v3 h) := by
  unfold F_M_begins_26
  refine z_go (fun Q hq => x_aload_n (dA d_M_begins 14 rfl) rfl rfl (x_iload_n (dA d_M_begins 15 rfl) rfl rfl hq)) ?_
  refine z_br (fun Q => x_if_eq (dA d_M_begins 16 rfl) rfl rv3) (fun c20 => ?_) (fun c20 => ?_)
  · refine z_go (fun Q hq => x_aload_n (dA d_M_begins 19 rfl) rfl rfl (x_lload_n (dA d_M_begins 20 rfl) rfl rfl hq)) ?_
    refine z_bnd (rest := [mR 107]) (st1 := fun v => mL v :: [mR 107]) (S_M_number (d := 1) (Nat.le_refl _) L ) (fun _ hx => absurd hx List.not_mem_nil) (fun _ => rfl) (fun Q' Q => x_callV (as := [mL v1]) (rest := [mR 107]) (k' := k_M_number) (dA d_M_begins 21 rfl) o_M_number lk_M_475 im_M_number se_M_number rfl (L.sh (x := (12, 66)) rfl) (by decide) (Nat.le_of_ble_eq_true rfl) (Nat.le_trans (Nat.le_of_ble_eq_true rfl) hd) (Nat.le_of_ble_eq_true rfl)) (fun x23 h21 e22 p24 => ?_)
    have L25 := L.ext e22
    refine z_fgt (ls' := [mN, mN, mN, mN, mN]) ⟨.inl rfl, .inl rfl, .inl rfl, .inl rfl, .inl rfl, trivial⟩ ?_
    exact S_M_begins_40 hd  L25 
  · refine z_go (fun Q hq => x_lconst (v := 0) (dA d_M_begins 17 rfl) rfl (x_goto (dA d_M_begins 18 rfl) rfl hq)) ?_
    refine z_fgt (ls' := [mN, mN, mN, mN, mN]) ⟨.inl rfl, .inl rfl, .inl rfl, .inl rfl, .inl rfl, trivial⟩ ?_
    exact S_M_begins_40 hd  L 
noncomputable def F_M_begins_13 (v1 : Int64) (s0 : Int) (h : MH) : RS Int := if s0 = 0 then bnd (F_M_kindOf v1 h) fun x29 h27 => if x29 = (2 : Int) then F_M_begins_26 v1 s0 h27 else bnd (F_M_placeOf v1 h27) fun x35 h33 => gd (0 ≤ x35 ∧ x35 < 1302) (bnd (F_M_isSign v1 (mGi h33 121 x35.toNat) h33) fun x41 h39 => if x41 = 0 then F_M_begins_99 (mGi h33 121 x35.toNat) h39 else if (mGi h33 121 x35.toNat) = (45 : Int) then F_M_begins_95 (mGi h33 121 x35.toNat) h39 else if (mGi h33 121 x35.toNat) = (33 : Int) then F_M_begins_95 (mGi h33 121 x35.toNat) h39 else if (mGi h33 121 x35.toNat) = (126 : Int) then F_M_begins_95 (mGi h33 121 x35.toNat) h39 else if (mGi h33 121 x35.toNat) = (40 : Int) then F_M_begins_95 (mGi h33 121 x35.toNat) h39 else F_M_begins_99 (mGi h33 121 x35.toNat) h39) else F_M_begins_26 v1 s0 h
theorem S_M_begins_13 {d : Nat} (hd : 2 ≤ d) {v1 : Int64} {s0 : Int} {h : MH} (L : LayC h) (rs0 : inR s0) : OK d k_M_begins 13 [mR 107, mL v1, mN, mN, mN] [mI s0] h cI p01 (F_M_begins_13  v1 s0 h) := by
  unfold F_M_begins_13
  refine z_go (fun Q hq => x_istore_n (dA d_M_begins 7 rfl) rfl (by decide) rfl (x_iload_n (dA d_M_begins 8 rfl) rfl rfl hq)) ?_
  refine z_brn (fun Q => x_if_ne (dA d_M_begins 9 rfl) rfl rs0) (fun c26 => ?_) (fun c26 => ?_)
  · refine z_go (fun Q hq => x_lload_n (dA d_M_begins 10 rfl) rfl rfl hq) ?_
    refine z_bnd (rest := []) (st1 := fun v => mI v :: []) (S_M_kindOf (d := 0) (Nat.le_refl _) L ) (fun _ hx => absurd hx List.not_mem_nil) (fun _ => rfl) (fun Q' Q => x_callS (as := [mL v1]) (rest := []) (k' := k_M_kindOf) (dA d_M_begins 11 rfl) o_M_kindOf lk_M_321 st_M_kindOf (Nat.le_of_ble_eq_true rfl) (Nat.le_trans (Nat.le_of_ble_eq_true rfl) hd) (Nat.le_of_ble_eq_true rfl)) (fun x29 h27 e28 p30 => ?_)
    have L31 := L.ext e28
    refine z_go (fun Q hq => x_iconst (dA d_M_begins 12 rfl) hq) ?_
    refine z_brn (fun Q => x_icmp_ne (dA d_M_begins 13 rfl) rfl p30 (inR_lit (2 : Int) rfl)) (fun c32 => ?_) (fun c32 => ?_)
    · exact S_M_begins_26 hd  L31 rs0
    · refine z_go (fun Q hq => x_aload_n (dA d_M_begins 25 rfl) rfl rfl (x_getR (dA d_M_begins 26 rfl) f_M_51 (L31.sh (x := (12, 66)) rfl) (by decide) (by decide) rfl (L31.rf 122 rfl) (x_lload_n (dA d_M_begins 27 rfl) rfl rfl hq))) ?_
      refine z_bnd (rest := [mR 121]) (st1 := fun v => mI v :: [mR 121]) (S_M_placeOf (d := 0) (Nat.le_refl _) L31 ) (fun _ hx => absurd hx List.not_mem_nil) (fun _ => rfl) (fun Q' Q => x_callS (as := [mL v1]) (rest := [mR 121]) (k' := k_M_placeOf) (dA d_M_begins 28 rfl) o_M_placeOf lk_M_327 st_M_placeOf (Nat.le_of_ble_eq_true rfl) (Nat.le_trans (Nat.le_of_ble_eq_true rfl) hd) (Nat.le_of_ble_eq_true rfl)) (fun x35 h33 e34 p36 => ?_)
      have L37 := L31.ext e34
      refine z_gd (fun g38 => ?_)
      refine z_go (fun Q hq => x_cald (dA d_M_begins 29 rfl) (L37.sh (x := (101, 1302)) rfl) g38.1 g38.2 (by decide) (x_istore (dA d_M_begins 30 rfl) (by decide) rfl (x_aload_n (dA d_M_begins 31 rfl) rfl rfl (x_aload_n (dA d_M_begins 32 rfl) rfl rfl (x_lload_n (dA d_M_begins 33 rfl) rfl rfl (x_iload (dA d_M_begins 34 rfl) rfl hq)))))) ?_
      refine z_bnd (rest := [mR 107]) (st1 := fun v => mI v :: [mR 107]) (S_M_isSign (d := 1) (Nat.le_refl _) L37 (L37.rg _ _)) (fun _ hx => absurd hx List.not_mem_nil) (fun _ => rfl) (fun Q' Q => x_callV (as := [mL v1, mI (mGi h33 121 x35.toNat)]) (rest := [mR 107]) (k' := k_M_isSign) (dA d_M_begins 35 rfl) o_M_isSign lk_M_350 im_M_isSign se_M_isSign rfl (L37.sh (x := (12, 66)) rfl) (by decide) (Nat.le_of_ble_eq_true rfl) (Nat.le_trans (Nat.le_of_ble_eq_true rfl) hd) (Nat.le_of_ble_eq_true rfl)) (fun x41 h39 e40 p42 => ?_)
      have L43 := L37.ext e40
      refine z_br (fun Q => x_if_eq (dA d_M_begins 36 rfl) rfl p42.inR) (fun c44 => ?_) (fun c44 => ?_)
      · refine z_fgt (ls' := [mR 107, mN, mN, mN, mI (mGi h33 121 x35.toNat)]) ⟨.inr rfl, .inl rfl, .inl rfl, .inl rfl, .inr rfl, trivial⟩ ?_
        exact S_M_begins_99 hd  L43 (L37.rg _ _)
      · refine z_go (fun Q hq => x_iload (dA d_M_begins 37 rfl) rfl (x_bipush (dA d_M_begins 38 rfl) (by decide) hq)) ?_
        refine z_br (fun Q => x_icmp_eq (dA d_M_begins 39 rfl) rfl (L37.rg _ _) (inR_lit (45 : Int) rfl)) (fun c45 => ?_) (fun c45 => ?_)
        · refine z_fgt (ls' := [mR 107, mN, mN, mN, mI (mGi h33 121 x35.toNat)]) ⟨.inr rfl, .inl rfl, .inl rfl, .inl rfl, .inr rfl, trivial⟩ ?_
          exact S_M_begins_95 hd  L43 (L37.rg _ _)
        · refine z_go (fun Q hq => x_iload (dA d_M_begins 40 rfl) rfl (x_bipush (dA d_M_begins 41 rfl) (by decide) hq)) ?_
          refine z_br (fun Q => x_icmp_eq (dA d_M_begins 42 rfl) rfl (L37.rg _ _) (inR_lit (33 : Int) rfl)) (fun c46 => ?_) (fun c46 => ?_)
          · refine z_fgt (ls' := [mR 107, mN, mN, mN, mI (mGi h33 121 x35.toNat)]) ⟨.inr rfl, .inl rfl, .inl rfl, .inl rfl, .inr rfl, trivial⟩ ?_
            exact S_M_begins_95 hd  L43 (L37.rg _ _)
          · refine z_go (fun Q hq => x_iload (dA d_M_begins 43 rfl) rfl (x_bipush (dA d_M_begins 44 rfl) (by decide) hq)) ?_
            refine z_br (fun Q => x_icmp_eq (dA d_M_begins 45 rfl) rfl (L37.rg _ _) (inR_lit (126 : Int) rfl)) (fun c47 => ?_) (fun c47 => ?_)
            · refine z_fgt (ls' := [mR 107, mN, mN, mN, mI (mGi h33 121 x35.toNat)]) ⟨.inr rfl, .inl rfl, .inl rfl, .inl rfl, .inr rfl, trivial⟩ ?_
              exact S_M_begins_95 hd  L43 (L37.rg _ _)
            · refine z_go (fun Q hq => x_iload (dA d_M_begins 46 rfl) rfl (x_bipush (dA d_M_begins 47 rfl) (by decide) hq)) ?_
              refine z_brn (fun Q => x_icmp_ne (dA d_M_begins 48 rfl) rfl (L37.rg _ _) (inR_lit (40 : Int) rfl)) (fun c48 => ?_) (fun c48 => ?_)
              · refine z_fgt (ls' := [mR 107, mN, mN, mN, mI (mGi h33 121 x35.toNat)]) ⟨.inr rfl, .inl rfl, .inl rfl, .inl rfl, .inr rfl, trivial⟩ ?_
                exact S_M_begins_95 hd  L43 (L37.rg _ _)
              · refine z_fgt (ls' := [mR 107, mN, mN, mN, mI (mGi h33 121 x35.toNat)]) ⟨.inr rfl, .inl rfl, .inl rfl, .inl rfl, .inr rfl, trivial⟩ ?_
                exact S_M_begins_99 hd  L43 (L37.rg _ _)
  · exact S_M_begins_26 hd  L rs0
noncomputable def F_M_begins (a1 : Int64) (h : MH) : RS Int := bnd (F_M_kindOf a1 h) fun x51 h49 => if x51 = (1 : Int) then F_M_begins_13 a1 (1 : Int) h49 else F_M_begins_13 a1 (0 : Int) h49
theorem S_M_begins {d : Nat} (hd : 2 ≤ d) {a1 : Int64} {h : MH} (L : LayC h) : OK d k_M_begins 0 [mR 107, mL a1, mN, mN, mN] [] h cI p01 (F_M_begins  a1 h) := by
  unfold F_M_begins
  refine z_go (fun Q hq => x_lload_n (dA d_M_begins 0 rfl) rfl rfl hq) ?_
  refine z_bnd (rest := []) (st1 := fun v => mI v :: []) (S_M_kindOf (d := 0) (Nat.le_refl _) L ) (fun _ hx => absurd hx List.not_mem_nil) (fun _ => rfl) (fun Q' Q => x_callS (as := [mL a1]) (rest := []) (k' := k_M_kindOf) (dA d_M_begins 1 rfl) o_M_kindOf lk_M_321 st_M_kindOf (Nat.le_of_ble_eq_true rfl) (Nat.le_trans (Nat.le_of_ble_eq_true rfl) hd) (Nat.le_of_ble_eq_true rfl)) (fun x51 h49 e50 p52 => ?_)
  have L53 := L.ext e50
  refine z_go (fun Q hq => x_iconst (dA d_M_begins 2 rfl) hq) ?_
  refine z_brn (fun Q => x_icmp_ne (dA d_M_begins 3 rfl) rfl p52 (inR_lit (1 : Int) rfl)) (fun c54 => ?_) (fun c54 => ?_)
  · refine z_go (fun Q hq => x_iconst (dA d_M_begins 4 rfl) (x_goto (dA d_M_begins 5 rfl) rfl hq)) ?_
    exact S_M_begins_13 hd  L53 (inR_lit (1 : Int) rfl)
  · refine z_go (fun Q hq => x_iconst (dA d_M_begins 6 rfl) hq) ?_
    exact S_M_begins_13 hd  L53 (inR_lit (0 : Int) rfl)
/-! TwoMillsModel.goesOn(J)Z -/
noncomputable def F_M_goesOn_214 (s1 : Int) (s2 : Int) (h : MH) : RS Int := gd (p01 s2) (bnd (F_M_hold s1 s2 h) fun x4 h2 => some (.inl (1 : Int), h2))
theorem S_M_goesOn_214 {d : Nat} (hd : 4 ≤ d) {s1 : Int} {s2 : Int} {h : MH} (L : LayC h) (rs1 : inR s1) (rs2 : inR s2) : OK d k_M_goesOn 214 [mN, mN, mN, mN, mN, mN, mN] [mI s2, mI s1, mR 107] h cI p01 (F_M_goesOn_214  s1 s2 h) := by
  unfold F_M_goesOn_214
  refine z_gd (fun g1 => ?_)
  refine z_bnd (rest := []) (st1 := fun _ => []) (S_M_hold (d := 0) (Nat.le_refl _) L rs1 g1) (fun _ hx => absurd hx List.not_mem_nil) (fun _ => rfl) (fun Q' Q => x_callV (as := [mI s1, mI s2]) (rest := []) (k' := k_M_hold) (dA d_M_goesOn 113 rfl) o_M_hold lk_M_479 im_M_hold se_M_hold rfl (L.sh (x := (12, 66)) rfl) (by decide) (Nat.le_of_ble_eq_true rfl) (Nat.le_trans (Nat.le_of_ble_eq_true rfl) hd) (Nat.le_of_ble_eq_true rfl)) (fun x4 h2 e3 p5 => ?_)
  have L6 := L.ext e3
  refine z_go (fun Q hq => x_iconst (dA d_M_goesOn 114 rfl) hq) ?_
  exact z_retz (dA d_M_goesOn 115 rfl) rfl (.inr rfl)
noncomputable def F_M_goesOn_213 (s1 : Int) (h : MH) : RS Int := F_M_goesOn_214 s1 (0 : Int) h
theorem S_M_goesOn_213 {d : Nat} (hd : 4 ≤ d) {s1 : Int} {h : MH} (L : LayC h) (rs1 : inR s1) : OK d k_M_goesOn 213 [mN, mN, mN, mN, mN, mN, mN] [mI s1, mR 107] h cI p01 (F_M_goesOn_213  s1 h) := by
  unfold F_M_goesOn_213
  refine z_go (fun Q hq => x_iconst (dA d_M_goesOn 112 rfl) hq) ?_
  exact S_M_goesOn_214 hd  L rs1 (inR_lit (0 : Int) rfl)
noncomputable def F_M_goesOn_209 (s1 : Int) (h : MH) : RS Int := F_M_goesOn_214 s1 (1 : Int) h
theorem S_M_goesOn_209 {d : Nat} (hd : 4 ≤ d) {s1 : Int} {h : MH} (L : LayC h) (rs1 : inR s1) : OK d k_M_goesOn 209 [mN, mN, mN, mN, mN, mN, mN] [mI s1, mR 107] h cI p01 (F_M_goesOn_209  s1 h) := by
  unfold F_M_goesOn_209
  refine z_go (fun Q hq => x_iconst (dA d_M_goesOn 110 rfl) (x_goto (dA d_M_goesOn 111 rfl) rfl hq)) ?_
  exact S_M_goesOn_214 hd  L rs1 (inR_lit (1 : Int) rfl)
noncomputable def F_M_goesOn_198 (v5 : Int) (v6 : Int) (s1 : Int) (h : MH) : RS Int := if v5 = (1 : Int) then if v6 = 0 then F_M_goesOn_209 s1 h else F_M_goesOn_213 s1 h else F_M_goesOn_213 s1 h
theorem S_M_goesOn_198 {d : Nat} (hd : 4 ≤ d) {v5 : Int} {v6 : Int} {s1 : Int} {h : MH} (L : LayC h) (rv5 : inR v5) (rv6 : inR v6) (rs1 : inR s1) : OK d k_M_goesOn 198 [mN, mN, mN, mN, mN, mI v5, mI v6] [mI s1, mR 107] h cI p01 (F_M_goesOn_198  v5 v6 s1 h) := by
  unfold F_M_goesOn_198
  refine z_go (fun Q hq => x_iload (dA d_M_goesOn 105 rfl) rfl (x_iconst (dA d_M_goesOn 106 rfl) hq)) ?_
  refine z_brn (fun Q => x_icmp_ne (dA d_M_goesOn 107 rfl) rfl rv5 (inR_lit (1 : Int) rfl)) (fun c7 => ?_) (fun c7 => ?_)
  · refine z_go (fun Q hq => x_iload (dA d_M_goesOn 108 rfl) rfl hq) ?_
    refine z_brn (fun Q => x_if_ne (dA d_M_goesOn 109 rfl) rfl rv6) (fun c8 => ?_) (fun c8 => ?_)
    · refine z_fgt (ls' := [mN, mN, mN, mN, mN, mN, mN]) ⟨.inl rfl, .inl rfl, .inl rfl, .inl rfl, .inl rfl, .inl rfl, .inl rfl, trivial⟩ ?_
      exact S_M_goesOn_209 hd  L rs1
    · refine z_fgt (ls' := [mN, mN, mN, mN, mN, mN, mN]) ⟨.inl rfl, .inl rfl, .inl rfl, .inl rfl, .inl rfl, .inl rfl, .inl rfl, trivial⟩ ?_
      exact S_M_goesOn_213 hd  L rs1
  · refine z_fgt (ls' := [mN, mN, mN, mN, mN, mN, mN]) ⟨.inl rfl, .inl rfl, .inl rfl, .inl rfl, .inl rfl, .inl rfl, .inl rfl, trivial⟩ ?_
    exact S_M_goesOn_213 hd  L rs1
noncomputable def F_M_goesOn_182 (v4 : Int) (v5 : Int) (s0 : Int) (h : MH) : RS Int := if v5 = (2 : Int) then if s0 = 0 then F_M_goesOn_198 v5 s0 v4 h else F_M_goesOn_209 v4 h else F_M_goesOn_198 v5 s0 v4 h
theorem S_M_goesOn_182 {d : Nat} (hd : 4 ≤ d) {v4 : Int} {v5 : Int} {s0 : Int} {h : MH} (L : LayC h) (rv4 : inR v4) (rv5 : inR v5) (rs0 : inR s0) : OK d k_M_goesOn 182 [mR 107, mN, mN, mN, mI v4, mI v5, mN] [mI s0] h cI p01 (F_M_goesOn_182  v4 v5 s0 h) := by
  unfold F_M_goesOn_182
  refine z_go (fun Q hq => x_istore (dA d_M_goesOn 97 rfl) (by decide) rfl (x_aload_n (dA d_M_goesOn 98 rfl) rfl rfl (x_iload (dA d_M_goesOn 99 rfl) rfl (x_iload (dA d_M_goesOn 100 rfl) rfl (x_iconst (dA d_M_goesOn 101 rfl) hq))))) ?_
  refine z_brn (fun Q => x_icmp_ne (dA d_M_goesOn 102 rfl) rfl rv5 (inR_lit (2 : Int) rfl)) (fun c9 => ?_) (fun c9 => ?_)
  · refine z_go (fun Q hq => x_iload (dA d_M_goesOn 103 rfl) rfl hq) ?_
    refine z_brn (fun Q => x_if_ne (dA d_M_goesOn 104 rfl) rfl rs0) (fun c10 => ?_) (fun c10 => ?_)
    · refine z_fgt (ls' := [mN, mN, mN, mN, mN, mI v5, mI s0]) ⟨.inl rfl, .inl rfl, .inl rfl, .inl rfl, .inl rfl, .inr rfl, .inr rfl, trivial⟩ ?_
      exact S_M_goesOn_198 hd  L rv5 rs0 rv4
    · refine z_fgt (ls' := [mN, mN, mN, mN, mN, mN, mN]) ⟨.inl rfl, .inl rfl, .inl rfl, .inl rfl, .inl rfl, .inl rfl, .inl rfl, trivial⟩ ?_
      exact S_M_goesOn_209 hd  L rv4
  · refine z_fgt (ls' := [mN, mN, mN, mN, mN, mI v5, mI s0]) ⟨.inl rfl, .inl rfl, .inl rfl, .inl rfl, .inl rfl, .inr rfl, .inr rfl, trivial⟩ ?_
    exact S_M_goesOn_198 hd  L rv5 rs0 rv4
noncomputable def F_M_goesOn_145 (v4 : Int) (v5 : Int) (h : MH) : RS Int := if v4 = (41 : Int) then some (.inl (0 : Int), h) else if (mGi h 107 1) ≤ 0 then gd (inR ((mGi h 107 49) - (1 : Int))) (gd (0 ≤ ((mGi h 107 49) - (1 : Int)) ∧ ((mGi h 107 49) - (1 : Int)) < 120) (if (lgI (mGl h 139 ((mGi h 107 49) - (1 : Int)).toNat) (0 : Int64)) = 0 then F_M_goesOn_182 v4 v5 (1 : Int) h else F_M_goesOn_182 v4 v5 (0 : Int) h)) else some (.inl (0 : Int), h)
theorem S_M_goesOn_145 {d : Nat} (hd : 4 ≤ d) {v4 : Int} {v5 : Int} {h : MH} (L : LayC h) (rv4 : inR v4) (rv5 : inR v5) : OK d k_M_goesOn 145 [mR 107, mN, mN, mN, mI v4, mI v5, mN] [] h cI p01 (F_M_goesOn_145  v4 v5 h) := by
  unfold F_M_goesOn_145
  refine z_go (fun Q hq => x_iload (dA d_M_goesOn 76 rfl) rfl (x_bipush (dA d_M_goesOn 77 rfl) (by decide) hq)) ?_
  refine z_br (fun Q => x_icmp_eq (dA d_M_goesOn 78 rfl) rfl rv4 (inR_lit (41 : Int) rfl)) (fun c11 => ?_) (fun c11 => ?_)
  · refine z_go (fun Q hq => x_iconst (dA d_M_goesOn 82 rfl) hq) ?_
    exact z_retz (dA d_M_goesOn 83 rfl) rfl (.inl rfl)
  · refine z_go (fun Q hq => x_aload_n (dA d_M_goesOn 79 rfl) rfl rfl (x_getI (dA d_M_goesOn 80 rfl) f_M_140 (L.sh (x := (12, 66)) rfl) (by decide) (by decide) rfl hq)) ?_
    refine z_br (fun Q => x_if_le (dA d_M_goesOn 81 rfl) rfl (L.rg _ _)) (fun c12 => ?_) (fun c12 => ?_)
    · refine z_go (fun Q hq => x_aload_n (dA d_M_goesOn 84 rfl) rfl rfl (x_getR (dA d_M_goesOn 85 rfl) f_M_106 (L.sh (x := (12, 66)) rfl) (by decide) (by decide) rfl (L.rf 140 rfl) (x_aload_n (dA d_M_goesOn 86 rfl) rfl rfl (x_getI (dA d_M_goesOn 87 rfl) f_M_455 (L.sh (x := (12, 66)) rfl) (by decide) (by decide) rfl (x_iconst (dA d_M_goesOn 88 rfl) hq))))) ?_
      refine z_gd (fun g13 => ?_)
      refine z_go (fun Q hq => x_isub (dA d_M_goesOn 89 rfl) hq) ?_
      refine z_gd (fun g14 => ?_)
      refine z_go (fun Q hq => x_lald (dA d_M_goesOn 90 rfl) (L.sh (x := (103, 120)) rfl) g14.1 g14.2 (by decide) (x_lconst (v := 0) (dA d_M_goesOn 91 rfl) rfl (x_lcmp (dA d_M_goesOn 92 rfl) hq))) ?_
      refine z_brn (fun Q => x_if_ne (dA d_M_goesOn 93 rfl) rfl (inR_lgI _ _)) (fun c15 => ?_) (fun c15 => ?_)
      · refine z_go (fun Q hq => x_iconst (dA d_M_goesOn 94 rfl) (x_goto (dA d_M_goesOn 95 rfl) rfl hq)) ?_
        exact S_M_goesOn_182 hd  L rv4 rv5 (inR_lit (1 : Int) rfl)
      · refine z_go (fun Q hq => x_iconst (dA d_M_goesOn 96 rfl) hq) ?_
        exact S_M_goesOn_182 hd  L rv4 rv5 (inR_lit (0 : Int) rfl)
    · refine z_go (fun Q hq => x_iconst (dA d_M_goesOn 82 rfl) hq) ?_
      exact z_retz (dA d_M_goesOn 83 rfl) rfl (.inl rfl)
noncomputable def F_M_goesOn_127 (v4 : Int) (v5 : Int) (s1 : Int) (h : MH) : RS Int := gd (p01 s1) (bnd (F_M_need s1 (9 : Int) h) fun x19 h17 => if x19 = 0 then F_M_goesOn_145 v4 v5 h17 else gd (inR ((mGi h17 107 50) - (1 : Int))) (sto (mPi h17 107 50 ((mGi h17 107 50) - (1 : Int))) fun h24 => F_M_goesOn_145 v4 v5 h24))
theorem S_M_goesOn_127 {d : Nat} (hd : 4 ≤ d) {v4 : Int} {v5 : Int} {s1 : Int} {h : MH} (L : LayC h) (rv4 : inR v4) (rv5 : inR v5) (rs1 : inR s1) : OK d k_M_goesOn 127 [mR 107, mN, mN, mN, mI v4, mI v5, mN] [mI s1, mR 107] h cI p01 (F_M_goesOn_127  v4 v5 s1 h) := by
  unfold F_M_goesOn_127
  refine z_go (fun Q hq => x_bipush (dA d_M_goesOn 67 rfl) (by decide) hq) ?_
  refine z_gd (fun g16 => ?_)
  refine z_bnd (rest := []) (st1 := fun v => mI v :: []) (S_M_need (d := 1) (Nat.le_refl _) L g16 (inR_lit (9 : Int) rfl)) (fun _ hx => absurd hx List.not_mem_nil) (fun _ => rfl) (fun Q' Q => x_callV (as := [mI s1, mI (9 : Int)]) (rest := []) (k' := k_M_need) (dA d_M_goesOn 68 rfl) o_M_need lk_M_181 im_M_need se_M_need rfl (L.sh (x := (12, 66)) rfl) (by decide) (Nat.le_of_ble_eq_true rfl) (Nat.le_trans (Nat.le_of_ble_eq_true rfl) hd) (Nat.le_of_ble_eq_true rfl)) (fun x19 h17 e18 p20 => ?_)
  have L21 := L.ext e18
  refine z_br (fun Q => x_if_eq (dA d_M_goesOn 69 rfl) rfl p20.inR) (fun c22 => ?_) (fun c22 => ?_)
  · exact S_M_goesOn_145 hd  L21 rv4 rv5
  · refine z_go (fun Q hq => x_aload_n (dA d_M_goesOn 70 rfl) rfl rfl (x_dup (dA d_M_goesOn 71 rfl) rfl (x_getI (dA d_M_goesOn 72 rfl) f_M_449 (L21.sh (x := (12, 66)) rfl) (by decide) (by decide) rfl (x_iconst (dA d_M_goesOn 73 rfl) hq)))) ?_
    refine z_gd (fun g23 => ?_)
    refine z_go (fun Q hq => x_isub (dA d_M_goesOn 74 rfl) hq) ?_
    refine z_sto (Ext.pi (L21.sh (x := (12, 66)) rfl) (by decide) g23) (fun Q hq => x_putI (dA d_M_goesOn 75 rfl) p_M_449 (L21.sh (x := (12, 66)) rfl) (by decide) cl_M rfl hq) (fun h24 e25 => ?_)
    have L26 := L21.ext e25
    exact S_M_goesOn_145 hd  L26 rv4 rv5
noncomputable def F_M_goesOn_104 (v4 : Int) (v5 : Int) (s1 : Int) (h : MH) : RS Int := bnd (F_M_reduceTo s1 h) fun x29 h27 => if v4 = (41 : Int) then if (mGi h27 107 50) ≤ 0 then F_M_goesOn_127 v4 v5 (0 : Int) h27 else F_M_goesOn_127 v4 v5 (1 : Int) h27 else F_M_goesOn_145 v4 v5 h27
theorem S_M_goesOn_104 {d : Nat} (hd : 4 ≤ d) {v4 : Int} {v5 : Int} {s1 : Int} {h : MH} (L : LayC h) (rv4 : inR v4) (rv5 : inR v5) (rs1 : inR s1) : OK d k_M_goesOn 104 [mR 107, mN, mN, mN, mI v4, mI v5, mN] [mI s1, mR 107] h cI p01 (F_M_goesOn_104  v4 v5 s1 h) := by
  unfold F_M_goesOn_104
  refine z_bnd (rest := []) (st1 := fun _ => []) (S_M_reduceTo (d := 3) (Nat.le_refl _) L rs1) (fun _ hx => absurd hx List.not_mem_nil) (fun _ => rfl) (fun Q' Q => x_callV (as := [mI s1]) (rest := []) (k' := k_M_reduceTo) (dA d_M_goesOn 56 rfl) o_M_reduceTo lk_M_482 im_M_reduceTo se_M_reduceTo rfl (L.sh (x := (12, 66)) rfl) (by decide) (Nat.le_of_ble_eq_true rfl) (Nat.le_trans (Nat.le_of_ble_eq_true rfl) hd) (Nat.le_of_ble_eq_true rfl)) (fun x29 h27 e28 p30 => ?_)
  have L31 := L.ext e28
  refine z_go (fun Q hq => x_iload (dA d_M_goesOn 57 rfl) rfl (x_bipush (dA d_M_goesOn 58 rfl) (by decide) hq)) ?_
  refine z_brn (fun Q => x_icmp_ne (dA d_M_goesOn 59 rfl) rfl rv4 (inR_lit (41 : Int) rfl)) (fun c32 => ?_) (fun c32 => ?_)
  · refine z_go (fun Q hq => x_aload_n (dA d_M_goesOn 60 rfl) rfl rfl (x_aload_n (dA d_M_goesOn 61 rfl) rfl rfl (x_getI (dA d_M_goesOn 62 rfl) f_M_449 (L31.sh (x := (12, 66)) rfl) (by decide) (by decide) rfl hq))) ?_
    refine z_br (fun Q => x_if_le (dA d_M_goesOn 63 rfl) rfl (L31.rg _ _)) (fun c33 => ?_) (fun c33 => ?_)
    · refine z_go (fun Q hq => x_iconst (dA d_M_goesOn 66 rfl) hq) ?_
      exact S_M_goesOn_127 hd  L31 rv4 rv5 (inR_lit (0 : Int) rfl)
    · refine z_go (fun Q hq => x_iconst (dA d_M_goesOn 64 rfl) (x_goto (dA d_M_goesOn 65 rfl) rfl hq)) ?_
      exact S_M_goesOn_127 hd  L31 rv4 rv5 (inR_lit (1 : Int) rfl)
  · exact S_M_goesOn_145 hd  L31 rv4 rv5
noncomputable def F_M_goesOn_80 (v4 : Int) (v5 : Int) (s1 : Int) (h : MH) : RS Int := gd (p01 s1) (bnd (F_M_need s1 (9 : Int) h) fun x37 h35 => if x37 = 0 then some (.inl (0 : Int), h35) else if v4 = (41 : Int) then F_M_goesOn_104 v4 v5 (1 : Int) h35 else F_M_goesOn_104 v4 v5 v5 h35)
theorem S_M_goesOn_80 {d : Nat} (hd : 4 ≤ d) {v4 : Int} {v5 : Int} {s1 : Int} {h : MH} (L : LayC h) (rv4 : inR v4) (rv5 : inR v5) (rs1 : inR s1) : OK d k_M_goesOn 80 [mR 107, mN, mN, mN, mI v4, mI v5, mN] [mI s1, mR 107] h cI p01 (F_M_goesOn_80  v4 v5 s1 h) := by
  unfold F_M_goesOn_80
  refine z_go (fun Q hq => x_bipush (dA d_M_goesOn 44 rfl) (by decide) hq) ?_
  refine z_gd (fun g34 => ?_)
  refine z_bnd (rest := []) (st1 := fun v => mI v :: []) (S_M_need (d := 1) (Nat.le_refl _) L g34 (inR_lit (9 : Int) rfl)) (fun _ hx => absurd hx List.not_mem_nil) (fun _ => rfl) (fun Q' Q => x_callV (as := [mI s1, mI (9 : Int)]) (rest := []) (k' := k_M_need) (dA d_M_goesOn 45 rfl) o_M_need lk_M_181 im_M_need se_M_need rfl (L.sh (x := (12, 66)) rfl) (by decide) (Nat.le_of_ble_eq_true rfl) (Nat.le_trans (Nat.le_of_ble_eq_true rfl) hd) (Nat.le_of_ble_eq_true rfl)) (fun x37 h35 e36 p38 => ?_)
  have L39 := L.ext e36
  refine z_brn (fun Q => x_if_ne (dA d_M_goesOn 46 rfl) rfl p38.inR) (fun c40 => ?_) (fun c40 => ?_)
  · refine z_go (fun Q hq => x_iconst (dA d_M_goesOn 47 rfl) hq) ?_
    exact z_retz (dA d_M_goesOn 48 rfl) rfl (.inl rfl)
  · refine z_go (fun Q hq => x_aload_n (dA d_M_goesOn 49 rfl) rfl rfl (x_iload (dA d_M_goesOn 50 rfl) rfl (x_bipush (dA d_M_goesOn 51 rfl) (by decide) hq))) ?_
    refine z_brn (fun Q => x_icmp_ne (dA d_M_goesOn 52 rfl) rfl rv4 (inR_lit (41 : Int) rfl)) (fun c41 => ?_) (fun c41 => ?_)
    · refine z_go (fun Q hq => x_iconst (dA d_M_goesOn 53 rfl) (x_goto (dA d_M_goesOn 54 rfl) rfl hq)) ?_
      exact S_M_goesOn_104 hd  L39 rv4 rv5 (inR_lit (1 : Int) rfl)
    · refine z_go (fun Q hq => x_iload (dA d_M_goesOn 55 rfl) rfl hq) ?_
      exact S_M_goesOn_104 hd  L39 rv4 rv5 rv5
noncomputable def F_M_goesOn_75 (v4 : Int) (v5 : Int) (h : MH) : RS Int := F_M_goesOn_80 v4 v5 (1 : Int) h
theorem S_M_goesOn_75 {d : Nat} (hd : 4 ≤ d) {v4 : Int} {v5 : Int} {h : MH} (L : LayC h) (rv4 : inR v4) (rv5 : inR v5) : OK d k_M_goesOn 75 [mR 107, mN, mN, mN, mI v4, mI v5, mN] [mR 107] h cI p01 (F_M_goesOn_75  v4 v5 h) := by
  unfold F_M_goesOn_75
  refine z_go (fun Q hq => x_iconst (dA d_M_goesOn 41 rfl) (x_goto (dA d_M_goesOn 42 rfl) rfl hq)) ?_
  exact S_M_goesOn_80 hd  L rv4 rv5 (inR_lit (1 : Int) rfl)
noncomputable def F_M_goesOn_53 (s0 : Int) (h : MH) : RS Int := bnd (F_M_strength s0 h) fun x44 h42 => if s0 = (41 : Int) then F_M_goesOn_75 s0 x44 h42 else if x44 ≤ 0 then F_M_goesOn_80 s0 x44 (0 : Int) h42 else F_M_goesOn_75 s0 x44 h42
theorem S_M_goesOn_53 {d : Nat} (hd : 4 ≤ d) {s0 : Int} {h : MH} (L : LayC h) (rs0 : inR s0) : OK d k_M_goesOn 53 [mR 107, mN, mN, mN, mN, mN, mN] [mI s0] h cI p01 (F_M_goesOn_53  s0 h) := by
  unfold F_M_goesOn_53
  refine z_go (fun Q hq => x_istore (dA d_M_goesOn 31 rfl) (by decide) rfl (x_iload (dA d_M_goesOn 32 rfl) rfl hq)) ?_
  refine z_bnd (rest := []) (st1 := fun v => mI v :: []) (S_M_strength (d := 0) (Nat.le_refl _) L rs0) (fun _ hx => absurd hx List.not_mem_nil) (fun _ => rfl) (fun Q' Q => x_callS (as := [mI s0]) (rest := []) (k' := k_M_strength) (dA d_M_goesOn 33 rfl) o_M_strength lk_M_467 st_M_strength (Nat.le_of_ble_eq_true rfl) (Nat.le_trans (Nat.le_of_ble_eq_true rfl) hd) (Nat.le_of_ble_eq_true rfl)) (fun x44 h42 e43 p45 => ?_)
  have L46 := L.ext e43
  refine z_go (fun Q hq => x_istore (dA d_M_goesOn 34 rfl) (by decide) rfl (x_aload_n (dA d_M_goesOn 35 rfl) rfl rfl (x_iload (dA d_M_goesOn 36 rfl) rfl (x_bipush (dA d_M_goesOn 37 rfl) (by decide) hq)))) ?_
  refine z_br (fun Q => x_icmp_eq (dA d_M_goesOn 38 rfl) rfl rs0 (inR_lit (41 : Int) rfl)) (fun c47 => ?_) (fun c47 => ?_)
  · exact S_M_goesOn_75 hd  L46 rs0 p45
  · refine z_go (fun Q hq => x_iload (dA d_M_goesOn 39 rfl) rfl hq) ?_
    refine z_br (fun Q => x_if_le (dA d_M_goesOn 40 rfl) rfl p45) (fun c48 => ?_) (fun c48 => ?_)
    · refine z_go (fun Q hq => x_iconst (dA d_M_goesOn 43 rfl) hq) ?_
      exact S_M_goesOn_80 hd  L46 rs0 p45 (inR_lit (0 : Int) rfl)
    · exact S_M_goesOn_75 hd  L46 rs0 p45
noncomputable def F_M_goesOn (a1 : Int64) (h : MH) : RS Int := bnd (F_M_placeOf a1 h) fun x51 h49 => bnd (F_M_kindOf a1 h49) fun x56 h54 => if x56 = (4 : Int) then bnd (F_M_sizeOf a1 h54) fun x62 h60 => if x62 = (2 : Int) then gd (0 ≤ x51 ∧ x51 < 1302) (gd (inR (x51 + (1 : Int))) (gd (0 ≤ (x51 + (1 : Int)) ∧ (x51 + (1 : Int)) < 1302) (gd (inR ((256 : Int) * (mGi h60 121 (x51 + (1 : Int)).toNat))) (gd (inR ((mGi h60 121 x51.toNat) + ((256 : Int) * (mGi h60 121 (x51 + (1 : Int)).toNat)))) (F_M_goesOn_53 ((mGi h60 121 x51.toNat) + ((256 : Int) * (mGi h60 121 (x51 + (1 : Int)).toNat))) h60))))) else gd (0 ≤ x51 ∧ x51 < 1302) (F_M_goesOn_53 (mGi h60 121 x51.toNat) h60) else F_M_goesOn_53 (0 : Int) h54
theorem S_M_goesOn {d : Nat} (hd : 4 ≤ d) {a1 : Int64} {h : MH} (L : LayC h) : OK d k_M_goesOn 0 [mR 107, mL a1, mN, mN, mN, mN, mN] [] h cI p01 (F_M_goesOn  a1 h) := by
  unfold F_M_goesOn
  refine z_go (fun Q hq => x_lload_n (dA d_M_goesOn 0 rfl) rfl rfl hq) ?_
  refine z_bnd (rest := []) (st1 := fun v => mI v :: []) (S_M_placeOf (d := 0) (Nat.le_refl _) L ) (fun _ hx => absurd hx List.not_mem_nil) (fun _ => rfl) (fun Q' Q => x_callS (as := [mL a1]) (rest := []) (k' := k_M_placeOf) (dA d_M_goesOn 1 rfl) o_M_placeOf lk_M_327 st_M_placeOf (Nat.le_of_ble_eq_true rfl) (Nat.le_trans (Nat.le_of_ble_eq_true rfl) hd) (Nat.le_of_ble_eq_true rfl)) (fun x51 h49 e50 p52 => ?_)
  have L53 := L.ext e50
  refine z_go (fun Q hq => x_istore_n (dA d_M_goesOn 2 rfl) rfl (by decide) rfl (x_lload_n (dA d_M_goesOn 3 rfl) rfl rfl hq)) ?_
  refine z_bnd (rest := []) (st1 := fun v => mI v :: []) (S_M_kindOf (d := 0) (Nat.le_refl _) L53 ) (fun _ hx => absurd hx List.not_mem_nil) (fun _ => rfl) (fun Q' Q => x_callS (as := [mL a1]) (rest := []) (k' := k_M_kindOf) (dA d_M_goesOn 4 rfl) o_M_kindOf lk_M_321 st_M_kindOf (Nat.le_of_ble_eq_true rfl) (Nat.le_trans (Nat.le_of_ble_eq_true rfl) hd) (Nat.le_of_ble_eq_true rfl)) (fun x56 h54 e55 p57 => ?_)
  have L58 := L53.ext e55
  refine z_go (fun Q hq => x_iconst (dA d_M_goesOn 5 rfl) hq) ?_
  refine z_br (fun Q => x_icmp_eq (dA d_M_goesOn 6 rfl) rfl p57 (inR_lit (4 : Int) rfl)) (fun c59 => ?_) (fun c59 => ?_)
  · refine z_go (fun Q hq => x_lload_n (dA d_M_goesOn 9 rfl) rfl rfl hq) ?_
    refine z_bnd (rest := []) (st1 := fun v => mI v :: []) (S_M_sizeOf (d := 0) (Nat.le_refl _) L58 ) (fun _ hx => absurd hx List.not_mem_nil) (fun _ => rfl) (fun Q' Q => x_callS (as := [mL a1]) (rest := []) (k' := k_M_sizeOf) (dA d_M_goesOn 10 rfl) o_M_sizeOf lk_M_324 st_M_sizeOf (Nat.le_of_ble_eq_true rfl) (Nat.le_trans (Nat.le_of_ble_eq_true rfl) hd) (Nat.le_of_ble_eq_true rfl)) (fun x62 h60 e61 p63 => ?_)
    have L64 := L58.ext e61
    refine z_go (fun Q hq => x_iconst (dA d_M_goesOn 11 rfl) hq) ?_
    refine z_brn (fun Q => x_icmp_ne (dA d_M_goesOn 12 rfl) rfl p63 (inR_lit (2 : Int) rfl)) (fun c65 => ?_) (fun c65 => ?_)
    · refine z_go (fun Q hq => x_aload_n (dA d_M_goesOn 13 rfl) rfl rfl (x_getR (dA d_M_goesOn 14 rfl) f_M_51 (L64.sh (x := (12, 66)) rfl) (by decide) (by decide) rfl (L64.rf 122 rfl) (x_iload_n (dA d_M_goesOn 15 rfl) rfl rfl hq))) ?_
      refine z_gd (fun g66 => ?_)
      refine z_go (fun Q hq => x_cald (dA d_M_goesOn 16 rfl) (L64.sh (x := (101, 1302)) rfl) g66.1 g66.2 (by decide) (x_sipush (dA d_M_goesOn 17 rfl) (by decide) (x_aload_n (dA d_M_goesOn 18 rfl) rfl rfl (x_getR (dA d_M_goesOn 19 rfl) f_M_51 (L64.sh (x := (12, 66)) rfl) (by decide) (by decide) rfl (L64.rf 122 rfl) (x_iload_n (dA d_M_goesOn 20 rfl) rfl rfl (x_iconst (dA d_M_goesOn 21 rfl) hq)))))) ?_
      refine z_gd (fun g67 => ?_)
      refine z_go (fun Q hq => x_iadd (dA d_M_goesOn 22 rfl) hq) ?_
      refine z_gd (fun g68 => ?_)
      refine z_go (fun Q hq => x_cald (dA d_M_goesOn 23 rfl) (L64.sh (x := (101, 1302)) rfl) g68.1 g68.2 (by decide) hq) ?_
      refine z_gd (fun g69 => ?_)
      refine z_go (fun Q hq => x_imul (dA d_M_goesOn 24 rfl) hq) ?_
      refine z_gd (fun g70 => ?_)
      refine z_go (fun Q hq => x_iadd (dA d_M_goesOn 25 rfl) (x_goto (dA d_M_goesOn 26 rfl) rfl hq)) ?_
      refine z_fgt (ls' := [mR 107, mN, mN, mN, mN, mN, mN]) ⟨.inr rfl, .inl rfl, .inl rfl, .inl rfl, .inl rfl, .inl rfl, .inl rfl, trivial⟩ ?_
      exact S_M_goesOn_53 hd  L64 g70
    · refine z_go (fun Q hq => x_aload_n (dA d_M_goesOn 27 rfl) rfl rfl (x_getR (dA d_M_goesOn 28 rfl) f_M_51 (L64.sh (x := (12, 66)) rfl) (by decide) (by decide) rfl (L64.rf 122 rfl) (x_iload_n (dA d_M_goesOn 29 rfl) rfl rfl hq))) ?_
      refine z_gd (fun g71 => ?_)
      refine z_go (fun Q hq => x_cald (dA d_M_goesOn 30 rfl) (L64.sh (x := (101, 1302)) rfl) g71.1 g71.2 (by decide) hq) ?_
      refine z_fgt (ls' := [mR 107, mN, mN, mN, mN, mN, mN]) ⟨.inr rfl, .inl rfl, .inl rfl, .inl rfl, .inl rfl, .inl rfl, .inl rfl, trivial⟩ ?_
      exact S_M_goesOn_53 hd  L64 (L64.rg _ _)
  · refine z_go (fun Q hq => x_iconst (dA d_M_goesOn 7 rfl) (x_goto (dA d_M_goesOn 8 rfl) rfl hq)) ?_
    refine z_fgt (ls' := [mR 107, mN, mN, mN, mN, mN, mN]) ⟨.inr rfl, .inl rfl, .inl rfl, .inl rfl, .inl rfl, .inl rfl, .inl rfl, trivial⟩ ?_
    exact S_M_goesOn_53 hd  L58 (inR_lit (0 : Int) rfl)
/-! TwoMillsModel.evaluate()J -/
noncomputable def F_M_evaluate_108 (s1 : Int) (h : MH) : RS Int64 := gd (p01 s1) (bnd (F_M_need s1 (9 : Int) h) fun x4 h2 => if x4 = 0 then some (.inl (0 : Int64), h2) else gd (0 ≤ (0 : Int) ∧ (0 : Int) < 120) (some (.inl (mGl h2 139 (0 : Int).toNat), h2)))
theorem S_M_evaluate_108 {d : Nat} (hd : 5 ≤ d) {s1 : Int} {h : MH} (L : LayC h) (rs1 : inR s1) : OK d k_M_evaluate 108 [mR 107, mN, mN] [mI s1, mR 107] h cJ pT (F_M_evaluate_108  s1 h) := by
  unfold F_M_evaluate_108
  refine z_go (fun Q hq => x_bipush (dA d_M_evaluate 61 rfl) (by decide) hq) ?_
  refine z_gd (fun g1 => ?_)
  refine z_bnd (rest := []) (st1 := fun v => mI v :: []) (S_M_need (d := 1) (Nat.le_refl _) L g1 (inR_lit (9 : Int) rfl)) (fun _ hx => absurd hx List.not_mem_nil) (fun _ => rfl) (fun Q' Q => x_callV (as := [mI s1, mI (9 : Int)]) (rest := []) (k' := k_M_need) (dA d_M_evaluate 62 rfl) o_M_need lk_M_181 im_M_need se_M_need rfl (L.sh (x := (12, 66)) rfl) (by decide) (Nat.le_of_ble_eq_true rfl) (Nat.le_trans (Nat.le_of_ble_eq_true rfl) hd) (Nat.le_of_ble_eq_true rfl)) (fun x4 h2 e3 p5 => ?_)
  have L6 := L.ext e3
  refine z_br (fun Q => x_if_eq (dA d_M_evaluate 63 rfl) rfl p5.inR) (fun c7 => ?_) (fun c7 => ?_)
  · refine z_go (fun Q hq => x_lconst (v := 0) (dA d_M_evaluate 69 rfl) rfl hq) ?_
    exact z_retj (dA d_M_evaluate 70 rfl) rfl
  · refine z_go (fun Q hq => x_aload_n (dA d_M_evaluate 64 rfl) rfl rfl (x_getR (dA d_M_evaluate 65 rfl) f_M_106 (L6.sh (x := (12, 66)) rfl) (by decide) (by decide) rfl (L6.rf 140 rfl) (x_iconst (dA d_M_evaluate 66 rfl) hq))) ?_
    refine z_gd (fun g8 => ?_)
    refine z_go (fun Q hq => x_lald (dA d_M_evaluate 67 rfl) (L6.sh (x := (103, 120)) rfl) g8.1 g8.2 (by decide) (x_goto (dA d_M_evaluate 68 rfl) rfl hq)) ?_
    exact z_retj (dA d_M_evaluate 70 rfl) rfl
noncomputable def F_M_evaluate_80 (s1 : Int) (h : MH) : RS Int64 := gd (p01 s1) (bnd (F_M_need s1 (9 : Int) h) fun x12 h10 => if x12 = 0 then some (.inl (0 : Int64), h10) else bnd (F_M_reduceTo (1 : Int) h10) fun x18 h16 => if (mGi h16 107 50) = 0 then F_M_evaluate_108 (1 : Int) h16 else F_M_evaluate_108 (0 : Int) h16)
theorem S_M_evaluate_80 {d : Nat} (hd : 5 ≤ d) {s1 : Int} {h : MH} (L : LayC h) (rs1 : inR s1) : OK d k_M_evaluate 80 [mR 107, mN, mN] [mI s1, mR 107] h cJ pT (F_M_evaluate_80  s1 h) := by
  unfold F_M_evaluate_80
  refine z_go (fun Q hq => x_bipush (dA d_M_evaluate 46 rfl) (by decide) hq) ?_
  refine z_gd (fun g9 => ?_)
  refine z_bnd (rest := []) (st1 := fun v => mI v :: []) (S_M_need (d := 1) (Nat.le_refl _) L g9 (inR_lit (9 : Int) rfl)) (fun _ hx => absurd hx List.not_mem_nil) (fun _ => rfl) (fun Q' Q => x_callV (as := [mI s1, mI (9 : Int)]) (rest := []) (k' := k_M_need) (dA d_M_evaluate 47 rfl) o_M_need lk_M_181 im_M_need se_M_need rfl (L.sh (x := (12, 66)) rfl) (by decide) (Nat.le_of_ble_eq_true rfl) (Nat.le_trans (Nat.le_of_ble_eq_true rfl) hd) (Nat.le_of_ble_eq_true rfl)) (fun x12 h10 e11 p13 => ?_)
  have L14 := L.ext e11
  refine z_brn (fun Q => x_if_ne (dA d_M_evaluate 48 rfl) rfl p13.inR) (fun c15 => ?_) (fun c15 => ?_)
  · refine z_go (fun Q hq => x_lconst (v := 0) (dA d_M_evaluate 49 rfl) rfl hq) ?_
    exact z_retj (dA d_M_evaluate 50 rfl) rfl
  · refine z_go (fun Q hq => x_aload_n (dA d_M_evaluate 51 rfl) rfl rfl (x_iconst (dA d_M_evaluate 52 rfl) hq)) ?_
    refine z_bnd (rest := []) (st1 := fun _ => []) (S_M_reduceTo (d := 3) (Nat.le_refl _) L14 (inR_lit (1 : Int) rfl)) (fun _ hx => absurd hx List.not_mem_nil) (fun _ => rfl) (fun Q' Q => x_callV (as := [mI (1 : Int)]) (rest := []) (k' := k_M_reduceTo) (dA d_M_evaluate 53 rfl) o_M_reduceTo lk_M_482 im_M_reduceTo se_M_reduceTo rfl (L14.sh (x := (12, 66)) rfl) (by decide) (Nat.le_of_ble_eq_true rfl) (Nat.le_trans (Nat.le_of_ble_eq_true rfl) hd) (Nat.le_of_ble_eq_true rfl)) (fun x18 h16 e17 p19 => ?_)
    have L20 := L14.ext e17
    refine z_go (fun Q hq => x_aload_n (dA d_M_evaluate 54 rfl) rfl rfl (x_aload_n (dA d_M_evaluate 55 rfl) rfl rfl (x_getI (dA d_M_evaluate 56 rfl) f_M_449 (L20.sh (x := (12, 66)) rfl) (by decide) (by decide) rfl hq))) ?_
    refine z_brn (fun Q => x_if_ne (dA d_M_evaluate 57 rfl) rfl (L20.rg _ _)) (fun c21 => ?_) (fun c21 => ?_)
    · refine z_go (fun Q hq => x_iconst (dA d_M_evaluate 58 rfl) (x_goto (dA d_M_evaluate 59 rfl) rfl hq)) ?_
      exact S_M_evaluate_108 hd  L20 (inR_lit (1 : Int) rfl)
    · refine z_go (fun Q hq => x_iconst (dA d_M_evaluate 60 rfl) hq) ?_
      exact S_M_evaluate_108 hd  L20 (inR_lit (0 : Int) rfl)
noncomputable def F_M_evaluate_70 (v1 : Int) (h : MH) : RS Int64 := if v1 = 0 then F_M_evaluate_80 (1 : Int) h else F_M_evaluate_80 (0 : Int) h
theorem S_M_evaluate_70 {d : Nat} (hd : 5 ≤ d) {v1 : Int} {h : MH} (L : LayC h) (rv1 : inR v1) : OK d k_M_evaluate 70 [mR 107, mI v1, mN] [] h cJ pT (F_M_evaluate_70  v1 h) := by
  unfold F_M_evaluate_70
  refine z_go (fun Q hq => x_aload_n (dA d_M_evaluate 40 rfl) rfl rfl (x_iload_n (dA d_M_evaluate 41 rfl) rfl rfl hq)) ?_
  refine z_brn (fun Q => x_if_ne (dA d_M_evaluate 42 rfl) rfl rv1) (fun c22 => ?_) (fun c22 => ?_)
  · refine z_go (fun Q hq => x_iconst (dA d_M_evaluate 43 rfl) (x_goto (dA d_M_evaluate 44 rfl) rfl hq)) ?_
    refine z_fgt (ls' := [mR 107, mN, mN]) ⟨.inr rfl, .inl rfl, .inl rfl, trivial⟩ ?_
    exact S_M_evaluate_80 hd  L (inR_lit (1 : Int) rfl)
  · refine z_go (fun Q hq => x_iconst (dA d_M_evaluate 45 rfl) hq) ?_
    refine z_fgt (ls' := [mR 107, mN, mN]) ⟨.inr rfl, .inl rfl, .inl rfl, trivial⟩ ?_
    exact S_M_evaluate_80 hd  L (inR_lit (0 : Int) rfl)
noncomputable def F_M_evaluate_63 (G19 : Int → Int → MH → RS Int64) (v2 : Int) (s0 : Int) (h : MH) : RS Int64 := gd (inR (v2 + (1 : Int))) (G19 s0 (v2 + (1 : Int)) h)
theorem S_M_evaluate_63 {d : Nat} (hd : 5 ≤ d) {G19 : Int → Int → MH → RS Int64} (hG19 : ∀ (v1 : Int) (v2 : Int) (h : MH), LayC h → inR v1 → inR v2 → OK d k_M_evaluate 19 [mR 107, mI v1, mI v2] [] h cJ pT (G19 v1 v2 h)) {v2 : Int} {s0 : Int} {h : MH} (L : LayC h) (rv2 : inR v2) (rs0 : inR s0) : OK d k_M_evaluate 63 [mR 107, mN, mI v2] [mI s0] h cJ pT (F_M_evaluate_63 G19 v2 s0 h) := by
  unfold F_M_evaluate_63
  refine z_go (fun Q hq => x_istore_n (dA d_M_evaluate 37 rfl) rfl (by decide) rfl hq) ?_
  refine z_gd (fun g23 => ?_)
  refine z_go (fun Q hq => x_iinc (dA d_M_evaluate 38 rfl) rfl (by decide) rfl (x_goto (dA d_M_evaluate 39 rfl) rfl hq)) ?_
  exact hG19 s0 (v2 + (1 : Int)) h L rs0 g23
noncomputable def F_M_evaluate_19_b (G19 : Int → Int → MH → RS Int64) (v1 : Int) (v2 : Int) (h : MH) : RS Int64 := gd (0 ≤ (0 : Int) ∧ (0 : Int) < 8) (if (mGi h 141 (0 : Int).toNat) ≤ v2 then F_M_evaluate_70 v1 h else if (mGi h 107 1) = 0 then if v1 = 0 then gd (0 ≤ v2 ∧ v2 < 800) (bnd (F_M_goesOn (mGl h 136 v2.toNat) h) fun x31 h29 => F_M_evaluate_63 G19 v2 x31 h29) else gd (0 ≤ v2 ∧ v2 < 800) (bnd (F_M_begins (mGl h 136 v2.toNat) h) fun x37 h35 => F_M_evaluate_63 G19 v2 x37 h35) else F_M_evaluate_70 v1 h)
theorem S_M_evaluate_19_b {d : Nat} (hd : 5 ≤ d) {G19 : Int → Int → MH → RS Int64} (hG19 : ∀ (v1 : Int) (v2 : Int) (h : MH), LayC h → inR v1 → inR v2 → OK d k_M_evaluate 19 [mR 107, mI v1, mI v2] [] h cJ pT (G19 v1 v2 h)) {v1 : Int} {v2 : Int} {h : MH} (L : LayC h) (rv1 : inR v1) (rv2 : inR v2) : OK d k_M_evaluate 19 [mR 107, mI v1, mI v2] [] h cJ pT (F_M_evaluate_19_b G19 v1 v2 h) := by
  unfold F_M_evaluate_19_b
  refine z_go (fun Q hq => x_iload_n (dA d_M_evaluate 13 rfl) rfl rfl (x_aload_n (dA d_M_evaluate 14 rfl) rfl rfl (x_getR (dA d_M_evaluate 15 rfl) f_M_112 (L.sh (x := (12, 66)) rfl) (by decide) (by decide) rfl (L.rf 142 rfl) (x_iconst (dA d_M_evaluate 16 rfl) hq)))) ?_
  refine z_gd (fun g24 => ?_)
  refine z_go (fun Q hq => x_iald (dA d_M_evaluate 17 rfl) (L.sh (x := (100, 8)) rfl) g24.1 g24.2 (by decide) hq) ?_
  refine z_br (fun Q => x_icmp_ge (dA d_M_evaluate 18 rfl) rfl rv2 (L.rg _ _)) (fun c25 => ?_) (fun c25 => ?_)
  · refine z_fgt (ls' := [mR 107, mI v1, mN]) ⟨.inr rfl, .inr rfl, .inl rfl, trivial⟩ ?_
    exact S_M_evaluate_70 hd  L rv1
  · refine z_go (fun Q hq => x_aload_n (dA d_M_evaluate 19 rfl) rfl rfl (x_getI (dA d_M_evaluate 20 rfl) f_M_140 (L.sh (x := (12, 66)) rfl) (by decide) (by decide) rfl hq)) ?_
    refine z_brn (fun Q => x_if_ne (dA d_M_evaluate 21 rfl) rfl (L.rg _ _)) (fun c26 => ?_) (fun c26 => ?_)
    · refine z_go (fun Q hq => x_iload_n (dA d_M_evaluate 22 rfl) rfl rfl hq) ?_
      refine z_br (fun Q => x_if_eq (dA d_M_evaluate 23 rfl) rfl rv1) (fun c27 => ?_) (fun c27 => ?_)
      · refine z_go (fun Q hq => x_aload_n (dA d_M_evaluate 31 rfl) rfl rfl (x_aload_n (dA d_M_evaluate 32 rfl) rfl rfl (x_getR (dA d_M_evaluate 33 rfl) f_M_97 (L.sh (x := (12, 66)) rfl) (by decide) (by decide) rfl (L.rf 137 rfl) (x_iload_n (dA d_M_evaluate 34 rfl) rfl rfl hq)))) ?_
        refine z_gd (fun g28 => ?_)
        refine z_go (fun Q hq => x_lald (dA d_M_evaluate 35 rfl) (L.sh (x := (103, 800)) rfl) g28.1 g28.2 (by decide) hq) ?_
        refine z_bnd (rest := []) (st1 := fun v => mI v :: []) (S_M_goesOn (d := 4) (Nat.le_refl _) L ) (fun _ hx => absurd hx List.not_mem_nil) (fun _ => rfl) (fun Q' Q => x_callV (as := [mL (mGl h 136 v2.toNat)]) (rest := []) (k' := k_M_goesOn) (dA d_M_evaluate 36 rfl) o_M_goesOn lk_M_488 im_M_goesOn se_M_goesOn rfl (L.sh (x := (12, 66)) rfl) (by decide) (Nat.le_of_ble_eq_true rfl) (Nat.le_trans (Nat.le_of_ble_eq_true rfl) hd) (Nat.le_of_ble_eq_true rfl)) (fun x31 h29 e30 p32 => ?_)
        have L33 := L.ext e30
        refine z_fgt (ls' := [mR 107, mN, mI v2]) ⟨.inr rfl, .inl rfl, .inr rfl, trivial⟩ ?_
        exact S_M_evaluate_63 hd hG19 L33 rv2 p32.inR
      · refine z_go (fun Q hq => x_aload_n (dA d_M_evaluate 24 rfl) rfl rfl (x_aload_n (dA d_M_evaluate 25 rfl) rfl rfl (x_getR (dA d_M_evaluate 26 rfl) f_M_97 (L.sh (x := (12, 66)) rfl) (by decide) (by decide) rfl (L.rf 137 rfl) (x_iload_n (dA d_M_evaluate 27 rfl) rfl rfl hq)))) ?_
        refine z_gd (fun g34 => ?_)
        refine z_go (fun Q hq => x_lald (dA d_M_evaluate 28 rfl) (L.sh (x := (103, 800)) rfl) g34.1 g34.2 (by decide) hq) ?_
        refine z_bnd (rest := []) (st1 := fun v => mI v :: []) (S_M_begins (d := 2) (Nat.le_refl _) L ) (fun _ hx => absurd hx List.not_mem_nil) (fun _ => rfl) (fun Q' Q => x_callV (as := [mL (mGl h 136 v2.toNat)]) (rest := []) (k' := k_M_begins) (dA d_M_evaluate 29 rfl) o_M_begins lk_M_485 im_M_begins se_M_begins rfl (L.sh (x := (12, 66)) rfl) (by decide) (Nat.le_of_ble_eq_true rfl) (Nat.le_trans (Nat.le_of_ble_eq_true rfl) hd) (Nat.le_of_ble_eq_true rfl)) (fun x37 h35 e36 p38 => ?_)
        have L39 := L.ext e36
        refine z_go (fun Q hq => x_goto (dA d_M_evaluate 30 rfl) rfl hq) ?_
        refine z_fgt (ls' := [mR 107, mN, mI v2]) ⟨.inr rfl, .inl rfl, .inr rfl, trivial⟩ ?_
        exact S_M_evaluate_63 hd hG19 L39 rv2 p38.inR
    · refine z_fgt (ls' := [mR 107, mI v1, mN]) ⟨.inr rfl, .inr rfl, .inl rfl, trivial⟩ ?_
      exact S_M_evaluate_70 hd  L rv1
noncomputable def F_M_evaluate_19 (v1 : Int) (v2 : Int) (h : MH) : RS Int64 := itr (fun self (q : Int × Int × MH) => F_M_evaluate_19_b (fun v1 v2 h => self (v1, v2, h)) q.1 q.2.1 q.2.2) FU (v1, v2, h)
theorem S_M_evaluate_19 {d : Nat} (hd : 5 ≤ d) {v1 : Int} {v2 : Int} {h : MH} (L : LayC h) (rv1 : inR v1) (rv2 : inR v2) : OK d k_M_evaluate 19 [mR 107, mI v1, mI v2] [] h cJ pT (F_M_evaluate_19  v1 v2 h) := by
  unfold F_M_evaluate_19
  refine z_itr (P := fun q : Int × Int × MH => LayC q.2.2 ∧ inR q.1 ∧ inR q.2.1 ∧ True) (ls := fun q : Int × Int × MH => [mR 107, mI q.1, mI q.2.1]) (hp := fun q : Int × Int × MH => q.2.2) (fun self hs q hq => ?_) FU (v1, v2, h) ⟨L, rv1, rv2, trivial⟩
  exact S_M_evaluate_19_b hd (fun v1 v2 h L rv1 rv2 => hs (v1, v2, h) ⟨L, rv1, rv2, trivial⟩) hq.1 hq.2.1 hq.2.2.1
noncomputable def F_M_evaluate (h : MH) : RS Int64 := sto (mPi h 107 49 (0 : Int)) fun h40 => sto (mPi h40 107 50 (0 : Int)) fun h43 => sto (mPi h43 107 51 (0 : Int)) fun h46 => F_M_evaluate_19 (1 : Int) (0 : Int) h46
theorem S_M_evaluate {d : Nat} (hd : 5 ≤ d) {h : MH} (L : LayC h) : OK d k_M_evaluate 0 [mR 107, mN, mN] [] h cJ pT (F_M_evaluate   h) := by
  unfold F_M_evaluate
  refine z_go (fun Q hq => x_aload_n (dA d_M_evaluate 0 rfl) rfl rfl (x_iconst (dA d_M_evaluate 1 rfl) hq)) ?_
  refine z_sto (Ext.pi (L.sh (x := (12, 66)) rfl) (by decide) (inR_lit (0 : Int) rfl)) (fun Q hq => x_putI (dA d_M_evaluate 2 rfl) p_M_455 (L.sh (x := (12, 66)) rfl) (by decide) cl_M rfl hq) (fun h40 e41 => ?_)
  have L42 := L.ext e41
  refine z_go (fun Q hq => x_aload_n (dA d_M_evaluate 3 rfl) rfl rfl (x_iconst (dA d_M_evaluate 4 rfl) hq)) ?_
  refine z_sto (Ext.pi (L42.sh (x := (12, 66)) rfl) (by decide) (inR_lit (0 : Int) rfl)) (fun Q hq => x_putI (dA d_M_evaluate 5 rfl) p_M_449 (L42.sh (x := (12, 66)) rfl) (by decide) cl_M rfl hq) (fun h43 e44 => ?_)
  have L45 := L42.ext e44
  refine z_go (fun Q hq => x_aload_n (dA d_M_evaluate 6 rfl) rfl rfl (x_iconst (dA d_M_evaluate 7 rfl) hq)) ?_
  refine z_sto (Ext.pi (L45.sh (x := (12, 66)) rfl) (by decide) (inR_lit (0 : Int) rfl)) (fun Q hq => x_putI (dA d_M_evaluate 8 rfl) p_M_452 (L45.sh (x := (12, 66)) rfl) (by decide) cl_M rfl hq) (fun h46 e47 => ?_)
  have L48 := L45.ext e47
  refine z_go (fun Q hq => x_iconst (dA d_M_evaluate 9 rfl) (x_istore_n (dA d_M_evaluate 10 rfl) rfl (by decide) rfl (x_iconst (dA d_M_evaluate 11 rfl) (x_istore_n (dA d_M_evaluate 12 rfl) rfl (by decide) rfl hq)))) ?_
  exact S_M_evaluate_19 hd  L48 (inR_lit (1 : Int) rfl) (inR_lit (0 : Int) rfl)
/-! TwoMillsModel.condition()Z -/
noncomputable def F_M_condition_202 (h : MH) : RS Int := some (.inl (0 : Int), h)
theorem S_M_condition_202 {d : Nat} (hd : 6 ≤ d) {h : MH} (L : LayC h) : OK d k_M_condition 202 [mN, mN, mN, mN, mN, mN, mN] [] h cI p01 (F_M_condition_202   h) := by
  unfold F_M_condition_202
  refine z_go (fun Q hq => x_iconst (dA d_M_condition 116 rfl) hq) ?_
  exact z_retz (dA d_M_condition 117 rfl) rfl (.inl rfl)
noncomputable def F_M_condition_164 (G4 : Int → Int → MH → RS Int) (v1 : Int) (v2 : Int) (v6 : Int) (s1 : Int) (s2 : Int64) (h : MH) : RS Int := gd (0 ≤ s1 ∧ s1 < 400) (sto (mPl h 123 s1.toNat s2) fun h2 => gd (inR (v2 + v6)) (gd (inR (v1 + (1 : Int))) (G4 (v1 + (1 : Int)) (v2 + v6) h2)))
theorem S_M_condition_164 {d : Nat} (hd : 6 ≤ d) {G4 : Int → Int → MH → RS Int} (hG4 : ∀ (v1 : Int) (v2 : Int) (h : MH), LayC h → inR v1 → inR v2 → OK d k_M_condition 4 [mR 107, mI v1, mI v2, mN, mN, mN, mN] [] h cI p01 (G4 v1 v2 h)) {v1 : Int} {v2 : Int} {v6 : Int} {s1 : Int} {s2 : Int64} {h : MH} (L : LayC h) (rv1 : inR v1) (rv2 : inR v2) (rv6 : inR v6) (rs1 : inR s1) : OK d k_M_condition 164 [mR 107, mI v1, mI v2, mN, mN, mN, mI v6] [mL s2, mI s1, mR 123] h cI p01 (F_M_condition_164 G4 v1 v2 v6 s1 s2 h) := by
  unfold F_M_condition_164
  refine z_gd (fun g1 => ?_)
  refine z_sto Ext.pl (fun Q hq => x_last (dA d_M_condition 95 rfl) (L.sh (x := (103, 400)) rfl) g1.1 g1.2 (by decide) hq) (fun h2 e3 => ?_)
  have L4 := L.ext e3
  refine z_go (fun Q hq => x_iload_n (dA d_M_condition 96 rfl) rfl rfl (x_iload (dA d_M_condition 97 rfl) rfl hq)) ?_
  refine z_gd (fun g5 => ?_)
  refine z_go (fun Q hq => x_iadd (dA d_M_condition 98 rfl) (x_istore_n (dA d_M_condition 99 rfl) rfl (by decide) rfl hq)) ?_
  refine z_gd (fun g6 => ?_)
  refine z_go (fun Q hq => x_iinc (dA d_M_condition 100 rfl) rfl (by decide) rfl (x_goto (dA d_M_condition 101 rfl) rfl hq)) ?_
  refine z_fgt (ls' := [mR 107, mI (v1 + (1 : Int)), mI (v2 + v6), mN, mN, mN, mN]) ⟨.inr rfl, .inr rfl, .inr rfl, .inl rfl, .inl rfl, .inl rfl, .inl rfl, trivial⟩ ?_
  exact hG4 (v1 + (1 : Int)) (v2 + v6) h2 L4 g6 g5
noncomputable def F_M_condition_149 (G4 : Int → Int → MH → RS Int) (v1 : Int) (v2 : Int) (v6 : Int) (s1 : Int) (s2 : Int) (h : MH) : RS Int := bnd (F_M_token s2 (1 : Int) (2 : Int) (0 : Int) h) fun x9 h7 => F_M_condition_164 G4 v1 v2 v6 s1 x9 h7
theorem S_M_condition_149 {d : Nat} (hd : 6 ≤ d) {G4 : Int → Int → MH → RS Int} (hG4 : ∀ (v1 : Int) (v2 : Int) (h : MH), LayC h → inR v1 → inR v2 → OK d k_M_condition 4 [mR 107, mI v1, mI v2, mN, mN, mN, mN] [] h cI p01 (G4 v1 v2 h)) {v1 : Int} {v2 : Int} {v6 : Int} {s1 : Int} {s2 : Int} {h : MH} (L : LayC h) (rv1 : inR v1) (rv2 : inR v2) (rv6 : inR v6) (rs1 : inR s1) (rs2 : inR s2) : OK d k_M_condition 149 [mR 107, mI v1, mI v2, mN, mN, mN, mI v6] [mI s2, mI s1, mR 123] h cI p01 (F_M_condition_149 G4 v1 v2 v6 s1 s2 h) := by
  unfold F_M_condition_149
  refine z_go (fun Q hq => x_iconst (dA d_M_condition 86 rfl) (x_iconst (dA d_M_condition 87 rfl) (x_iconst (dA d_M_condition 88 rfl) hq))) ?_
  refine z_bnd (rest := [mI s1, mR 123]) (st1 := fun v => mL v :: [mI s1, mR 123]) (S_M_token (d := 0) (Nat.le_refl _) L rs2 (inR_lit (1 : Int) rfl) (inR_lit (2 : Int) rfl) (inR_lit (0 : Int) rfl)) (fun _ hx => absurd hx List.not_mem_nil) (fun _ => rfl) (fun Q' Q => x_callS (as := [mI s2, mI (1 : Int), mI (2 : Int), mI (0 : Int)]) (rest := [mI s1, mR 123]) (k' := k_M_token) (dA d_M_condition 89 rfl) o_M_token lk_M_346 st_M_token (Nat.le_of_ble_eq_true rfl) (Nat.le_trans (Nat.le_of_ble_eq_true rfl) hd) (Nat.le_of_ble_eq_true rfl)) (fun x9 h7 e8 p10 => ?_)
  have L11 := L.ext e8
  refine z_go (fun Q hq => x_goto (dA d_M_condition 90 rfl) rfl hq) ?_
  exact S_M_condition_164 hd hG4 L11 rv1 rv2 rv6 rs1
noncomputable def F_M_condition_113 (G4 : Int → Int → MH → RS Int) (v1 : Int) (v2 : Int) (s0 : Int) (h : MH) : RS Int := if s0 ≤ (1 : Int) then gd (0 ≤ v2 ∧ v2 < 400) (F_M_condition_164 G4 v1 v2 s0 v1 (mGl h 123 v2.toNat) h) else gd (0 ≤ s0) (gd (inR (v2 + (s0 / (2 : Int)))) (gd (0 ≤ (v2 + (s0 / (2 : Int))) ∧ (v2 + (s0 / (2 : Int))) < 400) (bnd (F_M_nameOf (mGl h 123 (v2 + (s0 / (2 : Int))).toNat) h) fun x19 h17 => if x19 < 0 then F_M_condition_149 G4 v1 v2 s0 v1 (0 : Int) h17 else F_M_condition_149 G4 v1 v2 s0 v1 (1 : Int) h17)))
theorem S_M_condition_113 {d : Nat} (hd : 6 ≤ d) {G4 : Int → Int → MH → RS Int} (hG4 : ∀ (v1 : Int) (v2 : Int) (h : MH), LayC h → inR v1 → inR v2 → OK d k_M_condition 4 [mR 107, mI v1, mI v2, mN, mN, mN, mN] [] h cI p01 (G4 v1 v2 h)) {v1 : Int} {v2 : Int} {s0 : Int} {h : MH} (L : LayC h) (rv1 : inR v1) (rv2 : inR v2) (rs0 : inR s0) : OK d k_M_condition 113 [mR 107, mI v1, mI v2, mN, mN, mN, mN] [mI s0] h cI p01 (F_M_condition_113 G4 v1 v2 s0 h) := by
  unfold F_M_condition_113
  refine z_go (fun Q hq => x_istore (dA d_M_condition 65 rfl) (by decide) rfl (x_aload_n (dA d_M_condition 66 rfl) rfl rfl (x_getR (dA d_M_condition 67 rfl) f_M_57 (L.sh (x := (12, 66)) rfl) (by decide) (by decide) rfl (L.rf 124 rfl) (x_iload_n (dA d_M_condition 68 rfl) rfl rfl (x_iload (dA d_M_condition 69 rfl) rfl (x_iconst (dA d_M_condition 70 rfl) hq)))))) ?_
  refine z_br (fun Q => x_icmp_le (dA d_M_condition 71 rfl) rfl rs0 (inR_lit (1 : Int) rfl)) (fun c12 => ?_) (fun c12 => ?_)
  · refine z_go (fun Q hq => x_aload_n (dA d_M_condition 91 rfl) rfl rfl (x_getR (dA d_M_condition 92 rfl) f_M_57 (L.sh (x := (12, 66)) rfl) (by decide) (by decide) rfl (L.rf 124 rfl) (x_iload_n (dA d_M_condition 93 rfl) rfl rfl hq))) ?_
    refine z_gd (fun g13 => ?_)
    refine z_go (fun Q hq => x_lald (dA d_M_condition 94 rfl) (L.sh (x := (103, 400)) rfl) g13.1 g13.2 (by decide) hq) ?_
    exact S_M_condition_164 hd hG4 L rv1 rv2 rs0 rv1
  · refine z_go (fun Q hq => x_aload_n (dA d_M_condition 72 rfl) rfl rfl (x_aload_n (dA d_M_condition 73 rfl) rfl rfl (x_getR (dA d_M_condition 74 rfl) f_M_57 (L.sh (x := (12, 66)) rfl) (by decide) (by decide) rfl (L.rf 124 rfl) (x_iload_n (dA d_M_condition 75 rfl) rfl rfl (x_iload (dA d_M_condition 76 rfl) rfl (x_iconst (dA d_M_condition 77 rfl) hq)))))) ?_
    refine z_gd (fun g14 => ?_)
    refine z_go (fun Q hq => x_idiv (dA d_M_condition 78 rfl) rs0 (inR_lit (2 : Int) rfl) g14 (by decide) hq) ?_
    refine z_gd (fun g15 => ?_)
    refine z_go (fun Q hq => x_iadd (dA d_M_condition 79 rfl) hq) ?_
    refine z_gd (fun g16 => ?_)
    refine z_go (fun Q hq => x_lald (dA d_M_condition 80 rfl) (L.sh (x := (103, 400)) rfl) g16.1 g16.2 (by decide) hq) ?_
    refine z_bnd (rest := [mI v1, mR 123]) (st1 := fun v => mI v :: [mI v1, mR 123]) (S_M_nameOf (d := 2) (Nat.le_refl _) L ) (fun _ hx => absurd hx List.not_mem_nil) (fun _ => rfl) (fun Q' Q => x_callV (as := [mL (mGl h 123 (v2 + (s0 / (2 : Int))).toNat)]) (rest := [mI v1, mR 123]) (k' := k_M_nameOf) (dA d_M_condition 81 rfl) o_M_nameOf lk_M_372 im_M_nameOf se_M_nameOf rfl (L.sh (x := (12, 66)) rfl) (by decide) (Nat.le_of_ble_eq_true rfl) (Nat.le_trans (Nat.le_of_ble_eq_true rfl) hd) (Nat.le_of_ble_eq_true rfl)) (fun x19 h17 e18 p20 => ?_)
    have L21 := L.ext e18
    refine z_br (fun Q => x_if_lt (dA d_M_condition 82 rfl) rfl p20) (fun c22 => ?_) (fun c22 => ?_)
    · refine z_go (fun Q hq => x_iconst (dA d_M_condition 85 rfl) hq) ?_
      exact S_M_condition_149 hd hG4 L21 rv1 rv2 rs0 rv1 (inR_lit (0 : Int) rfl)
    · refine z_go (fun Q hq => x_iconst (dA d_M_condition 83 rfl) (x_goto (dA d_M_condition 84 rfl) rfl hq)) ?_
      exact S_M_condition_149 hd hG4 L21 rv1 rv2 rs0 rv1 (inR_lit (1 : Int) rfl)
noncomputable def F_M_condition_92 (G4 : Int → Int → MH → RS Int) (v1 : Int) (v2 : Int) (v4 : Int) (s0 : Int) (h : MH) : RS Int := if v4 = 0 then if s0 = 0 then F_M_condition_113 G4 v1 v2 (1 : Int) h else F_M_condition_113 G4 v1 v2 (4 : Int) h else F_M_condition_113 G4 v1 v2 (2 : Int) h
theorem S_M_condition_92 {d : Nat} (hd : 6 ≤ d) {G4 : Int → Int → MH → RS Int} (hG4 : ∀ (v1 : Int) (v2 : Int) (h : MH), LayC h → inR v1 → inR v2 → OK d k_M_condition 4 [mR 107, mI v1, mI v2, mN, mN, mN, mN] [] h cI p01 (G4 v1 v2 h)) {v1 : Int} {v2 : Int} {v4 : Int} {s0 : Int} {h : MH} (L : LayC h) (rv1 : inR v1) (rv2 : inR v2) (rv4 : inR v4) (rs0 : inR s0) : OK d k_M_condition 92 [mR 107, mI v1, mI v2, mN, mI v4, mN, mN] [mI s0] h cI p01 (F_M_condition_92 G4 v1 v2 v4 s0 h) := by
  unfold F_M_condition_92
  refine z_go (fun Q hq => x_istore (dA d_M_condition 55 rfl) (by decide) rfl (x_iload (dA d_M_condition 56 rfl) rfl hq)) ?_
  refine z_br (fun Q => x_if_eq (dA d_M_condition 57 rfl) rfl rv4) (fun c23 => ?_) (fun c23 => ?_)
  · refine z_go (fun Q hq => x_iload (dA d_M_condition 60 rfl) rfl hq) ?_
    refine z_br (fun Q => x_if_eq (dA d_M_condition 61 rfl) rfl rs0) (fun c24 => ?_) (fun c24 => ?_)
    · refine z_go (fun Q hq => x_iconst (dA d_M_condition 64 rfl) hq) ?_
      refine z_fgt (ls' := [mR 107, mI v1, mI v2, mN, mN, mN, mN]) ⟨.inr rfl, .inr rfl, .inr rfl, .inl rfl, .inl rfl, .inl rfl, .inl rfl, trivial⟩ ?_
      exact S_M_condition_113 hd hG4 L rv1 rv2 (inR_lit (1 : Int) rfl)
    · refine z_go (fun Q hq => x_iconst (dA d_M_condition 62 rfl) (x_goto (dA d_M_condition 63 rfl) rfl hq)) ?_
      refine z_fgt (ls' := [mR 107, mI v1, mI v2, mN, mN, mN, mN]) ⟨.inr rfl, .inr rfl, .inr rfl, .inl rfl, .inl rfl, .inl rfl, .inl rfl, trivial⟩ ?_
      exact S_M_condition_113 hd hG4 L rv1 rv2 (inR_lit (4 : Int) rfl)
  · refine z_go (fun Q hq => x_iconst (dA d_M_condition 58 rfl) (x_goto (dA d_M_condition 59 rfl) rfl hq)) ?_
    refine z_fgt (ls' := [mR 107, mI v1, mI v2, mN, mN, mN, mN]) ⟨.inr rfl, .inr rfl, .inr rfl, .inl rfl, .inl rfl, .inl rfl, .inl rfl, trivial⟩ ?_
    exact S_M_condition_113 hd hG4 L rv1 rv2 (inR_lit (2 : Int) rfl)
noncomputable def F_M_condition_91 (G4 : Int → Int → MH → RS Int) (v1 : Int) (v2 : Int) (v4 : Int) (h : MH) : RS Int := F_M_condition_92 G4 v1 v2 v4 (0 : Int) h
theorem S_M_condition_91 {d : Nat} (hd : 6 ≤ d) {G4 : Int → Int → MH → RS Int} (hG4 : ∀ (v1 : Int) (v2 : Int) (h : MH), LayC h → inR v1 → inR v2 → OK d k_M_condition 4 [mR 107, mI v1, mI v2, mN, mN, mN, mN] [] h cI p01 (G4 v1 v2 h)) {v1 : Int} {v2 : Int} {v4 : Int} {h : MH} (L : LayC h) (rv1 : inR v1) (rv2 : inR v2) (rv4 : inR v4) : OK d k_M_condition 91 [mR 107, mI v1, mI v2, mN, mI v4, mN, mN] [] h cI p01 (F_M_condition_91 G4 v1 v2 v4 h) := by
  unfold F_M_condition_91
  refine z_go (fun Q hq => x_iconst (dA d_M_condition 54 rfl) hq) ?_
  exact S_M_condition_92 hd hG4 L rv1 rv2 rv4 (inR_lit (0 : Int) rfl)
noncomputable def F_M_condition_46 (G4 : Int → Int → MH → RS Int) (v1 : Int) (v2 : Int) (v3 : Int) (s0 : Int) (h : MH) : RS Int := if v3 = 0 then F_M_condition_91 G4 v1 v2 s0 h else gd (inR (v2 + (1 : Int))) (bnd (F_M_isSignAt (v2 + (1 : Int)) (40 : Int) h) fun x29 h27 => if x29 = 0 then F_M_condition_91 G4 v1 v2 s0 h27 else gd (inR (v2 + (2 : Int))) (bnd (F_M_kindAt (v2 + (2 : Int)) h27) fun x36 h34 => if x36 = (1 : Int) then gd (inR (v2 + (3 : Int))) (bnd (F_M_isSignAt (v2 + (3 : Int)) (41 : Int) h34) fun x43 h41 => if x43 = 0 then F_M_condition_91 G4 v1 v2 s0 h41 else F_M_condition_92 G4 v1 v2 s0 (1 : Int) h41) else F_M_condition_91 G4 v1 v2 s0 h34))
theorem S_M_condition_46 {d : Nat} (hd : 6 ≤ d) {G4 : Int → Int → MH → RS Int} (hG4 : ∀ (v1 : Int) (v2 : Int) (h : MH), LayC h → inR v1 → inR v2 → OK d k_M_condition 4 [mR 107, mI v1, mI v2, mN, mN, mN, mN] [] h cI p01 (G4 v1 v2 h)) {v1 : Int} {v2 : Int} {v3 : Int} {s0 : Int} {h : MH} (L : LayC h) (rv1 : inR v1) (rv2 : inR v2) (rv3 : inR v3) (rs0 : inR s0) : OK d k_M_condition 46 [mR 107, mI v1, mI v2, mI v3, mN, mN, mN] [mI s0] h cI p01 (F_M_condition_46 G4 v1 v2 v3 s0 h) := by
  unfold F_M_condition_46
  refine z_go (fun Q hq => x_istore (dA d_M_condition 28 rfl) (by decide) rfl (x_iload_n (dA d_M_condition 29 rfl) rfl rfl hq)) ?_
  refine z_br (fun Q => x_if_eq (dA d_M_condition 30 rfl) rfl rv3) (fun c25 => ?_) (fun c25 => ?_)
  · refine z_fgt (ls' := [mR 107, mI v1, mI v2, mN, mI s0, mN, mN]) ⟨.inr rfl, .inr rfl, .inr rfl, .inl rfl, .inr rfl, .inl rfl, .inl rfl, trivial⟩ ?_
    exact S_M_condition_91 hd hG4 L rv1 rv2 rs0
  · refine z_go (fun Q hq => x_aload_n (dA d_M_condition 31 rfl) rfl rfl (x_iload_n (dA d_M_condition 32 rfl) rfl rfl (x_iconst (dA d_M_condition 33 rfl) hq))) ?_
    refine z_gd (fun g26 => ?_)
    refine z_go (fun Q hq => x_iadd (dA d_M_condition 34 rfl) (x_bipush (dA d_M_condition 35 rfl) (by decide) hq)) ?_
    refine z_bnd (rest := []) (st1 := fun v => mI v :: []) (S_M_isSignAt (d := 2) (Nat.le_refl _) L g26 (inR_lit (40 : Int) rfl)) (fun _ hx => absurd hx List.not_mem_nil) (fun _ => rfl) (fun Q' Q => x_callV (as := [mI (v2 + (1 : Int)), mI (40 : Int)]) (rest := []) (k' := k_M_isSignAt) (dA d_M_condition 36 rfl) o_M_isSignAt lk_M_358 im_M_isSignAt se_M_isSignAt rfl (L.sh (x := (12, 66)) rfl) (by decide) (Nat.le_of_ble_eq_true rfl) (Nat.le_trans (Nat.le_of_ble_eq_true rfl) hd) (Nat.le_of_ble_eq_true rfl)) (fun x29 h27 e28 p30 => ?_)
    have L31 := L.ext e28
    refine z_br (fun Q => x_if_eq (dA d_M_condition 37 rfl) rfl p30.inR) (fun c32 => ?_) (fun c32 => ?_)
    · refine z_fgt (ls' := [mR 107, mI v1, mI v2, mN, mI s0, mN, mN]) ⟨.inr rfl, .inr rfl, .inr rfl, .inl rfl, .inr rfl, .inl rfl, .inl rfl, trivial⟩ ?_
      exact S_M_condition_91 hd hG4 L31 rv1 rv2 rs0
    · refine z_go (fun Q hq => x_aload_n (dA d_M_condition 38 rfl) rfl rfl (x_iload_n (dA d_M_condition 39 rfl) rfl rfl (x_iconst (dA d_M_condition 40 rfl) hq))) ?_
      refine z_gd (fun g33 => ?_)
      refine z_go (fun Q hq => x_iadd (dA d_M_condition 41 rfl) hq) ?_
      refine z_bnd (rest := []) (st1 := fun v => mI v :: []) (S_M_kindAt (d := 1) (Nat.le_refl _) L31 g33) (fun _ hx => absurd hx List.not_mem_nil) (fun _ => rfl) (fun Q' Q => x_callV (as := [mI (v2 + (2 : Int))]) (rest := []) (k' := k_M_kindAt) (dA d_M_condition 42 rfl) o_M_kindAt lk_M_361 im_M_kindAt se_M_kindAt rfl (L31.sh (x := (12, 66)) rfl) (by decide) (Nat.le_of_ble_eq_true rfl) (Nat.le_trans (Nat.le_of_ble_eq_true rfl) hd) (Nat.le_of_ble_eq_true rfl)) (fun x36 h34 e35 p37 => ?_)
      have L38 := L31.ext e35
      refine z_go (fun Q hq => x_iconst (dA d_M_condition 43 rfl) hq) ?_
      refine z_brn (fun Q => x_icmp_ne (dA d_M_condition 44 rfl) rfl p37 (inR_lit (1 : Int) rfl)) (fun c39 => ?_) (fun c39 => ?_)
      · refine z_go (fun Q hq => x_aload_n (dA d_M_condition 45 rfl) rfl rfl (x_iload_n (dA d_M_condition 46 rfl) rfl rfl (x_iconst (dA d_M_condition 47 rfl) hq))) ?_
        refine z_gd (fun g40 => ?_)
        refine z_go (fun Q hq => x_iadd (dA d_M_condition 48 rfl) (x_bipush (dA d_M_condition 49 rfl) (by decide) hq)) ?_
        refine z_bnd (rest := []) (st1 := fun v => mI v :: []) (S_M_isSignAt (d := 2) (Nat.le_refl _) L38 g40 (inR_lit (41 : Int) rfl)) (fun _ hx => absurd hx List.not_mem_nil) (fun _ => rfl) (fun Q' Q => x_callV (as := [mI (v2 + (3 : Int)), mI (41 : Int)]) (rest := []) (k' := k_M_isSignAt) (dA d_M_condition 50 rfl) o_M_isSignAt lk_M_358 im_M_isSignAt se_M_isSignAt rfl (L38.sh (x := (12, 66)) rfl) (by decide) (Nat.le_of_ble_eq_true rfl) (Nat.le_trans (Nat.le_of_ble_eq_true rfl) hd) (Nat.le_of_ble_eq_true rfl)) (fun x43 h41 e42 p44 => ?_)
        have L45 := L38.ext e42
        refine z_br (fun Q => x_if_eq (dA d_M_condition 51 rfl) rfl p44.inR) (fun c46 => ?_) (fun c46 => ?_)
        · refine z_fgt (ls' := [mR 107, mI v1, mI v2, mN, mI s0, mN, mN]) ⟨.inr rfl, .inr rfl, .inr rfl, .inl rfl, .inr rfl, .inl rfl, .inl rfl, trivial⟩ ?_
          exact S_M_condition_91 hd hG4 L45 rv1 rv2 rs0
        · refine z_go (fun Q hq => x_iconst (dA d_M_condition 52 rfl) (x_goto (dA d_M_condition 53 rfl) rfl hq)) ?_
          refine z_fgt (ls' := [mR 107, mI v1, mI v2, mN, mI s0, mN, mN]) ⟨.inr rfl, .inr rfl, .inr rfl, .inl rfl, .inr rfl, .inl rfl, .inl rfl, trivial⟩ ?_
          exact S_M_condition_92 hd hG4 L45 rv1 rv2 rs0 (inR_lit (1 : Int) rfl)
      · refine z_fgt (ls' := [mR 107, mI v1, mI v2, mN, mI s0, mN, mN]) ⟨.inr rfl, .inr rfl, .inr rfl, .inl rfl, .inr rfl, .inl rfl, .inl rfl, trivial⟩ ?_
        exact S_M_condition_91 hd hG4 L38 rv1 rv2 rs0
noncomputable def F_M_condition_45 (G4 : Int → Int → MH → RS Int) (v1 : Int) (v2 : Int) (v3 : Int) (h : MH) : RS Int := F_M_condition_46 G4 v1 v2 v3 (0 : Int) h
theorem S_M_condition_45 {d : Nat} (hd : 6 ≤ d) {G4 : Int → Int → MH → RS Int} (hG4 : ∀ (v1 : Int) (v2 : Int) (h : MH), LayC h → inR v1 → inR v2 → OK d k_M_condition 4 [mR 107, mI v1, mI v2, mN, mN, mN, mN] [] h cI p01 (G4 v1 v2 h)) {v1 : Int} {v2 : Int} {v3 : Int} {h : MH} (L : LayC h) (rv1 : inR v1) (rv2 : inR v2) (rv3 : inR v3) : OK d k_M_condition 45 [mR 107, mI v1, mI v2, mI v3, mN, mN, mN] [] h cI p01 (F_M_condition_45 G4 v1 v2 v3 h) := by
  unfold F_M_condition_45
  refine z_go (fun Q hq => x_iconst (dA d_M_condition 27 rfl) hq) ?_
  exact S_M_condition_46 hd hG4 L rv1 rv2 rv3 (inR_lit (0 : Int) rfl)
noncomputable def F_M_condition_4_b (G4 : Int → Int → MH → RS Int) (v1 : Int) (v2 : Int) (h : MH) : RS Int := if (mGi h 107 29) ≤ v2 then bnd (F_M_expand (2 : Int) v1 h) fun x50 h48 => if (mGi h48 107 1) = 0 then bnd (F_M_evaluate h48) fun x56 h54 => if (lgI x56 (0 : Int64)) = 0 then F_M_condition_202  h54 else some (.inl (1 : Int), h54) else F_M_condition_202  h48 else gd (0 ≤ v2 ∧ v2 < 400) (bnd (F_M_is (mGl h 123 v2.toNat) (28259022560191844 : Int64) h) fun x63 h61 => if x63 = 0 then F_M_condition_45 G4 v1 v2 x63 h61 else gd (inR (v2 + (1 : Int))) (bnd (F_M_kindAt (v2 + (1 : Int)) h61) fun x70 h68 => if x70 = (1 : Int) then F_M_condition_46 G4 v1 v2 x63 (1 : Int) h68 else F_M_condition_45 G4 v1 v2 x63 h68))
theorem S_M_condition_4_b {d : Nat} (hd : 6 ≤ d) {G4 : Int → Int → MH → RS Int} (hG4 : ∀ (v1 : Int) (v2 : Int) (h : MH), LayC h → inR v1 → inR v2 → OK d k_M_condition 4 [mR 107, mI v1, mI v2, mN, mN, mN, mN] [] h cI p01 (G4 v1 v2 h)) {v1 : Int} {v2 : Int} {h : MH} (L : LayC h) (rv1 : inR v1) (rv2 : inR v2) : OK d k_M_condition 4 [mR 107, mI v1, mI v2, mN, mN, mN, mN] [] h cI p01 (F_M_condition_4_b G4 v1 v2 h) := by
  unfold F_M_condition_4_b
  refine z_go (fun Q hq => x_iload_n (dA d_M_condition 4 rfl) rfl rfl (x_aload_n (dA d_M_condition 5 rfl) rfl rfl (x_getI (dA d_M_condition 6 rfl) f_M_340 (L.sh (x := (12, 66)) rfl) (by decide) (by decide) rfl hq))) ?_
  refine z_br (fun Q => x_icmp_ge (dA d_M_condition 7 rfl) rfl rv2 (L.rg _ _)) (fun c47 => ?_) (fun c47 => ?_)
  · refine z_go (fun Q hq => x_aload_n (dA d_M_condition 102 rfl) rfl rfl (x_iconst (dA d_M_condition 103 rfl) (x_iload_n (dA d_M_condition 104 rfl) rfl rfl hq))) ?_
    refine z_bnd (rest := []) (st1 := fun _ => []) (S_M_expand (d := 5) (Nat.le_refl _) L (inR_lit (2 : Int) rfl) rv1) (fun _ hx => absurd hx List.not_mem_nil) (fun _ => rfl) (fun Q' Q => x_callV (as := [mI (2 : Int), mI v1]) (rest := []) (k' := k_M_expand) (dA d_M_condition 105 rfl) o_M_expand lk_M_496 im_M_expand se_M_expand rfl (L.sh (x := (12, 66)) rfl) (by decide) (Nat.le_of_ble_eq_true rfl) (Nat.le_trans (Nat.le_of_ble_eq_true rfl) hd) (Nat.le_of_ble_eq_true rfl)) (fun x50 h48 e49 p51 => ?_)
    have L52 := L.ext e49
    refine z_go (fun Q hq => x_aload_n (dA d_M_condition 106 rfl) rfl rfl (x_getI (dA d_M_condition 107 rfl) f_M_140 (L52.sh (x := (12, 66)) rfl) (by decide) (by decide) rfl hq)) ?_
    refine z_brn (fun Q => x_if_ne (dA d_M_condition 108 rfl) rfl (L52.rg _ _)) (fun c53 => ?_) (fun c53 => ?_)
    · refine z_go (fun Q hq => x_aload_n (dA d_M_condition 109 rfl) rfl rfl hq) ?_
      refine z_bnd (rest := []) (st1 := fun v => mL v :: []) (S_M_evaluate (d := 5) (Nat.le_refl _) L52 ) (fun _ hx => absurd hx List.not_mem_nil) (fun _ => rfl) (fun Q' Q => x_callV (as := []) (rest := []) (k' := k_M_evaluate) (dA d_M_condition 110 rfl) o_M_evaluate lk_M_499 im_M_evaluate se_M_evaluate rfl (L52.sh (x := (12, 66)) rfl) (by decide) (Nat.le_of_ble_eq_true rfl) (Nat.le_trans (Nat.le_of_ble_eq_true rfl) hd) (Nat.le_of_ble_eq_true rfl)) (fun x56 h54 e55 p57 => ?_)
      have L58 := L52.ext e55
      refine z_go (fun Q hq => x_lconst (v := 0) (dA d_M_condition 111 rfl) rfl (x_lcmp (dA d_M_condition 112 rfl) hq)) ?_
      refine z_br (fun Q => x_if_eq (dA d_M_condition 113 rfl) rfl (inR_lgI _ _)) (fun c59 => ?_) (fun c59 => ?_)
      · refine z_fgt (ls' := [mN, mN, mN, mN, mN, mN, mN]) ⟨.inl rfl, .inl rfl, .inl rfl, .inl rfl, .inl rfl, .inl rfl, .inl rfl, trivial⟩ ?_
        exact S_M_condition_202 hd  L58 
      · refine z_go (fun Q hq => x_iconst (dA d_M_condition 114 rfl) (x_goto (dA d_M_condition 115 rfl) rfl hq)) ?_
        exact z_retz (dA d_M_condition 117 rfl) rfl (.inr rfl)
    · refine z_fgt (ls' := [mN, mN, mN, mN, mN, mN, mN]) ⟨.inl rfl, .inl rfl, .inl rfl, .inl rfl, .inl rfl, .inl rfl, .inl rfl, trivial⟩ ?_
      exact S_M_condition_202 hd  L52 
  · refine z_go (fun Q hq => x_aload_n (dA d_M_condition 8 rfl) rfl rfl (x_aload_n (dA d_M_condition 9 rfl) rfl rfl (x_getR (dA d_M_condition 10 rfl) f_M_57 (L.sh (x := (12, 66)) rfl) (by decide) (by decide) rfl (L.rf 124 rfl) (x_iload_n (dA d_M_condition 11 rfl) rfl rfl hq)))) ?_
    refine z_gd (fun g60 => ?_)
    refine z_go (fun Q hq => x_lald (dA d_M_condition 12 rfl) (L.sh (x := (103, 400)) rfl) g60.1 g60.2 (by decide) (x_ldc2 (dA d_M_condition 13 rfl) kl_M_491 hq)) ?_
    refine z_bnd (rest := []) (st1 := fun v => mI v :: []) (S_M_is (d := 1) (Nat.le_refl _) L ) (fun _ hx => absurd hx List.not_mem_nil) (fun _ => rfl) (fun Q' Q => x_callV (as := [mL (mGl h 123 v2.toNat), mL (28259022560191844 : Int64)]) (rest := []) (k' := k_M_is) (dA d_M_condition 14 rfl) o_M_is lk_M_493 im_M_is se_M_is rfl (L.sh (x := (12, 66)) rfl) (by decide) (Nat.le_of_ble_eq_true rfl) (Nat.le_trans (Nat.le_of_ble_eq_true rfl) hd) (Nat.le_of_ble_eq_true rfl)) (fun x63 h61 e62 p64 => ?_)
    have L65 := L.ext e62
    refine z_go (fun Q hq => x_istore_n (dA d_M_condition 15 rfl) rfl (by decide) rfl (x_iload_n (dA d_M_condition 16 rfl) rfl rfl hq)) ?_
    refine z_br (fun Q => x_if_eq (dA d_M_condition 17 rfl) rfl p64.inR) (fun c66 => ?_) (fun c66 => ?_)
    · exact S_M_condition_45 hd hG4 L65 rv1 rv2 p64.inR
    · refine z_go (fun Q hq => x_aload_n (dA d_M_condition 18 rfl) rfl rfl (x_iload_n (dA d_M_condition 19 rfl) rfl rfl (x_iconst (dA d_M_condition 20 rfl) hq))) ?_
      refine z_gd (fun g67 => ?_)
      refine z_go (fun Q hq => x_iadd (dA d_M_condition 21 rfl) hq) ?_
      refine z_bnd (rest := []) (st1 := fun v => mI v :: []) (S_M_kindAt (d := 1) (Nat.le_refl _) L65 g67) (fun _ hx => absurd hx List.not_mem_nil) (fun _ => rfl) (fun Q' Q => x_callV (as := [mI (v2 + (1 : Int))]) (rest := []) (k' := k_M_kindAt) (dA d_M_condition 22 rfl) o_M_kindAt lk_M_361 im_M_kindAt se_M_kindAt rfl (L65.sh (x := (12, 66)) rfl) (by decide) (Nat.le_of_ble_eq_true rfl) (Nat.le_trans (Nat.le_of_ble_eq_true rfl) hd) (Nat.le_of_ble_eq_true rfl)) (fun x70 h68 e69 p71 => ?_)
      have L72 := L65.ext e69
      refine z_go (fun Q hq => x_iconst (dA d_M_condition 23 rfl) hq) ?_
      refine z_brn (fun Q => x_icmp_ne (dA d_M_condition 24 rfl) rfl p71 (inR_lit (1 : Int) rfl)) (fun c73 => ?_) (fun c73 => ?_)
      · refine z_go (fun Q hq => x_iconst (dA d_M_condition 25 rfl) (x_goto (dA d_M_condition 26 rfl) rfl hq)) ?_
        exact S_M_condition_46 hd hG4 L72 rv1 rv2 p64.inR (inR_lit (1 : Int) rfl)
      · exact S_M_condition_45 hd hG4 L72 rv1 rv2 p64.inR
noncomputable def F_M_condition_4 (v1 : Int) (v2 : Int) (h : MH) : RS Int := itr (fun self (q : Int × Int × MH) => F_M_condition_4_b (fun v1 v2 h => self (v1, v2, h)) q.1 q.2.1 q.2.2) FU (v1, v2, h)
theorem S_M_condition_4 {d : Nat} (hd : 6 ≤ d) {v1 : Int} {v2 : Int} {h : MH} (L : LayC h) (rv1 : inR v1) (rv2 : inR v2) : OK d k_M_condition 4 [mR 107, mI v1, mI v2, mN, mN, mN, mN] [] h cI p01 (F_M_condition_4  v1 v2 h) := by
  unfold F_M_condition_4
  refine z_itr (P := fun q : Int × Int × MH => LayC q.2.2 ∧ inR q.1 ∧ inR q.2.1 ∧ True) (ls := fun q : Int × Int × MH => [mR 107, mI q.1, mI q.2.1, mN, mN, mN, mN]) (hp := fun q : Int × Int × MH => q.2.2) (fun self hs q hq => ?_) FU (v1, v2, h) ⟨L, rv1, rv2, trivial⟩
  exact S_M_condition_4_b hd (fun v1 v2 h L rv1 rv2 => hs (v1, v2, h) ⟨L, rv1, rv2, trivial⟩) hq.1 hq.2.1 hq.2.2.1
noncomputable def F_M_condition (h : MH) : RS Int := F_M_condition_4 (2 : Int) (2 : Int) h
theorem S_M_condition {d : Nat} (hd : 6 ≤ d) {h : MH} (L : LayC h) : OK d k_M_condition 0 [mR 107, mN, mN, mN, mN, mN, mN] [] h cI p01 (F_M_condition   h) := by
  unfold F_M_condition
  refine z_go (fun Q hq => x_iconst (dA d_M_condition 0 rfl) (x_istore_n (dA d_M_condition 1 rfl) rfl (by decide) rfl (x_iconst (dA d_M_condition 2 rfl) (x_istore_n (dA d_M_condition 3 rfl) rfl (by decide) rfl hq)))) ?_
  exact S_M_condition_4 hd  L (inR_lit (2 : Int) rfl) (inR_lit (2 : Int) rfl)
/-! TwoMillsModel.isActive()Z -/
noncomputable def F_M_isActive_39 (h : MH) : RS Int := some (.inl (0 : Int), h)
theorem S_M_isActive_39 {d : Nat} (hd : 0 ≤ d) {h : MH} (L : LayC h) : OK d k_M_isActive 39 [mN] [] h cI p01 (F_M_isActive_39   h) := by
  unfold F_M_isActive_39
  refine z_go (fun Q hq => x_iconst (dA d_M_isActive 21 rfl) hq) ?_
  exact z_retz (dA d_M_isActive 22 rfl) rfl (.inl rfl)
noncomputable def F_M_isActive_35 (h : MH) : RS Int := some (.inl (1 : Int), h)
theorem S_M_isActive_35 {d : Nat} (hd : 0 ≤ d) {h : MH} (L : LayC h) : OK d k_M_isActive 35 [mN] [] h cI p01 (F_M_isActive_35   h) := by
  unfold F_M_isActive_35
  refine z_go (fun Q hq => x_iconst (dA d_M_isActive 19 rfl) (x_goto (dA d_M_isActive 20 rfl) rfl hq)) ?_
  exact z_retz (dA d_M_isActive 22 rfl) rfl (.inr rfl)
noncomputable def F_M_isActive (h : MH) : RS Int := if (mGi h 107 33) = 0 then F_M_isActive_35  h else gd (inR ((mGi h 107 33) - (1 : Int))) (gd (0 ≤ ((mGi h 107 33) - (1 : Int)) ∧ ((mGi h 107 33) - (1 : Int)) < 6) (if (mGi h 132 ((mGi h 107 33) - (1 : Int)).toNat) = 0 then F_M_isActive_39  h else if (mGi h 133 ((mGi h 107 33) - (1 : Int)).toNat) = 0 then F_M_isActive_39  h else F_M_isActive_35  h))
theorem S_M_isActive {d : Nat} (hd : 0 ≤ d) {h : MH} (L : LayC h) : OK d k_M_isActive 0 [mR 107] [] h cI p01 (F_M_isActive   h) := by
  unfold F_M_isActive
  refine z_go (fun Q hq => x_aload_n (dA d_M_isActive 0 rfl) rfl rfl (x_getI (dA d_M_isActive 1 rfl) f_M_503 (L.sh (x := (12, 66)) rfl) (by decide) (by decide) rfl hq)) ?_
  refine z_br (fun Q => x_if_eq (dA d_M_isActive 2 rfl) rfl (L.rg _ _)) (fun c1 => ?_) (fun c1 => ?_)
  · refine z_fgt (ls' := [mN]) ⟨.inl rfl, trivial⟩ ?_
    exact S_M_isActive_35 hd  L 
  · refine z_go (fun Q hq => x_aload_n (dA d_M_isActive 3 rfl) rfl rfl (x_getR (dA d_M_isActive 4 rfl) f_M_85 (L.sh (x := (12, 66)) rfl) (by decide) (by decide) rfl (L.rf 133 rfl) (x_aload_n (dA d_M_isActive 5 rfl) rfl rfl (x_getI (dA d_M_isActive 6 rfl) f_M_503 (L.sh (x := (12, 66)) rfl) (by decide) (by decide) rfl (x_iconst (dA d_M_isActive 7 rfl) hq))))) ?_
    refine z_gd (fun g2 => ?_)
    refine z_go (fun Q hq => x_isub (dA d_M_isActive 8 rfl) hq) ?_
    refine z_gd (fun g3 => ?_)
    refine z_go (fun Q hq => x_zald (dA d_M_isActive 9 rfl) (L.sh (x := (102, 6)) rfl) g3.1 g3.2 (by decide) hq) ?_
    refine z_br (fun Q => x_if_eq (dA d_M_isActive 10 rfl) rfl (L.rg _ _)) (fun c4 => ?_) (fun c4 => ?_)
    · refine z_fgt (ls' := [mN]) ⟨.inl rfl, trivial⟩ ?_
      exact S_M_isActive_39 hd  L 
    · refine z_go (fun Q hq => x_aload_n (dA d_M_isActive 11 rfl) rfl rfl (x_getR (dA d_M_isActive 12 rfl) f_M_88 (L.sh (x := (12, 66)) rfl) (by decide) (by decide) rfl (L.rf 134 rfl) (x_aload_n (dA d_M_isActive 13 rfl) rfl rfl (x_getI (dA d_M_isActive 14 rfl) f_M_503 (L.sh (x := (12, 66)) rfl) (by decide) (by decide) rfl (x_iconst (dA d_M_isActive 15 rfl) (x_isub (dA d_M_isActive 16 rfl) (x_zald (dA d_M_isActive 17 rfl) (L.sh (x := (102, 6)) rfl) g3.1 g3.2 (by decide) hq))))))) ?_
      refine z_br (fun Q => x_if_eq (dA d_M_isActive 18 rfl) rfl (L.rg _ _)) (fun c5 => ?_) (fun c5 => ?_)
      · refine z_fgt (ls' := [mN]) ⟨.inl rfl, trivial⟩ ?_
        exact S_M_isActive_39 hd  L 
      · refine z_fgt (ls' := [mN]) ⟨.inl rfl, trivial⟩ ?_
        exact S_M_isActive_35 hd  L 
/-! TwoMillsModel.beginLevel(I)V -/
noncomputable def F_M_beginLevel_121 (v2 : Int) (s0 : Int) (h : MH) : RS Unit := if (mGi h 107 1) ≤ 0 then gd (0 ≤ (mGi h 107 33) ∧ (mGi h 107 33) < 6) (gd (p01 v2) (sto (mPi h 132 (mGi h 107 33).toNat v2) fun h4 => gd (0 ≤ (mGi h4 107 33) ∧ (mGi h4 107 33) < 6) (gd (p01 s0) (sto (mPi h4 133 (mGi h4 107 33).toNat s0) fun h9 => gd (0 ≤ (mGi h9 107 33) ∧ (mGi h9 107 33) < 6) (sto (mPi h9 134 (mGi h9 107 33).toNat (0 : Int)) fun h13 => gd (inR ((mGi h13 107 33) + (1 : Int))) (sto (mPi h13 107 33 ((mGi h13 107 33) + (1 : Int))) fun h17 => some (.inl (), h17))))))) else some (.inl (), h)
theorem S_M_beginLevel_121 {d : Nat} (hd : 7 ≤ d) {v2 : Int} {s0 : Int} {h : MH} (L : LayC h) (rv2 : inR v2) (rs0 : inR s0) : OK d k_M_beginLevel 121 [mR 107, mN, mI v2, mN] [mI s0] h cV pT (F_M_beginLevel_121  v2 s0 h) := by
  unfold F_M_beginLevel_121
  refine z_go (fun Q hq => x_istore_n (dA d_M_beginLevel 63 rfl) rfl (by decide) rfl (x_aload_n (dA d_M_beginLevel 64 rfl) rfl rfl (x_getI (dA d_M_beginLevel 65 rfl) f_M_140 (L.sh (x := (12, 66)) rfl) (by decide) (by decide) rfl hq))) ?_
  refine z_br (fun Q => x_if_le (dA d_M_beginLevel 66 rfl) rfl (L.rg _ _)) (fun c1 => ?_) (fun c1 => ?_)
  · refine z_go (fun Q hq => x_aload_n (dA d_M_beginLevel 68 rfl) rfl rfl (x_getR (dA d_M_beginLevel 69 rfl) f_M_85 (L.sh (x := (12, 66)) rfl) (by decide) (by decide) rfl (L.rf 133 rfl) (x_aload_n (dA d_M_beginLevel 70 rfl) rfl rfl (x_getI (dA d_M_beginLevel 71 rfl) f_M_503 (L.sh (x := (12, 66)) rfl) (by decide) (by decide) rfl (x_iload_n (dA d_M_beginLevel 72 rfl) rfl rfl hq))))) ?_
    refine z_gd (fun g2 => ?_)
    refine z_gd (fun g3 => ?_)
    refine z_sto (Ext.pi (L.sh (x := (102, 6)) rfl) (by decide) rv2) (fun Q hq => x_zast (dA d_M_beginLevel 73 rfl) (L.sh (x := (102, 6)) rfl) g2.1 g2.2 (by decide) g3 hq) (fun h4 e5 => ?_)
    have L6 := L.ext e5
    refine z_go (fun Q hq => x_aload_n (dA d_M_beginLevel 74 rfl) rfl rfl (x_getR (dA d_M_beginLevel 75 rfl) f_M_88 (L6.sh (x := (12, 66)) rfl) (by decide) (by decide) rfl (L6.rf 134 rfl) (x_aload_n (dA d_M_beginLevel 76 rfl) rfl rfl (x_getI (dA d_M_beginLevel 77 rfl) f_M_503 (L6.sh (x := (12, 66)) rfl) (by decide) (by decide) rfl (x_iload_n (dA d_M_beginLevel 78 rfl) rfl rfl hq))))) ?_
    refine z_gd (fun g7 => ?_)
    refine z_gd (fun g8 => ?_)
    refine z_sto (Ext.pi (L6.sh (x := (102, 6)) rfl) (by decide) rs0) (fun Q hq => x_zast (dA d_M_beginLevel 79 rfl) (L6.sh (x := (102, 6)) rfl) g7.1 g7.2 (by decide) g8 hq) (fun h9 e10 => ?_)
    have L11 := L6.ext e10
    refine z_go (fun Q hq => x_aload_n (dA d_M_beginLevel 80 rfl) rfl rfl (x_getR (dA d_M_beginLevel 81 rfl) f_M_91 (L11.sh (x := (12, 66)) rfl) (by decide) (by decide) rfl (L11.rf 135 rfl) (x_aload_n (dA d_M_beginLevel 82 rfl) rfl rfl (x_getI (dA d_M_beginLevel 83 rfl) f_M_503 (L11.sh (x := (12, 66)) rfl) (by decide) (by decide) rfl (x_iconst (dA d_M_beginLevel 84 rfl) hq))))) ?_
    refine z_gd (fun g12 => ?_)
    refine z_sto (Ext.pi (L11.sh (x := (102, 6)) rfl) (by decide) (inR_lit (0 : Int) rfl)) (fun Q hq => x_zast (dA d_M_beginLevel 85 rfl) (L11.sh (x := (102, 6)) rfl) g12.1 g12.2 (by decide) (.inl rfl) hq) (fun h13 e14 => ?_)
    have L15 := L11.ext e14
    refine z_go (fun Q hq => x_aload_n (dA d_M_beginLevel 86 rfl) rfl rfl (x_dup (dA d_M_beginLevel 87 rfl) rfl (x_getI (dA d_M_beginLevel 88 rfl) f_M_503 (L15.sh (x := (12, 66)) rfl) (by decide) (by decide) rfl (x_iconst (dA d_M_beginLevel 89 rfl) hq)))) ?_
    refine z_gd (fun g16 => ?_)
    refine z_go (fun Q hq => x_iadd (dA d_M_beginLevel 90 rfl) hq) ?_
    refine z_sto (Ext.pi (L15.sh (x := (12, 66)) rfl) (by decide) g16) (fun Q hq => x_putI (dA d_M_beginLevel 91 rfl) p_M_503 (L15.sh (x := (12, 66)) rfl) (by decide) cl_M rfl hq) (fun h17 e18 => ?_)
    have L19 := L15.ext e18
    exact z_retv (dA d_M_beginLevel 92 rfl) rfl
  · exact z_retv (dA d_M_beginLevel 67 rfl) rfl
noncomputable def F_M_beginLevel_120 (v2 : Int) (h : MH) : RS Unit := F_M_beginLevel_121 v2 (0 : Int) h
theorem S_M_beginLevel_120 {d : Nat} (hd : 7 ≤ d) {v2 : Int} {h : MH} (L : LayC h) (rv2 : inR v2) : OK d k_M_beginLevel 120 [mR 107, mN, mI v2, mN] [] h cV pT (F_M_beginLevel_120  v2 h) := by
  unfold F_M_beginLevel_120
  refine z_go (fun Q hq => x_iconst (dA d_M_beginLevel 62 rfl) hq) ?_
  exact S_M_beginLevel_121 hd  L rv2 (inR_lit (0 : Int) rfl)
noncomputable def F_M_beginLevel_116 (v2 : Int) (h : MH) : RS Unit := F_M_beginLevel_121 v2 (1 : Int) h
theorem S_M_beginLevel_116 {d : Nat} (hd : 7 ≤ d) {v2 : Int} {h : MH} (L : LayC h) (rv2 : inR v2) : OK d k_M_beginLevel 116 [mR 107, mN, mI v2, mN] [] h cV pT (F_M_beginLevel_116  v2 h) := by
  unfold F_M_beginLevel_116
  refine z_go (fun Q hq => x_iconst (dA d_M_beginLevel 60 rfl) (x_goto (dA d_M_beginLevel 61 rfl) rfl hq)) ?_
  exact S_M_beginLevel_121 hd  L rv2 (inR_lit (1 : Int) rfl)
noncomputable def F_M_beginLevel_113 (v2 : Int) (s0 : Int) (s1 : Int) (h : MH) : RS Unit := if s0 = s1 then F_M_beginLevel_116 v2 h else F_M_beginLevel_120 v2 h
theorem S_M_beginLevel_113 {d : Nat} (hd : 7 ≤ d) {v2 : Int} {s0 : Int} {s1 : Int} {h : MH} (L : LayC h) (rv2 : inR v2) (rs0 : inR s0) (rs1 : inR s1) : OK d k_M_beginLevel 113 [mR 107, mN, mI v2, mN] [mI s1, mI s0] h cV pT (F_M_beginLevel_113  v2 s0 s1 h) := by
  unfold F_M_beginLevel_113
  refine z_brn (fun Q => x_icmp_ne (dA d_M_beginLevel 59 rfl) rfl rs0 rs1) (fun c20 => ?_) (fun c20 => ?_)
  · exact S_M_beginLevel_116 hd  L rv2
  · exact S_M_beginLevel_120 hd  L rv2
noncomputable def F_M_beginLevel_103 (v1 : Int) (v2 : Int) (s0 : Int) (h : MH) : RS Unit := if v1 = (1 : Int) then F_M_beginLevel_113 v2 s0 (1 : Int) h else F_M_beginLevel_113 v2 s0 (0 : Int) h
theorem S_M_beginLevel_103 {d : Nat} (hd : 7 ≤ d) {v1 : Int} {v2 : Int} {s0 : Int} {h : MH} (L : LayC h) (rv1 : inR v1) (rv2 : inR v2) (rs0 : inR s0) : OK d k_M_beginLevel 103 [mR 107, mI v1, mI v2, mN] [mI s0] h cV pT (F_M_beginLevel_103  v1 v2 s0 h) := by
  unfold F_M_beginLevel_103
  refine z_go (fun Q hq => x_iload_n (dA d_M_beginLevel 53 rfl) rfl rfl (x_iconst (dA d_M_beginLevel 54 rfl) hq)) ?_
  refine z_brn (fun Q => x_icmp_ne (dA d_M_beginLevel 55 rfl) rfl rv1 (inR_lit (1 : Int) rfl)) (fun c21 => ?_) (fun c21 => ?_)
  · refine z_go (fun Q hq => x_iconst (dA d_M_beginLevel 56 rfl) (x_goto (dA d_M_beginLevel 57 rfl) rfl hq)) ?_
    refine z_fgt (ls' := [mR 107, mN, mI v2, mN]) ⟨.inr rfl, .inl rfl, .inr rfl, .inl rfl, trivial⟩ ?_
    exact S_M_beginLevel_113 hd  L rv2 rs0 (inR_lit (1 : Int) rfl)
  · refine z_go (fun Q hq => x_iconst (dA d_M_beginLevel 58 rfl) hq) ?_
    refine z_fgt (ls' := [mR 107, mN, mI v2, mN]) ⟨.inr rfl, .inl rfl, .inr rfl, .inl rfl, trivial⟩ ?_
    exact S_M_beginLevel_113 hd  L rv2 rs0 (inR_lit (0 : Int) rfl)
noncomputable def F_M_beginLevel_59 (v1 : Int) (v2 : Int) (s1 : Int) (h : MH) : RS Unit := gd (p01 s1) (bnd (F_M_need s1 (1 : Int) h) fun x25 h23 => if x25 = 0 then some (.inl (), h23) else if v2 = 0 then F_M_beginLevel_120 v2 h23 else if v1 = 0 then bnd (F_M_condition h23) fun x33 h31 => if x33 = 0 then F_M_beginLevel_120 v2 h31 else F_M_beginLevel_116 v2 h31 else gd (0 ≤ (2 : Int) ∧ (2 : Int) < 400) (bnd (F_M_nameOf (mGl h23 123 (2 : Int).toNat) h23) fun x40 h38 => if x40 < 0 then F_M_beginLevel_103 v1 v2 (0 : Int) h38 else F_M_beginLevel_103 v1 v2 (1 : Int) h38))
theorem S_M_beginLevel_59 {d : Nat} (hd : 7 ≤ d) {v1 : Int} {v2 : Int} {s1 : Int} {h : MH} (L : LayC h) (rv1 : inR v1) (rv2 : inR v2) (rs1 : inR s1) : OK d k_M_beginLevel 59 [mR 107, mI v1, mI v2, mN] [mI s1, mR 107] h cV pT (F_M_beginLevel_59  v1 v2 s1 h) := by
  unfold F_M_beginLevel_59
  refine z_go (fun Q hq => x_iconst (dA d_M_beginLevel 31 rfl) hq) ?_
  refine z_gd (fun g22 => ?_)
  refine z_bnd (rest := []) (st1 := fun v => mI v :: []) (S_M_need (d := 1) (Nat.le_refl _) L g22 (inR_lit (1 : Int) rfl)) (fun _ hx => absurd hx List.not_mem_nil) (fun _ => rfl) (fun Q' Q => x_callV (as := [mI s1, mI (1 : Int)]) (rest := []) (k' := k_M_need) (dA d_M_beginLevel 32 rfl) o_M_need lk_M_181 im_M_need se_M_need rfl (L.sh (x := (12, 66)) rfl) (by decide) (Nat.le_of_ble_eq_true rfl) (Nat.le_trans (Nat.le_of_ble_eq_true rfl) hd) (Nat.le_of_ble_eq_true rfl)) (fun x25 h23 e24 p26 => ?_)
  have L27 := L.ext e24
  refine z_brn (fun Q => x_if_ne (dA d_M_beginLevel 33 rfl) rfl p26.inR) (fun c28 => ?_) (fun c28 => ?_)
  · exact z_retv (dA d_M_beginLevel 34 rfl) rfl
  · refine z_go (fun Q hq => x_iload_n (dA d_M_beginLevel 35 rfl) rfl rfl hq) ?_
    refine z_br (fun Q => x_if_eq (dA d_M_beginLevel 36 rfl) rfl rv2) (fun c29 => ?_) (fun c29 => ?_)
    · refine z_fgt (ls' := [mR 107, mN, mI v2, mN]) ⟨.inr rfl, .inl rfl, .inr rfl, .inl rfl, trivial⟩ ?_
      exact S_M_beginLevel_120 hd  L27 rv2
    · refine z_go (fun Q hq => x_iload_n (dA d_M_beginLevel 37 rfl) rfl rfl hq) ?_
      refine z_brn (fun Q => x_if_ne (dA d_M_beginLevel 38 rfl) rfl rv1) (fun c30 => ?_) (fun c30 => ?_)
      · refine z_go (fun Q hq => x_aload_n (dA d_M_beginLevel 39 rfl) rfl rfl hq) ?_
        refine z_bnd (rest := []) (st1 := fun v => mI v :: []) (S_M_condition (d := 6) (Nat.le_refl _) L27 ) (fun _ hx => absurd hx List.not_mem_nil) (fun _ => rfl) (fun Q' Q => x_callV (as := []) (rest := []) (k' := k_M_condition) (dA d_M_beginLevel 40 rfl) o_M_condition lk_M_509 im_M_condition se_M_condition rfl (L27.sh (x := (12, 66)) rfl) (by decide) (Nat.le_of_ble_eq_true rfl) (Nat.le_trans (Nat.le_of_ble_eq_true rfl) hd) (Nat.le_of_ble_eq_true rfl)) (fun x33 h31 e32 p34 => ?_)
        have L35 := L27.ext e32
        refine z_br (fun Q => x_if_eq (dA d_M_beginLevel 41 rfl) rfl p34.inR) (fun c36 => ?_) (fun c36 => ?_)
        · refine z_fgt (ls' := [mR 107, mN, mI v2, mN]) ⟨.inr rfl, .inl rfl, .inr rfl, .inl rfl, trivial⟩ ?_
          exact S_M_beginLevel_120 hd  L35 rv2
        · refine z_go (fun Q hq => x_goto (dA d_M_beginLevel 42 rfl) rfl hq) ?_
          refine z_fgt (ls' := [mR 107, mN, mI v2, mN]) ⟨.inr rfl, .inl rfl, .inr rfl, .inl rfl, trivial⟩ ?_
          exact S_M_beginLevel_116 hd  L35 rv2
      · refine z_go (fun Q hq => x_aload_n (dA d_M_beginLevel 43 rfl) rfl rfl (x_aload_n (dA d_M_beginLevel 44 rfl) rfl rfl (x_getR (dA d_M_beginLevel 45 rfl) f_M_57 (L27.sh (x := (12, 66)) rfl) (by decide) (by decide) rfl (L27.rf 124 rfl) (x_iconst (dA d_M_beginLevel 46 rfl) hq)))) ?_
        refine z_gd (fun g37 => ?_)
        refine z_go (fun Q hq => x_lald (dA d_M_beginLevel 47 rfl) (L27.sh (x := (103, 400)) rfl) g37.1 g37.2 (by decide) hq) ?_
        refine z_bnd (rest := []) (st1 := fun v => mI v :: []) (S_M_nameOf (d := 2) (Nat.le_refl _) L27 ) (fun _ hx => absurd hx List.not_mem_nil) (fun _ => rfl) (fun Q' Q => x_callV (as := [mL (mGl h23 123 (2 : Int).toNat)]) (rest := []) (k' := k_M_nameOf) (dA d_M_beginLevel 48 rfl) o_M_nameOf lk_M_372 im_M_nameOf se_M_nameOf rfl (L27.sh (x := (12, 66)) rfl) (by decide) (Nat.le_of_ble_eq_true rfl) (Nat.le_trans (Nat.le_of_ble_eq_true rfl) hd) (Nat.le_of_ble_eq_true rfl)) (fun x40 h38 e39 p41 => ?_)
        have L42 := L27.ext e39
        refine z_br (fun Q => x_if_lt (dA d_M_beginLevel 49 rfl) rfl p41) (fun c43 => ?_) (fun c43 => ?_)
        · refine z_go (fun Q hq => x_iconst (dA d_M_beginLevel 52 rfl) hq) ?_
          exact S_M_beginLevel_103 hd  L42 rv1 rv2 (inR_lit (0 : Int) rfl)
        · refine z_go (fun Q hq => x_iconst (dA d_M_beginLevel 50 rfl) (x_goto (dA d_M_beginLevel 51 rfl) rfl hq)) ?_
          exact S_M_beginLevel_103 hd  L42 rv1 rv2 (inR_lit (1 : Int) rfl)
noncomputable def F_M_beginLevel_36 (v1 : Int) (v2 : Int) (s1 : Int) (h : MH) : RS Unit := gd (p01 s1) (bnd (F_M_need s1 (6 : Int) h) fun x47 h45 => if x47 = 0 then some (.inl (), h45) else if (6 : Int) ≤ (mGi h45 107 33) then F_M_beginLevel_59 v1 v2 (0 : Int) h45 else F_M_beginLevel_59 v1 v2 (1 : Int) h45)
theorem S_M_beginLevel_36 {d : Nat} (hd : 7 ≤ d) {v1 : Int} {v2 : Int} {s1 : Int} {h : MH} (L : LayC h) (rv1 : inR v1) (rv2 : inR v2) (rs1 : inR s1) : OK d k_M_beginLevel 36 [mR 107, mI v1, mI v2, mN] [mI s1, mR 107] h cV pT (F_M_beginLevel_36  v1 v2 s1 h) := by
  unfold F_M_beginLevel_36
  refine z_go (fun Q hq => x_bipush (dA d_M_beginLevel 20 rfl) (by decide) hq) ?_
  refine z_gd (fun g44 => ?_)
  refine z_bnd (rest := []) (st1 := fun v => mI v :: []) (S_M_need (d := 1) (Nat.le_refl _) L g44 (inR_lit (6 : Int) rfl)) (fun _ hx => absurd hx List.not_mem_nil) (fun _ => rfl) (fun Q' Q => x_callV (as := [mI s1, mI (6 : Int)]) (rest := []) (k' := k_M_need) (dA d_M_beginLevel 21 rfl) o_M_need lk_M_181 im_M_need se_M_need rfl (L.sh (x := (12, 66)) rfl) (by decide) (Nat.le_of_ble_eq_true rfl) (Nat.le_trans (Nat.le_of_ble_eq_true rfl) hd) (Nat.le_of_ble_eq_true rfl)) (fun x47 h45 e46 p48 => ?_)
  have L49 := L.ext e46
  refine z_br (fun Q => x_if_eq (dA d_M_beginLevel 22 rfl) rfl p48.inR) (fun c50 => ?_) (fun c50 => ?_)
  · exact z_retv (dA d_M_beginLevel 34 rfl) rfl
  · refine z_go (fun Q hq => x_aload_n (dA d_M_beginLevel 23 rfl) rfl rfl (x_aload_n (dA d_M_beginLevel 24 rfl) rfl rfl (x_getI (dA d_M_beginLevel 25 rfl) f_M_503 (L49.sh (x := (12, 66)) rfl) (by decide) (by decide) rfl (x_bipush (dA d_M_beginLevel 26 rfl) (by decide) hq)))) ?_
    refine z_br (fun Q => x_icmp_ge (dA d_M_beginLevel 27 rfl) rfl (L49.rg _ _) (inR_lit (6 : Int) rfl)) (fun c51 => ?_) (fun c51 => ?_)
    · refine z_go (fun Q hq => x_iconst (dA d_M_beginLevel 30 rfl) hq) ?_
      exact S_M_beginLevel_59 hd  L49 rv1 rv2 (inR_lit (0 : Int) rfl)
    · refine z_go (fun Q hq => x_iconst (dA d_M_beginLevel 28 rfl) (x_goto (dA d_M_beginLevel 29 rfl) rfl hq)) ?_
      exact S_M_beginLevel_59 hd  L49 rv1 rv2 (inR_lit (1 : Int) rfl)
noncomputable def F_M_beginLevel_35 (v1 : Int) (v2 : Int) (h : MH) : RS Unit := F_M_beginLevel_36 v1 v2 (0 : Int) h
theorem S_M_beginLevel_35 {d : Nat} (hd : 7 ≤ d) {v1 : Int} {v2 : Int} {h : MH} (L : LayC h) (rv1 : inR v1) (rv2 : inR v2) : OK d k_M_beginLevel 35 [mR 107, mI v1, mI v2, mN] [mR 107] h cV pT (F_M_beginLevel_35  v1 v2 h) := by
  unfold F_M_beginLevel_35
  refine z_go (fun Q hq => x_iconst (dA d_M_beginLevel 19 rfl) hq) ?_
  exact S_M_beginLevel_36 hd  L rv1 rv2 (inR_lit (0 : Int) rfl)
noncomputable def F_M_beginLevel_31 (v1 : Int) (v2 : Int) (h : MH) : RS Unit := F_M_beginLevel_36 v1 v2 (1 : Int) h
theorem S_M_beginLevel_31 {d : Nat} (hd : 7 ≤ d) {v1 : Int} {v2 : Int} {h : MH} (L : LayC h) (rv1 : inR v1) (rv2 : inR v2) : OK d k_M_beginLevel 31 [mR 107, mI v1, mI v2, mN] [mR 107] h cV pT (F_M_beginLevel_31  v1 v2 h) := by
  unfold F_M_beginLevel_31
  refine z_go (fun Q hq => x_iconst (dA d_M_beginLevel 17 rfl) (x_goto (dA d_M_beginLevel 18 rfl) rfl hq)) ?_
  exact S_M_beginLevel_36 hd  L rv1 rv2 (inR_lit (1 : Int) rfl)
noncomputable def F_M_beginLevel (a1 : Int) (h : MH) : RS Unit := bnd (F_M_isActive h) fun x54 h52 => if x54 = 0 then F_M_beginLevel_31 a1 x54 h52 else if a1 = 0 then F_M_beginLevel_31 a1 x54 h52 else if (mGi h52 107 29) = (3 : Int) then bnd (F_M_kindAt (2 : Int) h52) fun x62 h60 => if x62 = (1 : Int) then F_M_beginLevel_31 a1 x54 h60 else F_M_beginLevel_35 a1 x54 h60 else F_M_beginLevel_35 a1 x54 h52
theorem S_M_beginLevel {d : Nat} (hd : 7 ≤ d) {a1 : Int} {h : MH} (L : LayC h) (ra1 : inR a1) : OK d k_M_beginLevel 0 [mR 107, mI a1, mN, mN] [] h cV pT (F_M_beginLevel  a1 h) := by
  unfold F_M_beginLevel
  refine z_go (fun Q hq => x_aload_n (dA d_M_beginLevel 0 rfl) rfl rfl hq) ?_
  refine z_bnd (rest := []) (st1 := fun v => mI v :: []) (S_M_isActive (d := 0) (Nat.le_refl _) L ) (fun _ hx => absurd hx List.not_mem_nil) (fun _ => rfl) (fun Q' Q => x_callV (as := []) (rest := []) (k' := k_M_isActive) (dA d_M_beginLevel 1 rfl) o_M_isActive lk_M_506 im_M_isActive se_M_isActive rfl (L.sh (x := (12, 66)) rfl) (by decide) (Nat.le_of_ble_eq_true rfl) (Nat.le_trans (Nat.le_of_ble_eq_true rfl) hd) (Nat.le_of_ble_eq_true rfl)) (fun x54 h52 e53 p55 => ?_)
  have L56 := L.ext e53
  refine z_go (fun Q hq => x_istore_n (dA d_M_beginLevel 2 rfl) rfl (by decide) rfl (x_aload_n (dA d_M_beginLevel 3 rfl) rfl rfl (x_iload_n (dA d_M_beginLevel 4 rfl) rfl rfl hq))) ?_
  refine z_br (fun Q => x_if_eq (dA d_M_beginLevel 5 rfl) rfl p55.inR) (fun c57 => ?_) (fun c57 => ?_)
  · exact S_M_beginLevel_31 hd  L56 ra1 p55.inR
  · refine z_go (fun Q hq => x_iload_n (dA d_M_beginLevel 6 rfl) rfl rfl hq) ?_
    refine z_br (fun Q => x_if_eq (dA d_M_beginLevel 7 rfl) rfl ra1) (fun c58 => ?_) (fun c58 => ?_)
    · exact S_M_beginLevel_31 hd  L56 ra1 p55.inR
    · refine z_go (fun Q hq => x_aload_n (dA d_M_beginLevel 8 rfl) rfl rfl (x_getI (dA d_M_beginLevel 9 rfl) f_M_340 (L56.sh (x := (12, 66)) rfl) (by decide) (by decide) rfl (x_iconst (dA d_M_beginLevel 10 rfl) hq))) ?_
      refine z_brn (fun Q => x_icmp_ne (dA d_M_beginLevel 11 rfl) rfl (L56.rg _ _) (inR_lit (3 : Int) rfl)) (fun c59 => ?_) (fun c59 => ?_)
      · refine z_go (fun Q hq => x_aload_n (dA d_M_beginLevel 12 rfl) rfl rfl (x_iconst (dA d_M_beginLevel 13 rfl) hq)) ?_
        refine z_bnd (rest := [mR 107]) (st1 := fun v => mI v :: [mR 107]) (S_M_kindAt (d := 1) (Nat.le_refl _) L56 (inR_lit (2 : Int) rfl)) (fun _ hx => absurd hx List.not_mem_nil) (fun _ => rfl) (fun Q' Q => x_callV (as := [mI (2 : Int)]) (rest := [mR 107]) (k' := k_M_kindAt) (dA d_M_beginLevel 14 rfl) o_M_kindAt lk_M_361 im_M_kindAt se_M_kindAt rfl (L56.sh (x := (12, 66)) rfl) (by decide) (Nat.le_of_ble_eq_true rfl) (Nat.le_trans (Nat.le_of_ble_eq_true rfl) hd) (Nat.le_of_ble_eq_true rfl)) (fun x62 h60 e61 p63 => ?_)
        have L64 := L56.ext e61
        refine z_go (fun Q hq => x_iconst (dA d_M_beginLevel 15 rfl) hq) ?_
        refine z_brn (fun Q => x_icmp_ne (dA d_M_beginLevel 16 rfl) rfl p63 (inR_lit (1 : Int) rfl)) (fun c65 => ?_) (fun c65 => ?_)
        · exact S_M_beginLevel_31 hd  L64 ra1 p55.inR
        · exact S_M_beginLevel_35 hd  L64 ra1 p55.inR
      · exact S_M_beginLevel_35 hd  L56 ra1 p55.inR
/-! TwoMillsModel.turnOrEnd(Z)V -/
noncomputable def F_M_turnOrEnd_118 (s1 : Int) (s2 : Int) (h : MH) : RS Unit := gd (0 ≤ s1 ∧ s1 < 6) (gd (p01 s2) (sto (mPi h 133 s1.toNat s2) fun h3 => some (.inl (), h3)))
theorem S_M_turnOrEnd_118 {d : Nat} (hd : 2 ≤ d) {s1 : Int} {s2 : Int} {h : MH} (L : LayC h) (rs1 : inR s1) (rs2 : inR s2) : OK d k_M_turnOrEnd 118 [mN, mN, mN] [mI s2, mI s1, mR 133] h cV pT (F_M_turnOrEnd_118  s1 s2 h) := by
  unfold F_M_turnOrEnd_118
  refine z_gd (fun g1 => ?_)
  refine z_gd (fun g2 => ?_)
  refine z_sto (Ext.pi (L.sh (x := (102, 6)) rfl) (by decide) rs2) (fun Q hq => x_zast (dA d_M_turnOrEnd 64 rfl) (L.sh (x := (102, 6)) rfl) g1.1 g1.2 (by decide) g2 hq) (fun h3 e4 => ?_)
  have L5 := L.ext e4
  exact z_retv (dA d_M_turnOrEnd 65 rfl) rfl
noncomputable def F_M_turnOrEnd_89 (v2 : Int) (s1 : Int) (h : MH) : RS Unit := sto (mPi h 107 33 s1) fun h6 => gd (0 ≤ v2 ∧ v2 < 6) (sto (mPi h6 134 v2.toNat (1 : Int)) fun h10 => if (mGi h10 133 v2.toNat) = 0 then F_M_turnOrEnd_118 v2 (1 : Int) h10 else F_M_turnOrEnd_118 v2 (0 : Int) h10)
theorem S_M_turnOrEnd_89 {d : Nat} (hd : 2 ≤ d) {v2 : Int} {s1 : Int} {h : MH} (L : LayC h) (rv2 : inR v2) (rs1 : inR s1) : OK d k_M_turnOrEnd 89 [mR 107, mN, mI v2] [mI s1, mR 107] h cV pT (F_M_turnOrEnd_89  v2 s1 h) := by
  unfold F_M_turnOrEnd_89
  refine z_sto (Ext.pi (L.sh (x := (12, 66)) rfl) (by decide) rs1) (fun Q hq => x_putI (dA d_M_turnOrEnd 47 rfl) p_M_503 (L.sh (x := (12, 66)) rfl) (by decide) cl_M rfl hq) (fun h6 e7 => ?_)
  have L8 := L.ext e7
  refine z_go (fun Q hq => x_aload_n (dA d_M_turnOrEnd 48 rfl) rfl rfl (x_getR (dA d_M_turnOrEnd 49 rfl) f_M_91 (L8.sh (x := (12, 66)) rfl) (by decide) (by decide) rfl (L8.rf 135 rfl) (x_iload_n (dA d_M_turnOrEnd 50 rfl) rfl rfl (x_iconst (dA d_M_turnOrEnd 51 rfl) hq)))) ?_
  refine z_gd (fun g9 => ?_)
  refine z_sto (Ext.pi (L8.sh (x := (102, 6)) rfl) (by decide) (inR_lit (1 : Int) rfl)) (fun Q hq => x_zast (dA d_M_turnOrEnd 52 rfl) (L8.sh (x := (102, 6)) rfl) g9.1 g9.2 (by decide) (.inr rfl) hq) (fun h10 e11 => ?_)
  have L12 := L8.ext e11
  refine z_go (fun Q hq => x_aload_n (dA d_M_turnOrEnd 53 rfl) rfl rfl (x_getR (dA d_M_turnOrEnd 54 rfl) f_M_88 (L12.sh (x := (12, 66)) rfl) (by decide) (by decide) rfl (L12.rf 134 rfl) (x_iload_n (dA d_M_turnOrEnd 55 rfl) rfl rfl (x_aload_n (dA d_M_turnOrEnd 56 rfl) rfl rfl (x_getR (dA d_M_turnOrEnd 57 rfl) f_M_88 (L12.sh (x := (12, 66)) rfl) (by decide) (by decide) rfl (L12.rf 134 rfl) (x_iload_n (dA d_M_turnOrEnd 58 rfl) rfl rfl (x_zald (dA d_M_turnOrEnd 59 rfl) (L12.sh (x := (102, 6)) rfl) g9.1 g9.2 (by decide) hq))))))) ?_
  refine z_brn (fun Q => x_if_ne (dA d_M_turnOrEnd 60 rfl) rfl (L12.rg _ _)) (fun c13 => ?_) (fun c13 => ?_)
  · refine z_go (fun Q hq => x_iconst (dA d_M_turnOrEnd 61 rfl) (x_goto (dA d_M_turnOrEnd 62 rfl) rfl hq)) ?_
    refine z_fgt (ls' := [mN, mN, mN]) ⟨.inl rfl, .inl rfl, .inl rfl, trivial⟩ ?_
    exact S_M_turnOrEnd_118 hd  L12 rv2 (inR_lit (1 : Int) rfl)
  · refine z_go (fun Q hq => x_iconst (dA d_M_turnOrEnd 63 rfl) hq) ?_
    refine z_fgt (ls' := [mN, mN, mN]) ⟨.inl rfl, .inl rfl, .inl rfl, trivial⟩ ?_
    exact S_M_turnOrEnd_118 hd  L12 rv2 (inR_lit (0 : Int) rfl)
noncomputable def F_M_turnOrEnd_60 (v1 : Int) (s1 : Int) (h : MH) : RS Unit := gd (p01 s1) (bnd (F_M_need s1 (10 : Int) h) fun x17 h15 => if x17 = 0 then some (.inl (), h15) else gd (inR ((mGi h15 107 33) - (1 : Int))) (if v1 = 0 then F_M_turnOrEnd_89 ((mGi h15 107 33) - (1 : Int)) ((mGi h15 107 33) - (1 : Int)) h15 else F_M_turnOrEnd_89 ((mGi h15 107 33) - (1 : Int)) (mGi h15 107 33) h15))
theorem S_M_turnOrEnd_60 {d : Nat} (hd : 2 ≤ d) {v1 : Int} {s1 : Int} {h : MH} (L : LayC h) (rv1 : inR v1) (rs1 : inR s1) : OK d k_M_turnOrEnd 60 [mR 107, mI v1, mN] [mI s1, mR 107] h cV pT (F_M_turnOrEnd_60  v1 s1 h) := by
  unfold F_M_turnOrEnd_60
  refine z_go (fun Q hq => x_bipush (dA d_M_turnOrEnd 31 rfl) (by decide) hq) ?_
  refine z_gd (fun g14 => ?_)
  refine z_bnd (rest := []) (st1 := fun v => mI v :: []) (S_M_need (d := 1) (Nat.le_refl _) L g14 (inR_lit (10 : Int) rfl)) (fun _ hx => absurd hx List.not_mem_nil) (fun _ => rfl) (fun Q' Q => x_callV (as := [mI s1, mI (10 : Int)]) (rest := []) (k' := k_M_need) (dA d_M_turnOrEnd 32 rfl) o_M_need lk_M_181 im_M_need se_M_need rfl (L.sh (x := (12, 66)) rfl) (by decide) (Nat.le_of_ble_eq_true rfl) (Nat.le_trans (Nat.le_of_ble_eq_true rfl) hd) (Nat.le_of_ble_eq_true rfl)) (fun x17 h15 e16 p18 => ?_)
  have L19 := L.ext e16
  refine z_brn (fun Q => x_if_ne (dA d_M_turnOrEnd 33 rfl) rfl p18.inR) (fun c20 => ?_) (fun c20 => ?_)
  · exact z_retv (dA d_M_turnOrEnd 34 rfl) rfl
  · refine z_go (fun Q hq => x_aload_n (dA d_M_turnOrEnd 35 rfl) rfl rfl (x_getI (dA d_M_turnOrEnd 36 rfl) f_M_503 (L19.sh (x := (12, 66)) rfl) (by decide) (by decide) rfl (x_iconst (dA d_M_turnOrEnd 37 rfl) hq))) ?_
    refine z_gd (fun g21 => ?_)
    refine z_go (fun Q hq => x_isub (dA d_M_turnOrEnd 38 rfl) (x_istore_n (dA d_M_turnOrEnd 39 rfl) rfl (by decide) rfl (x_aload_n (dA d_M_turnOrEnd 40 rfl) rfl rfl (x_iload_n (dA d_M_turnOrEnd 41 rfl) rfl rfl hq)))) ?_
    refine z_br (fun Q => x_if_eq (dA d_M_turnOrEnd 42 rfl) rfl rv1) (fun c22 => ?_) (fun c22 => ?_)
    · refine z_go (fun Q hq => x_iload_n (dA d_M_turnOrEnd 46 rfl) rfl rfl hq) ?_
      refine z_fgt (ls' := [mR 107, mN, mI ((mGi h15 107 33) - (1 : Int))]) ⟨.inr rfl, .inl rfl, .inr rfl, trivial⟩ ?_
      exact S_M_turnOrEnd_89 hd  L19 g21 g21
    · refine z_go (fun Q hq => x_aload_n (dA d_M_turnOrEnd 43 rfl) rfl rfl (x_getI (dA d_M_turnOrEnd 44 rfl) f_M_503 (L19.sh (x := (12, 66)) rfl) (by decide) (by decide) rfl (x_goto (dA d_M_turnOrEnd 45 rfl) rfl hq))) ?_
      refine z_fgt (ls' := [mR 107, mN, mI ((mGi h15 107 33) - (1 : Int))]) ⟨.inr rfl, .inl rfl, .inr rfl, trivial⟩ ?_
      exact S_M_turnOrEnd_89 hd  L19 g21 (L19.rg _ _)
noncomputable def F_M_turnOrEnd_59 (v1 : Int) (h : MH) : RS Unit := F_M_turnOrEnd_60 v1 (0 : Int) h
theorem S_M_turnOrEnd_59 {d : Nat} (hd : 2 ≤ d) {v1 : Int} {h : MH} (L : LayC h) (rv1 : inR v1) : OK d k_M_turnOrEnd 59 [mR 107, mI v1, mN] [mR 107] h cV pT (F_M_turnOrEnd_59  v1 h) := by
  unfold F_M_turnOrEnd_59
  refine z_go (fun Q hq => x_iconst (dA d_M_turnOrEnd 30 rfl) hq) ?_
  exact S_M_turnOrEnd_60 hd  L rv1 (inR_lit (0 : Int) rfl)
noncomputable def F_M_turnOrEnd_55 (v1 : Int) (h : MH) : RS Unit := F_M_turnOrEnd_60 v1 (1 : Int) h
theorem S_M_turnOrEnd_55 {d : Nat} (hd : 2 ≤ d) {v1 : Int} {h : MH} (L : LayC h) (rv1 : inR v1) : OK d k_M_turnOrEnd 55 [mR 107, mI v1, mN] [mR 107] h cV pT (F_M_turnOrEnd_55  v1 h) := by
  unfold F_M_turnOrEnd_55
  refine z_go (fun Q hq => x_iconst (dA d_M_turnOrEnd 28 rfl) (x_goto (dA d_M_turnOrEnd 29 rfl) rfl hq)) ?_
  exact S_M_turnOrEnd_60 hd  L rv1 (inR_lit (1 : Int) rfl)
noncomputable def F_M_turnOrEnd_21 (v1 : Int) (s1 : Int) (h : MH) : RS Unit := gd (p01 s1) (bnd (F_M_need s1 (6 : Int) h) fun x26 h24 => if x26 = 0 then some (.inl (), h24) else if (mGi h24 107 33) ≤ 0 then F_M_turnOrEnd_59 v1 h24 else if v1 = 0 then F_M_turnOrEnd_55 v1 h24 else gd (inR ((mGi h24 107 33) - (1 : Int))) (gd (0 ≤ ((mGi h24 107 33) - (1 : Int)) ∧ ((mGi h24 107 33) - (1 : Int)) < 6) (if (mGi h24 134 ((mGi h24 107 33) - (1 : Int)).toNat) = 0 then F_M_turnOrEnd_55 v1 h24 else F_M_turnOrEnd_59 v1 h24)))
theorem S_M_turnOrEnd_21 {d : Nat} (hd : 2 ≤ d) {v1 : Int} {s1 : Int} {h : MH} (L : LayC h) (rv1 : inR v1) (rs1 : inR s1) : OK d k_M_turnOrEnd 21 [mR 107, mI v1, mN] [mI s1, mR 107] h cV pT (F_M_turnOrEnd_21  v1 s1 h) := by
  unfold F_M_turnOrEnd_21
  refine z_go (fun Q hq => x_bipush (dA d_M_turnOrEnd 11 rfl) (by decide) hq) ?_
  refine z_gd (fun g23 => ?_)
  refine z_bnd (rest := []) (st1 := fun v => mI v :: []) (S_M_need (d := 1) (Nat.le_refl _) L g23 (inR_lit (6 : Int) rfl)) (fun _ hx => absurd hx List.not_mem_nil) (fun _ => rfl) (fun Q' Q => x_callV (as := [mI s1, mI (6 : Int)]) (rest := []) (k' := k_M_need) (dA d_M_turnOrEnd 12 rfl) o_M_need lk_M_181 im_M_need se_M_need rfl (L.sh (x := (12, 66)) rfl) (by decide) (Nat.le_of_ble_eq_true rfl) (Nat.le_trans (Nat.le_of_ble_eq_true rfl) hd) (Nat.le_of_ble_eq_true rfl)) (fun x26 h24 e25 p27 => ?_)
  have L28 := L.ext e25
  refine z_br (fun Q => x_if_eq (dA d_M_turnOrEnd 13 rfl) rfl p27.inR) (fun c29 => ?_) (fun c29 => ?_)
  · exact z_retv (dA d_M_turnOrEnd 34 rfl) rfl
  · refine z_go (fun Q hq => x_aload_n (dA d_M_turnOrEnd 14 rfl) rfl rfl (x_aload_n (dA d_M_turnOrEnd 15 rfl) rfl rfl (x_getI (dA d_M_turnOrEnd 16 rfl) f_M_503 (L28.sh (x := (12, 66)) rfl) (by decide) (by decide) rfl hq))) ?_
    refine z_br (fun Q => x_if_le (dA d_M_turnOrEnd 17 rfl) rfl (L28.rg _ _)) (fun c30 => ?_) (fun c30 => ?_)
    · exact S_M_turnOrEnd_59 hd  L28 rv1
    · refine z_go (fun Q hq => x_iload_n (dA d_M_turnOrEnd 18 rfl) rfl rfl hq) ?_
      refine z_br (fun Q => x_if_eq (dA d_M_turnOrEnd 19 rfl) rfl rv1) (fun c31 => ?_) (fun c31 => ?_)
      · exact S_M_turnOrEnd_55 hd  L28 rv1
      · refine z_go (fun Q hq => x_aload_n (dA d_M_turnOrEnd 20 rfl) rfl rfl (x_getR (dA d_M_turnOrEnd 21 rfl) f_M_91 (L28.sh (x := (12, 66)) rfl) (by decide) (by decide) rfl (L28.rf 135 rfl) (x_aload_n (dA d_M_turnOrEnd 22 rfl) rfl rfl (x_getI (dA d_M_turnOrEnd 23 rfl) f_M_503 (L28.sh (x := (12, 66)) rfl) (by decide) (by decide) rfl (x_iconst (dA d_M_turnOrEnd 24 rfl) hq))))) ?_
        refine z_gd (fun g32 => ?_)
        refine z_go (fun Q hq => x_isub (dA d_M_turnOrEnd 25 rfl) hq) ?_
        refine z_gd (fun g33 => ?_)
        refine z_go (fun Q hq => x_zald (dA d_M_turnOrEnd 26 rfl) (L28.sh (x := (102, 6)) rfl) g33.1 g33.2 (by decide) hq) ?_
        refine z_brn (fun Q => x_if_ne (dA d_M_turnOrEnd 27 rfl) rfl (L28.rg _ _)) (fun c34 => ?_) (fun c34 => ?_)
        · exact S_M_turnOrEnd_55 hd  L28 rv1
        · exact S_M_turnOrEnd_59 hd  L28 rv1
noncomputable def F_M_turnOrEnd_16 (v1 : Int) (h : MH) : RS Unit := F_M_turnOrEnd_21 v1 (1 : Int) h
theorem S_M_turnOrEnd_16 {d : Nat} (hd : 2 ≤ d) {v1 : Int} {h : MH} (L : LayC h) (rv1 : inR v1) : OK d k_M_turnOrEnd 16 [mR 107, mI v1, mN] [mR 107] h cV pT (F_M_turnOrEnd_16  v1 h) := by
  unfold F_M_turnOrEnd_16
  refine z_go (fun Q hq => x_iconst (dA d_M_turnOrEnd 8 rfl) (x_goto (dA d_M_turnOrEnd 9 rfl) rfl hq)) ?_
  exact S_M_turnOrEnd_21 hd  L rv1 (inR_lit (1 : Int) rfl)
noncomputable def F_M_turnOrEnd (a1 : Int) (h : MH) : RS Unit := bnd (F_M_isActive h) fun x37 h35 => if x37 = 0 then F_M_turnOrEnd_16 a1 h35 else if (mGi h35 107 29) = (2 : Int) then F_M_turnOrEnd_16 a1 h35 else F_M_turnOrEnd_21 a1 (0 : Int) h35
theorem S_M_turnOrEnd {d : Nat} (hd : 2 ≤ d) {a1 : Int} {h : MH} (L : LayC h) (ra1 : p01 a1) : OK d k_M_turnOrEnd 0 [mR 107, mI a1, mN] [] h cV pT (F_M_turnOrEnd  a1 h) := by
  unfold F_M_turnOrEnd
  refine z_go (fun Q hq => x_aload_n (dA d_M_turnOrEnd 0 rfl) rfl rfl (x_aload_n (dA d_M_turnOrEnd 1 rfl) rfl rfl hq)) ?_
  refine z_bnd (rest := [mR 107]) (st1 := fun v => mI v :: [mR 107]) (S_M_isActive (d := 0) (Nat.le_refl _) L ) (fun _ hx => absurd hx List.not_mem_nil) (fun _ => rfl) (fun Q' Q => x_callV (as := []) (rest := [mR 107]) (k' := k_M_isActive) (dA d_M_turnOrEnd 2 rfl) o_M_isActive lk_M_506 im_M_isActive se_M_isActive rfl (L.sh (x := (12, 66)) rfl) (by decide) (Nat.le_of_ble_eq_true rfl) (Nat.le_trans (Nat.le_of_ble_eq_true rfl) hd) (Nat.le_of_ble_eq_true rfl)) (fun x37 h35 e36 p38 => ?_)
  have L39 := L.ext e36
  refine z_br (fun Q => x_if_eq (dA d_M_turnOrEnd 3 rfl) rfl p38.inR) (fun c40 => ?_) (fun c40 => ?_)
  · exact S_M_turnOrEnd_16 hd  L39 ra1.inR
  · refine z_go (fun Q hq => x_aload_n (dA d_M_turnOrEnd 4 rfl) rfl rfl (x_getI (dA d_M_turnOrEnd 5 rfl) f_M_340 (L39.sh (x := (12, 66)) rfl) (by decide) (by decide) rfl (x_iconst (dA d_M_turnOrEnd 6 rfl) hq))) ?_
    refine z_brn (fun Q => x_icmp_ne (dA d_M_turnOrEnd 7 rfl) rfl (L39.rg _ _) (inR_lit (2 : Int) rfl)) (fun c41 => ?_) (fun c41 => ?_)
    · exact S_M_turnOrEnd_16 hd  L39 ra1.inR
    · refine z_go (fun Q hq => x_iconst (dA d_M_turnOrEnd 10 rfl) hq) ?_
      exact S_M_turnOrEnd_21 hd  L39 ra1.inR (inR_lit (0 : Int) rfl)
end Fns
