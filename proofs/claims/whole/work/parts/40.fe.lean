section Fns
/-! TwoMills$Expression.applyBetween(I)V -/
noncomputable def F_Es_applyBetween_547 (v2 : Int) (v9 : Int64) (h : MH) : RS Unit := gd (0 ≤ v2 ∧ v2 < 100) (sto (mPl h 98 v2.toNat v9) fun h2 => some (.inl (), h2))
theorem S_Es_applyBetween_547 {d : Nat} (hd : 0 ≤ d) {v2 : Int} {v9 : Int64} {h : MH} (L : LayC h) (rv2 : inR v2) : OK d k_Es_applyBetween 547 [mR 97, mN, mI v2, mN, mN, mN, mN, mN, mN, mL v9, mN] [] h cV pT (F_Es_applyBetween_547  v2 v9 h) := by
  unfold F_Es_applyBetween_547
  refine z_go (fun Q hq => x_aload_n (dA d_Es_applyBetween 225 rfl) rfl rfl (x_getR (dA d_Es_applyBetween 226 rfl) f_Es_11 (L.sh (x := (5, 6)) rfl) (by decide) (by decide) rfl (L.rf 105 rfl) (x_iload_n (dA d_Es_applyBetween 227 rfl) rfl rfl (x_lload (dA d_Es_applyBetween 228 rfl) rfl hq)))) ?_
  refine z_gd (fun g1 => ?_)
  refine z_sto Ext.pl (fun Q hq => x_last (dA d_Es_applyBetween 229 rfl) (L.sh (x := (103, 100)) rfl) g1.1 g1.2 (by decide) hq) (fun h2 e3 => ?_)
  have L4 := L.ext e3
  exact z_retv (dA d_Es_applyBetween 230 rfl) rfl
noncomputable def F_Es_applyBetween_545 (v2 : Int) (s0 : Int64) (h : MH) : RS Unit := F_Es_applyBetween_547 v2 s0 h
theorem S_Es_applyBetween_545 {d : Nat} (hd : 0 ≤ d) {v2 : Int} {s0 : Int64} {h : MH} (L : LayC h) (rv2 : inR v2) : OK d k_Es_applyBetween 545 [mR 97, mN, mI v2, mN, mN, mN, mN, mN, mN, mN, mN] [mL s0] h cV pT (F_Es_applyBetween_545  v2 s0 h) := by
  unfold F_Es_applyBetween_545
  refine z_go (fun Q hq => x_lstore (dA d_Es_applyBetween 224 rfl) (by decide) rfl hq) ?_
  exact S_Es_applyBetween_547 hd  L rv2
noncomputable def F_Es_applyBetween_540 (v2 : Int) (h : MH) : RS Unit := F_Es_applyBetween_545 v2 (1 : Int64) h
theorem S_Es_applyBetween_540 {d : Nat} (hd : 0 ≤ d) {v2 : Int} {h : MH} (L : LayC h) (rv2 : inR v2) : OK d k_Es_applyBetween 540 [mR 97, mN, mI v2, mN, mN, mN, mN, mN, mN, mN, mN] [] h cV pT (F_Es_applyBetween_540  v2 h) := by
  unfold F_Es_applyBetween_540
  refine z_go (fun Q hq => x_lconst (v := 1) (dA d_Es_applyBetween 221 rfl) rfl (x_goto (dA d_Es_applyBetween 222 rfl) rfl hq)) ?_
  exact S_Es_applyBetween_545 hd  L rv2
noncomputable def F_Es_applyBetween_522 (v2 : Int) (s0 : Int64) (h : MH) : RS Unit := F_Es_applyBetween_547 v2 s0 h
theorem S_Es_applyBetween_522 {d : Nat} (hd : 0 ≤ d) {v2 : Int} {s0 : Int64} {h : MH} (L : LayC h) (rv2 : inR v2) : OK d k_Es_applyBetween 522 [mR 97, mN, mI v2, mN, mN, mN, mN, mN, mN, mN, mN] [mL s0] h cV pT (F_Es_applyBetween_522  v2 s0 h) := by
  unfold F_Es_applyBetween_522
  refine z_go (fun Q hq => x_lstore (dA d_Es_applyBetween 211 rfl) (by decide) rfl (x_goto (dA d_Es_applyBetween 212 rfl) rfl hq)) ?_
  exact S_Es_applyBetween_547 hd  L rv2
noncomputable def F_Es_applyBetween_521 (v2 : Int) (h : MH) : RS Unit := F_Es_applyBetween_522 v2 (0 : Int64) h
theorem S_Es_applyBetween_521 {d : Nat} (hd : 0 ≤ d) {v2 : Int} {h : MH} (L : LayC h) (rv2 : inR v2) : OK d k_Es_applyBetween 521 [mR 97, mN, mI v2, mN, mN, mN, mN, mN, mN, mN, mN] [] h cV pT (F_Es_applyBetween_521  v2 h) := by
  unfold F_Es_applyBetween_521
  refine z_go (fun Q hq => x_lconst (v := 0) (dA d_Es_applyBetween 210 rfl) rfl hq) ?_
  exact S_Es_applyBetween_522 hd  L rv2
noncomputable def F_Es_applyBetween_472 (v2 : Int) (s0 : Int64) (h : MH) : RS Unit := F_Es_applyBetween_547 v2 s0 h
theorem S_Es_applyBetween_472 {d : Nat} (hd : 0 ≤ d) {v2 : Int} {s0 : Int64} {h : MH} (L : LayC h) (rv2 : inR v2) : OK d k_Es_applyBetween 472 [mR 97, mN, mI v2, mN, mN, mN, mN, mN, mN, mN, mN] [mL s0] h cV pT (F_Es_applyBetween_472  v2 s0 h) := by
  unfold F_Es_applyBetween_472
  refine z_go (fun Q hq => x_lstore (dA d_Es_applyBetween 183 rfl) (by decide) rfl (x_goto (dA d_Es_applyBetween 184 rfl) rfl hq)) ?_
  exact S_Es_applyBetween_547 hd  L rv2
noncomputable def F_Es_applyBetween_455 (v2 : Int) (s0 : Int64) (h : MH) : RS Unit := F_Es_applyBetween_547 v2 s0 h
theorem S_Es_applyBetween_455 {d : Nat} (hd : 0 ≤ d) {v2 : Int} {s0 : Int64} {h : MH} (L : LayC h) (rv2 : inR v2) : OK d k_Es_applyBetween 455 [mR 97, mN, mI v2, mN, mN, mN, mN, mN, mN, mN, mN] [mL s0] h cV pT (F_Es_applyBetween_455  v2 s0 h) := by
  unfold F_Es_applyBetween_455
  refine z_go (fun Q hq => x_lstore (dA d_Es_applyBetween 174 rfl) (by decide) rfl (x_goto (dA d_Es_applyBetween 175 rfl) rfl hq)) ?_
  exact S_Es_applyBetween_547 hd  L rv2
noncomputable def F_Es_applyBetween_438 (v2 : Int) (s0 : Int64) (h : MH) : RS Unit := F_Es_applyBetween_547 v2 s0 h
theorem S_Es_applyBetween_438 {d : Nat} (hd : 0 ≤ d) {v2 : Int} {s0 : Int64} {h : MH} (L : LayC h) (rv2 : inR v2) : OK d k_Es_applyBetween 438 [mR 97, mN, mI v2, mN, mN, mN, mN, mN, mN, mN, mN] [mL s0] h cV pT (F_Es_applyBetween_438  v2 s0 h) := by
  unfold F_Es_applyBetween_438
  refine z_go (fun Q hq => x_lstore (dA d_Es_applyBetween 165 rfl) (by decide) rfl (x_goto (dA d_Es_applyBetween 166 rfl) rfl hq)) ?_
  exact S_Es_applyBetween_547 hd  L rv2
noncomputable def F_Es_applyBetween_421 (v2 : Int) (s0 : Int64) (h : MH) : RS Unit := F_Es_applyBetween_547 v2 s0 h
theorem S_Es_applyBetween_421 {d : Nat} (hd : 0 ≤ d) {v2 : Int} {s0 : Int64} {h : MH} (L : LayC h) (rv2 : inR v2) : OK d k_Es_applyBetween 421 [mR 97, mN, mI v2, mN, mN, mN, mN, mN, mN, mN, mN] [mL s0] h cV pT (F_Es_applyBetween_421  v2 s0 h) := by
  unfold F_Es_applyBetween_421
  refine z_go (fun Q hq => x_lstore (dA d_Es_applyBetween 156 rfl) (by decide) rfl (x_goto (dA d_Es_applyBetween 157 rfl) rfl hq)) ?_
  exact S_Es_applyBetween_547 hd  L rv2
noncomputable def F_Es_applyBetween_404 (v2 : Int) (s0 : Int64) (h : MH) : RS Unit := F_Es_applyBetween_547 v2 s0 h
theorem S_Es_applyBetween_404 {d : Nat} (hd : 0 ≤ d) {v2 : Int} {s0 : Int64} {h : MH} (L : LayC h) (rv2 : inR v2) : OK d k_Es_applyBetween 404 [mR 97, mN, mI v2, mN, mN, mN, mN, mN, mN, mN, mN] [mL s0] h cV pT (F_Es_applyBetween_404  v2 s0 h) := by
  unfold F_Es_applyBetween_404
  refine z_go (fun Q hq => x_lstore (dA d_Es_applyBetween 147 rfl) (by decide) rfl (x_goto (dA d_Es_applyBetween 148 rfl) rfl hq)) ?_
  exact S_Es_applyBetween_547 hd  L rv2
noncomputable def F_Es_applyBetween_387 (v2 : Int) (s0 : Int64) (h : MH) : RS Unit := F_Es_applyBetween_547 v2 s0 h
theorem S_Es_applyBetween_387 {d : Nat} (hd : 0 ≤ d) {v2 : Int} {s0 : Int64} {h : MH} (L : LayC h) (rv2 : inR v2) : OK d k_Es_applyBetween 387 [mR 97, mN, mI v2, mN, mN, mN, mN, mN, mN, mN, mN] [mL s0] h cV pT (F_Es_applyBetween_387  v2 s0 h) := by
  unfold F_Es_applyBetween_387
  refine z_go (fun Q hq => x_lstore (dA d_Es_applyBetween 138 rfl) (by decide) rfl (x_goto (dA d_Es_applyBetween 139 rfl) rfl hq)) ?_
  exact S_Es_applyBetween_547 hd  L rv2
noncomputable def F_Es_applyBetween_324 (v2 : Int) (s0 : Int64) (h : MH) : RS Unit := F_Es_applyBetween_547 v2 s0 h
theorem S_Es_applyBetween_324 {d : Nat} (hd : 0 ≤ d) {v2 : Int} {s0 : Int64} {h : MH} (L : LayC h) (rv2 : inR v2) : OK d k_Es_applyBetween 324 [mR 97, mN, mI v2, mN, mN, mN, mN, mN, mN, mN, mN] [mL s0] h cV pT (F_Es_applyBetween_324  v2 s0 h) := by
  unfold F_Es_applyBetween_324
  refine z_go (fun Q hq => x_lstore (dA d_Es_applyBetween 103 rfl) (by decide) rfl (x_goto (dA d_Es_applyBetween 104 rfl) rfl hq)) ?_
  exact S_Es_applyBetween_547 hd  L rv2
noncomputable def F_Es_applyBetween_306 (v2 : Int) (s0 : Int64) (h : MH) : RS Unit := F_Es_applyBetween_547 v2 s0 h
theorem S_Es_applyBetween_306 {d : Nat} (hd : 0 ≤ d) {v2 : Int} {s0 : Int64} {h : MH} (L : LayC h) (rv2 : inR v2) : OK d k_Es_applyBetween 306 [mR 97, mN, mI v2, mN, mN, mN, mN, mN, mN, mN, mN] [mL s0] h cV pT (F_Es_applyBetween_306  v2 s0 h) := by
  unfold F_Es_applyBetween_306
  refine z_go (fun Q hq => x_lstore (dA d_Es_applyBetween 94 rfl) (by decide) rfl (x_goto (dA d_Es_applyBetween 95 rfl) rfl hq)) ?_
  exact S_Es_applyBetween_547 hd  L rv2
noncomputable def F_Es_applyBetween_133 (v1 : Int) (v2 : Int) (v3 : Int64) (v5 : Int64) (v7 : Int) (s1 : Int) (s2 : Int) (h : MH) : RS Unit := gd (0 ≤ s1 ∧ s1 < 100) (gd (p01 s2) (sto (mPi h 99 s1.toNat s2) fun h7 => if v1 = (37 : Int) then if v7 = 0 then gd (¬ v5 = 0) (F_Es_applyBetween_324 v2 (v3 - v3 / v5 * v5) h7) else F_Es_applyBetween_324 v2 (0 : Int64) h7 else if v1 = (38 : Int) then F_Es_applyBetween_547 v2 (v3 &&& v5) h7 else if v1 = (42 : Int) then F_Es_applyBetween_547 v2 (v3 * v5) h7 else if v1 = (43 : Int) then F_Es_applyBetween_547 v2 (v3 + v5) h7 else if v1 = (45 : Int) then F_Es_applyBetween_547 v2 (v3 - v5) h7 else if v1 = (47 : Int) then if v7 = 0 then gd (¬ v5 = 0) (F_Es_applyBetween_306 v2 (v3 / v5) h7) else F_Es_applyBetween_306 v2 (0 : Int64) h7 else if v1 = (60 : Int) then if 0 ≤ (lgI v3 v5) then F_Es_applyBetween_387 v2 (0 : Int64) h7 else F_Es_applyBetween_387 v2 (1 : Int64) h7 else if v1 = (62 : Int) then if (lgI v3 v5) ≤ 0 then F_Es_applyBetween_404 v2 (0 : Int64) h7 else F_Es_applyBetween_404 v2 (1 : Int64) h7 else if v1 = (94 : Int) then F_Es_applyBetween_547 v2 (v3 ^^^ v5) h7 else if v1 = (124 : Int) then F_Es_applyBetween_547 v2 (v3 ||| v5) h7 else if v1 = (9766 : Int) then if (lgI v3 (0 : Int64)) = 0 then F_Es_applyBetween_521 v2 h7 else if (lgI v5 (0 : Int64)) = 0 then F_Es_applyBetween_521 v2 h7 else F_Es_applyBetween_522 v2 (1 : Int64) h7 else if v1 = (15420 : Int) then F_Es_applyBetween_547 v2 (v3 <<< ((Int32.ofInt ((v5 &&& (63 : Int64)).toInt32.toInt)).toInt64 &&& 63)) h7 else if v1 = (15649 : Int) then if (lgI v3 v5) = 0 then F_Es_applyBetween_472 v2 (0 : Int64) h7 else F_Es_applyBetween_472 v2 (1 : Int64) h7 else if v1 = (15676 : Int) then if 0 < (lgI v3 v5) then F_Es_applyBetween_421 v2 (0 : Int64) h7 else F_Es_applyBetween_421 v2 (1 : Int64) h7 else if v1 = (15677 : Int) then if (lgI v3 v5) = 0 then F_Es_applyBetween_455 v2 (1 : Int64) h7 else F_Es_applyBetween_455 v2 (0 : Int64) h7 else if v1 = (15678 : Int) then if (lgI v3 v5) < 0 then F_Es_applyBetween_438 v2 (0 : Int64) h7 else F_Es_applyBetween_438 v2 (1 : Int64) h7 else if v1 = (15934 : Int) then F_Es_applyBetween_547 v2 (v3 >>> ((Int32.ofInt ((v5 &&& (63 : Int64)).toInt32.toInt)).toInt64 &&& 63)) h7 else if (lgI v3 (0 : Int64)) = 0 then if (lgI v5 (0 : Int64)) = 0 then F_Es_applyBetween_545 v2 (0 : Int64) h7 else F_Es_applyBetween_540 v2 h7 else F_Es_applyBetween_540 v2 h7))
theorem S_Es_applyBetween_133 {d : Nat} (hd : 0 ≤ d) {v1 : Int} {v2 : Int} {v3 : Int64} {v5 : Int64} {v7 : Int} {s1 : Int} {s2 : Int} {h : MH} (L : LayC h) (rv1 : inR v1) (rv2 : inR v2) (rv7 : inR v7) (rs1 : inR s1) (rs2 : inR s2) : OK d k_Es_applyBetween 133 [mR 97, mI v1, mI v2, mL v3, mN, mL v5, mN, mI v7, mN, mN, mN] [mI s2, mI s1, mR 99] h cV pT (F_Es_applyBetween_133  v1 v2 v3 v5 v7 s1 s2 h) := by
  unfold F_Es_applyBetween_133
  refine z_gd (fun g5 => ?_)
  refine z_gd (fun g6 => ?_)
  refine z_sto (Ext.pi (L.sh (x := (102, 100)) rfl) (by decide) rs2) (fun Q hq => x_zast (dA d_Es_applyBetween 77 rfl) (L.sh (x := (102, 100)) rfl) g5.1 g5.2 (by decide) g6 hq) (fun h7 e8 => ?_)
  have L9 := L.ext e8
  refine z_go (fun Q hq => x_lconst (v := 0) (dA d_Es_applyBetween 78 rfl) rfl (x_lstore (dA d_Es_applyBetween 79 rfl) (by decide) rfl (x_iload_n (dA d_Es_applyBetween 80 rfl) rfl rfl hq))) ?_
  refine z_ite (fun c10 => ?_) (fun c10 => ?_)
  · refine z_go (fun Q hq => x_lookup (dA d_Es_applyBetween 81 rfl) rfl rv1 (by rw [c10] <;> rfl) rfl hq) ?_
    refine z_go (fun Q hq => x_iload (dA d_Es_applyBetween 96 rfl) rfl hq) ?_
    refine z_br (fun Q => x_if_eq (dA d_Es_applyBetween 97 rfl) rfl rv7) (fun c11 => ?_) (fun c11 => ?_)
    · refine z_go (fun Q hq => x_lload_n (dA d_Es_applyBetween 100 rfl) rfl rfl (x_lload (dA d_Es_applyBetween 101 rfl) rfl hq)) ?_
      refine z_gd (fun g12 => ?_)
      refine z_go (fun Q hq => x_lrem (dA d_Es_applyBetween 102 rfl) g12 hq) ?_
      refine z_fgt (ls' := [mR 97, mN, mI v2, mN, mN, mN, mN, mN, mN, mN, mN]) ⟨.inr rfl, .inl rfl, .inr rfl, .inl rfl, .inl rfl, .inl rfl, .inl rfl, .inl rfl, .inl rfl, .inl rfl, .inl rfl, trivial⟩ ?_
      exact S_Es_applyBetween_324 hd  L9 rv2
    · refine z_go (fun Q hq => x_lconst (v := 0) (dA d_Es_applyBetween 98 rfl) rfl (x_goto (dA d_Es_applyBetween 99 rfl) rfl hq)) ?_
      refine z_fgt (ls' := [mR 97, mN, mI v2, mN, mN, mN, mN, mN, mN, mN, mN]) ⟨.inr rfl, .inl rfl, .inr rfl, .inl rfl, .inl rfl, .inl rfl, .inl rfl, .inl rfl, .inl rfl, .inl rfl, .inl rfl, trivial⟩ ?_
      exact S_Es_applyBetween_324 hd  L9 rv2
  refine z_ite (fun c13 => ?_) (fun c13 => ?_)
  · refine z_go (fun Q hq => x_lookup (dA d_Es_applyBetween 81 rfl) rfl rv1 (by rw [c13] <;> rfl) rfl hq) ?_
    refine z_go (fun Q hq => x_lload_n (dA d_Es_applyBetween 185 rfl) rfl rfl (x_lload (dA d_Es_applyBetween 186 rfl) rfl (x_land (dA d_Es_applyBetween 187 rfl) (x_lstore (dA d_Es_applyBetween 188 rfl) (by decide) rfl (x_goto (dA d_Es_applyBetween 189 rfl) rfl hq))))) ?_
    refine z_fgt (ls' := [mR 97, mN, mI v2, mN, mN, mN, mN, mN, mN, mL (v3 &&& v5), mN]) ⟨.inr rfl, .inl rfl, .inr rfl, .inl rfl, .inl rfl, .inl rfl, .inl rfl, .inl rfl, .inl rfl, .inr rfl, .inl rfl, trivial⟩ ?_
    exact S_Es_applyBetween_547 hd  L9 rv2
  refine z_ite (fun c14 => ?_) (fun c14 => ?_)
  · refine z_go (fun Q hq => x_lookup (dA d_Es_applyBetween 81 rfl) rfl rv1 (by rw [c14] <;> rfl) rfl hq) ?_
    refine z_go (fun Q hq => x_lload_n (dA d_Es_applyBetween 82 rfl) rfl rfl (x_lload (dA d_Es_applyBetween 83 rfl) rfl (x_lmul (dA d_Es_applyBetween 84 rfl) (x_lstore (dA d_Es_applyBetween 85 rfl) (by decide) rfl (x_goto (dA d_Es_applyBetween 86 rfl) rfl hq))))) ?_
    refine z_fgt (ls' := [mR 97, mN, mI v2, mN, mN, mN, mN, mN, mN, mL (v3 * v5), mN]) ⟨.inr rfl, .inl rfl, .inr rfl, .inl rfl, .inl rfl, .inl rfl, .inl rfl, .inl rfl, .inl rfl, .inr rfl, .inl rfl, trivial⟩ ?_
    exact S_Es_applyBetween_547 hd  L9 rv2
  refine z_ite (fun c15 => ?_) (fun c15 => ?_)
  · refine z_go (fun Q hq => x_lookup (dA d_Es_applyBetween 81 rfl) rfl rv1 (by rw [c15] <;> rfl) rfl hq) ?_
    refine z_go (fun Q hq => x_lload_n (dA d_Es_applyBetween 105 rfl) rfl rfl (x_lload (dA d_Es_applyBetween 106 rfl) rfl (x_ladd (dA d_Es_applyBetween 107 rfl) (x_lstore (dA d_Es_applyBetween 108 rfl) (by decide) rfl (x_goto (dA d_Es_applyBetween 109 rfl) rfl hq))))) ?_
    refine z_fgt (ls' := [mR 97, mN, mI v2, mN, mN, mN, mN, mN, mN, mL (v3 + v5), mN]) ⟨.inr rfl, .inl rfl, .inr rfl, .inl rfl, .inl rfl, .inl rfl, .inl rfl, .inl rfl, .inl rfl, .inr rfl, .inl rfl, trivial⟩ ?_
    exact S_Es_applyBetween_547 hd  L9 rv2
  refine z_ite (fun c16 => ?_) (fun c16 => ?_)
  · refine z_go (fun Q hq => x_lookup (dA d_Es_applyBetween 81 rfl) rfl rv1 (by rw [c16] <;> rfl) rfl hq) ?_
    refine z_go (fun Q hq => x_lload_n (dA d_Es_applyBetween 110 rfl) rfl rfl (x_lload (dA d_Es_applyBetween 111 rfl) rfl (x_lsub (dA d_Es_applyBetween 112 rfl) (x_lstore (dA d_Es_applyBetween 113 rfl) (by decide) rfl (x_goto (dA d_Es_applyBetween 114 rfl) rfl hq))))) ?_
    refine z_fgt (ls' := [mR 97, mN, mI v2, mN, mN, mN, mN, mN, mN, mL (v3 - v5), mN]) ⟨.inr rfl, .inl rfl, .inr rfl, .inl rfl, .inl rfl, .inl rfl, .inl rfl, .inl rfl, .inl rfl, .inr rfl, .inl rfl, trivial⟩ ?_
    exact S_Es_applyBetween_547 hd  L9 rv2
  refine z_ite (fun c17 => ?_) (fun c17 => ?_)
  · refine z_go (fun Q hq => x_lookup (dA d_Es_applyBetween 81 rfl) rfl rv1 (by rw [c17] <;> rfl) rfl hq) ?_
    refine z_go (fun Q hq => x_iload (dA d_Es_applyBetween 87 rfl) rfl hq) ?_
    refine z_br (fun Q => x_if_eq (dA d_Es_applyBetween 88 rfl) rfl rv7) (fun c18 => ?_) (fun c18 => ?_)
    · refine z_go (fun Q hq => x_lload_n (dA d_Es_applyBetween 91 rfl) rfl rfl (x_lload (dA d_Es_applyBetween 92 rfl) rfl hq)) ?_
      refine z_gd (fun g19 => ?_)
      refine z_go (fun Q hq => x_ldiv (dA d_Es_applyBetween 93 rfl) g19 hq) ?_
      refine z_fgt (ls' := [mR 97, mN, mI v2, mN, mN, mN, mN, mN, mN, mN, mN]) ⟨.inr rfl, .inl rfl, .inr rfl, .inl rfl, .inl rfl, .inl rfl, .inl rfl, .inl rfl, .inl rfl, .inl rfl, .inl rfl, trivial⟩ ?_
      exact S_Es_applyBetween_306 hd  L9 rv2
    · refine z_go (fun Q hq => x_lconst (v := 0) (dA d_Es_applyBetween 89 rfl) rfl (x_goto (dA d_Es_applyBetween 90 rfl) rfl hq)) ?_
      refine z_fgt (ls' := [mR 97, mN, mI v2, mN, mN, mN, mN, mN, mN, mN, mN]) ⟨.inr rfl, .inl rfl, .inr rfl, .inl rfl, .inl rfl, .inl rfl, .inl rfl, .inl rfl, .inl rfl, .inl rfl, .inl rfl, trivial⟩ ?_
      exact S_Es_applyBetween_306 hd  L9 rv2
  refine z_ite (fun c20 => ?_) (fun c20 => ?_)
  · refine z_go (fun Q hq => x_lookup (dA d_Es_applyBetween 81 rfl) rfl rv1 (by rw [c20] <;> rfl) rfl hq) ?_
    refine z_go (fun Q hq => x_lload_n (dA d_Es_applyBetween 131 rfl) rfl rfl (x_lload (dA d_Es_applyBetween 132 rfl) rfl (x_lcmp (dA d_Es_applyBetween 133 rfl) hq))) ?_
    refine z_br (fun Q => x_if_ge (dA d_Es_applyBetween 134 rfl) rfl (inR_lgI _ _)) (fun c21 => ?_) (fun c21 => ?_)
    · refine z_go (fun Q hq => x_lconst (v := 0) (dA d_Es_applyBetween 137 rfl) rfl hq) ?_
      refine z_fgt (ls' := [mR 97, mN, mI v2, mN, mN, mN, mN, mN, mN, mN, mN]) ⟨.inr rfl, .inl rfl, .inr rfl, .inl rfl, .inl rfl, .inl rfl, .inl rfl, .inl rfl, .inl rfl, .inl rfl, .inl rfl, trivial⟩ ?_
      exact S_Es_applyBetween_387 hd  L9 rv2
    · refine z_go (fun Q hq => x_lconst (v := 1) (dA d_Es_applyBetween 135 rfl) rfl (x_goto (dA d_Es_applyBetween 136 rfl) rfl hq)) ?_
      refine z_fgt (ls' := [mR 97, mN, mI v2, mN, mN, mN, mN, mN, mN, mN, mN]) ⟨.inr rfl, .inl rfl, .inr rfl, .inl rfl, .inl rfl, .inl rfl, .inl rfl, .inl rfl, .inl rfl, .inl rfl, .inl rfl, trivial⟩ ?_
      exact S_Es_applyBetween_387 hd  L9 rv2
  refine z_ite (fun c22 => ?_) (fun c22 => ?_)
  · refine z_go (fun Q hq => x_lookup (dA d_Es_applyBetween 81 rfl) rfl rv1 (by rw [c22] <;> rfl) rfl hq) ?_
    refine z_go (fun Q hq => x_lload_n (dA d_Es_applyBetween 140 rfl) rfl rfl (x_lload (dA d_Es_applyBetween 141 rfl) rfl (x_lcmp (dA d_Es_applyBetween 142 rfl) hq))) ?_
    refine z_br (fun Q => x_if_le (dA d_Es_applyBetween 143 rfl) rfl (inR_lgI _ _)) (fun c23 => ?_) (fun c23 => ?_)
    · refine z_go (fun Q hq => x_lconst (v := 0) (dA d_Es_applyBetween 146 rfl) rfl hq) ?_
      refine z_fgt (ls' := [mR 97, mN, mI v2, mN, mN, mN, mN, mN, mN, mN, mN]) ⟨.inr rfl, .inl rfl, .inr rfl, .inl rfl, .inl rfl, .inl rfl, .inl rfl, .inl rfl, .inl rfl, .inl rfl, .inl rfl, trivial⟩ ?_
      exact S_Es_applyBetween_404 hd  L9 rv2
    · refine z_go (fun Q hq => x_lconst (v := 1) (dA d_Es_applyBetween 144 rfl) rfl (x_goto (dA d_Es_applyBetween 145 rfl) rfl hq)) ?_
      refine z_fgt (ls' := [mR 97, mN, mI v2, mN, mN, mN, mN, mN, mN, mN, mN]) ⟨.inr rfl, .inl rfl, .inr rfl, .inl rfl, .inl rfl, .inl rfl, .inl rfl, .inl rfl, .inl rfl, .inl rfl, .inl rfl, trivial⟩ ?_
      exact S_Es_applyBetween_404 hd  L9 rv2
  refine z_ite (fun c24 => ?_) (fun c24 => ?_)
  · refine z_go (fun Q hq => x_lookup (dA d_Es_applyBetween 81 rfl) rfl rv1 (by rw [c24] <;> rfl) rfl hq) ?_
    refine z_go (fun Q hq => x_lload_n (dA d_Es_applyBetween 190 rfl) rfl rfl (x_lload (dA d_Es_applyBetween 191 rfl) rfl (x_lxor (dA d_Es_applyBetween 192 rfl) (x_lstore (dA d_Es_applyBetween 193 rfl) (by decide) rfl (x_goto (dA d_Es_applyBetween 194 rfl) rfl hq))))) ?_
    refine z_fgt (ls' := [mR 97, mN, mI v2, mN, mN, mN, mN, mN, mN, mL (v3 ^^^ v5), mN]) ⟨.inr rfl, .inl rfl, .inr rfl, .inl rfl, .inl rfl, .inl rfl, .inl rfl, .inl rfl, .inl rfl, .inr rfl, .inl rfl, trivial⟩ ?_
    exact S_Es_applyBetween_547 hd  L9 rv2
  refine z_ite (fun c25 => ?_) (fun c25 => ?_)
  · refine z_go (fun Q hq => x_lookup (dA d_Es_applyBetween 81 rfl) rfl rv1 (by rw [c25] <;> rfl) rfl hq) ?_
    refine z_go (fun Q hq => x_lload_n (dA d_Es_applyBetween 195 rfl) rfl rfl (x_lload (dA d_Es_applyBetween 196 rfl) rfl (x_lor (dA d_Es_applyBetween 197 rfl) (x_lstore (dA d_Es_applyBetween 198 rfl) (by decide) rfl (x_goto (dA d_Es_applyBetween 199 rfl) rfl hq))))) ?_
    refine z_fgt (ls' := [mR 97, mN, mI v2, mN, mN, mN, mN, mN, mN, mL (v3 ||| v5), mN]) ⟨.inr rfl, .inl rfl, .inr rfl, .inl rfl, .inl rfl, .inl rfl, .inl rfl, .inl rfl, .inl rfl, .inr rfl, .inl rfl, trivial⟩ ?_
    exact S_Es_applyBetween_547 hd  L9 rv2
  refine z_ite (fun c26 => ?_) (fun c26 => ?_)
  · refine z_go (fun Q hq => x_lookup (dA d_Es_applyBetween 81 rfl) rfl rv1 (by rw [c26] <;> rfl) rfl hq) ?_
    refine z_go (fun Q hq => x_lload_n (dA d_Es_applyBetween 200 rfl) rfl rfl (x_lconst (v := 0) (dA d_Es_applyBetween 201 rfl) rfl (x_lcmp (dA d_Es_applyBetween 202 rfl) hq))) ?_
    refine z_br (fun Q => x_if_eq (dA d_Es_applyBetween 203 rfl) rfl (inR_lgI _ _)) (fun c27 => ?_) (fun c27 => ?_)
    · refine z_fgt (ls' := [mR 97, mN, mI v2, mN, mN, mN, mN, mN, mN, mN, mN]) ⟨.inr rfl, .inl rfl, .inr rfl, .inl rfl, .inl rfl, .inl rfl, .inl rfl, .inl rfl, .inl rfl, .inl rfl, .inl rfl, trivial⟩ ?_
      exact S_Es_applyBetween_521 hd  L9 rv2
    · refine z_go (fun Q hq => x_lload (dA d_Es_applyBetween 204 rfl) rfl (x_lconst (v := 0) (dA d_Es_applyBetween 205 rfl) rfl (x_lcmp (dA d_Es_applyBetween 206 rfl) hq))) ?_
      refine z_br (fun Q => x_if_eq (dA d_Es_applyBetween 207 rfl) rfl (inR_lgI _ _)) (fun c28 => ?_) (fun c28 => ?_)
      · refine z_fgt (ls' := [mR 97, mN, mI v2, mN, mN, mN, mN, mN, mN, mN, mN]) ⟨.inr rfl, .inl rfl, .inr rfl, .inl rfl, .inl rfl, .inl rfl, .inl rfl, .inl rfl, .inl rfl, .inl rfl, .inl rfl, trivial⟩ ?_
        exact S_Es_applyBetween_521 hd  L9 rv2
      · refine z_go (fun Q hq => x_lconst (v := 1) (dA d_Es_applyBetween 208 rfl) rfl (x_goto (dA d_Es_applyBetween 209 rfl) rfl hq)) ?_
        refine z_fgt (ls' := [mR 97, mN, mI v2, mN, mN, mN, mN, mN, mN, mN, mN]) ⟨.inr rfl, .inl rfl, .inr rfl, .inl rfl, .inl rfl, .inl rfl, .inl rfl, .inl rfl, .inl rfl, .inl rfl, .inl rfl, trivial⟩ ?_
        exact S_Es_applyBetween_522 hd  L9 rv2
  refine z_ite (fun c29 => ?_) (fun c29 => ?_)
  · refine z_go (fun Q hq => x_lookup (dA d_Es_applyBetween 81 rfl) rfl rv1 (by rw [c29] <;> rfl) rfl hq) ?_
    refine z_go (fun Q hq => x_lload_n (dA d_Es_applyBetween 115 rfl) rfl rfl (x_lload (dA d_Es_applyBetween 116 rfl) rfl (x_ldc2 (dA d_Es_applyBetween 117 rfl) kl_Es_98 (x_land (dA d_Es_applyBetween 118 rfl) (x_l2i (dA d_Es_applyBetween 119 rfl) (x_lshl (dA d_Es_applyBetween 120 rfl) (x_lstore (dA d_Es_applyBetween 121 rfl) (by decide) rfl (x_goto (dA d_Es_applyBetween 122 rfl) rfl hq)))))))) ?_
    refine z_fgt (ls' := [mR 97, mN, mI v2, mN, mN, mN, mN, mN, mN, mL (v3 <<< ((Int32.ofInt ((v5 &&& (63 : Int64)).toInt32.toInt)).toInt64 &&& 63)), mN]) ⟨.inr rfl, .inl rfl, .inr rfl, .inl rfl, .inl rfl, .inl rfl, .inl rfl, .inl rfl, .inl rfl, .inr rfl, .inl rfl, trivial⟩ ?_
    exact S_Es_applyBetween_547 hd  L9 rv2
  refine z_ite (fun c30 => ?_) (fun c30 => ?_)
  · refine z_go (fun Q hq => x_lookup (dA d_Es_applyBetween 81 rfl) rfl rv1 (by rw [c30] <;> rfl) rfl hq) ?_
    refine z_go (fun Q hq => x_lload_n (dA d_Es_applyBetween 176 rfl) rfl rfl (x_lload (dA d_Es_applyBetween 177 rfl) rfl (x_lcmp (dA d_Es_applyBetween 178 rfl) hq))) ?_
    refine z_br (fun Q => x_if_eq (dA d_Es_applyBetween 179 rfl) rfl (inR_lgI _ _)) (fun c31 => ?_) (fun c31 => ?_)
    · refine z_go (fun Q hq => x_lconst (v := 0) (dA d_Es_applyBetween 182 rfl) rfl hq) ?_
      refine z_fgt (ls' := [mR 97, mN, mI v2, mN, mN, mN, mN, mN, mN, mN, mN]) ⟨.inr rfl, .inl rfl, .inr rfl, .inl rfl, .inl rfl, .inl rfl, .inl rfl, .inl rfl, .inl rfl, .inl rfl, .inl rfl, trivial⟩ ?_
      exact S_Es_applyBetween_472 hd  L9 rv2
    · refine z_go (fun Q hq => x_lconst (v := 1) (dA d_Es_applyBetween 180 rfl) rfl (x_goto (dA d_Es_applyBetween 181 rfl) rfl hq)) ?_
      refine z_fgt (ls' := [mR 97, mN, mI v2, mN, mN, mN, mN, mN, mN, mN, mN]) ⟨.inr rfl, .inl rfl, .inr rfl, .inl rfl, .inl rfl, .inl rfl, .inl rfl, .inl rfl, .inl rfl, .inl rfl, .inl rfl, trivial⟩ ?_
      exact S_Es_applyBetween_472 hd  L9 rv2
  refine z_ite (fun c32 => ?_) (fun c32 => ?_)
  · refine z_go (fun Q hq => x_lookup (dA d_Es_applyBetween 81 rfl) rfl rv1 (by rw [c32] <;> rfl) rfl hq) ?_
    refine z_go (fun Q hq => x_lload_n (dA d_Es_applyBetween 149 rfl) rfl rfl (x_lload (dA d_Es_applyBetween 150 rfl) rfl (x_lcmp (dA d_Es_applyBetween 151 rfl) hq))) ?_
    refine z_br (fun Q => x_if_gt (dA d_Es_applyBetween 152 rfl) rfl (inR_lgI _ _)) (fun c33 => ?_) (fun c33 => ?_)
    · refine z_go (fun Q hq => x_lconst (v := 0) (dA d_Es_applyBetween 155 rfl) rfl hq) ?_
      refine z_fgt (ls' := [mR 97, mN, mI v2, mN, mN, mN, mN, mN, mN, mN, mN]) ⟨.inr rfl, .inl rfl, .inr rfl, .inl rfl, .inl rfl, .inl rfl, .inl rfl, .inl rfl, .inl rfl, .inl rfl, .inl rfl, trivial⟩ ?_
      exact S_Es_applyBetween_421 hd  L9 rv2
    · refine z_go (fun Q hq => x_lconst (v := 1) (dA d_Es_applyBetween 153 rfl) rfl (x_goto (dA d_Es_applyBetween 154 rfl) rfl hq)) ?_
      refine z_fgt (ls' := [mR 97, mN, mI v2, mN, mN, mN, mN, mN, mN, mN, mN]) ⟨.inr rfl, .inl rfl, .inr rfl, .inl rfl, .inl rfl, .inl rfl, .inl rfl, .inl rfl, .inl rfl, .inl rfl, .inl rfl, trivial⟩ ?_
      exact S_Es_applyBetween_421 hd  L9 rv2
  refine z_ite (fun c34 => ?_) (fun c34 => ?_)
  · refine z_go (fun Q hq => x_lookup (dA d_Es_applyBetween 81 rfl) rfl rv1 (by rw [c34] <;> rfl) rfl hq) ?_
    refine z_go (fun Q hq => x_lload_n (dA d_Es_applyBetween 167 rfl) rfl rfl (x_lload (dA d_Es_applyBetween 168 rfl) rfl (x_lcmp (dA d_Es_applyBetween 169 rfl) hq))) ?_
    refine z_brn (fun Q => x_if_ne (dA d_Es_applyBetween 170 rfl) rfl (inR_lgI _ _)) (fun c35 => ?_) (fun c35 => ?_)
    · refine z_go (fun Q hq => x_lconst (v := 1) (dA d_Es_applyBetween 171 rfl) rfl (x_goto (dA d_Es_applyBetween 172 rfl) rfl hq)) ?_
      refine z_fgt (ls' := [mR 97, mN, mI v2, mN, mN, mN, mN, mN, mN, mN, mN]) ⟨.inr rfl, .inl rfl, .inr rfl, .inl rfl, .inl rfl, .inl rfl, .inl rfl, .inl rfl, .inl rfl, .inl rfl, .inl rfl, trivial⟩ ?_
      exact S_Es_applyBetween_455 hd  L9 rv2
    · refine z_go (fun Q hq => x_lconst (v := 0) (dA d_Es_applyBetween 173 rfl) rfl hq) ?_
      refine z_fgt (ls' := [mR 97, mN, mI v2, mN, mN, mN, mN, mN, mN, mN, mN]) ⟨.inr rfl, .inl rfl, .inr rfl, .inl rfl, .inl rfl, .inl rfl, .inl rfl, .inl rfl, .inl rfl, .inl rfl, .inl rfl, trivial⟩ ?_
      exact S_Es_applyBetween_455 hd  L9 rv2
  refine z_ite (fun c36 => ?_) (fun c36 => ?_)
  · refine z_go (fun Q hq => x_lookup (dA d_Es_applyBetween 81 rfl) rfl rv1 (by rw [c36] <;> rfl) rfl hq) ?_
    refine z_go (fun Q hq => x_lload_n (dA d_Es_applyBetween 158 rfl) rfl rfl (x_lload (dA d_Es_applyBetween 159 rfl) rfl (x_lcmp (dA d_Es_applyBetween 160 rfl) hq))) ?_
    refine z_br (fun Q => x_if_lt (dA d_Es_applyBetween 161 rfl) rfl (inR_lgI _ _)) (fun c37 => ?_) (fun c37 => ?_)
    · refine z_go (fun Q hq => x_lconst (v := 0) (dA d_Es_applyBetween 164 rfl) rfl hq) ?_
      refine z_fgt (ls' := [mR 97, mN, mI v2, mN, mN, mN, mN, mN, mN, mN, mN]) ⟨.inr rfl, .inl rfl, .inr rfl, .inl rfl, .inl rfl, .inl rfl, .inl rfl, .inl rfl, .inl rfl, .inl rfl, .inl rfl, trivial⟩ ?_
      exact S_Es_applyBetween_438 hd  L9 rv2
    · refine z_go (fun Q hq => x_lconst (v := 1) (dA d_Es_applyBetween 162 rfl) rfl (x_goto (dA d_Es_applyBetween 163 rfl) rfl hq)) ?_
      refine z_fgt (ls' := [mR 97, mN, mI v2, mN, mN, mN, mN, mN, mN, mN, mN]) ⟨.inr rfl, .inl rfl, .inr rfl, .inl rfl, .inl rfl, .inl rfl, .inl rfl, .inl rfl, .inl rfl, .inl rfl, .inl rfl, trivial⟩ ?_
      exact S_Es_applyBetween_438 hd  L9 rv2
  refine z_ite (fun c38 => ?_) (fun c38 => ?_)
  · refine z_go (fun Q hq => x_lookup (dA d_Es_applyBetween 81 rfl) rfl rv1 (by rw [c38] <;> rfl) rfl hq) ?_
    refine z_go (fun Q hq => x_lload_n (dA d_Es_applyBetween 123 rfl) rfl rfl (x_lload (dA d_Es_applyBetween 124 rfl) rfl (x_ldc2 (dA d_Es_applyBetween 125 rfl) kl_Es_98 (x_land (dA d_Es_applyBetween 126 rfl) (x_l2i (dA d_Es_applyBetween 127 rfl) (x_lshr (dA d_Es_applyBetween 128 rfl) (x_lstore (dA d_Es_applyBetween 129 rfl) (by decide) rfl (x_goto (dA d_Es_applyBetween 130 rfl) rfl hq)))))))) ?_
    refine z_fgt (ls' := [mR 97, mN, mI v2, mN, mN, mN, mN, mN, mN, mL (v3 >>> ((Int32.ofInt ((v5 &&& (63 : Int64)).toInt32.toInt)).toInt64 &&& 63)), mN]) ⟨.inr rfl, .inl rfl, .inr rfl, .inl rfl, .inl rfl, .inl rfl, .inl rfl, .inl rfl, .inl rfl, .inr rfl, .inl rfl, trivial⟩ ?_
    exact S_Es_applyBetween_547 hd  L9 rv2
  refine z_go (fun Q hq => x_lookup (off := 389) (dA d_Es_applyBetween 81 rfl) rfl rv1 (by simp [Op.lookupswitch.offset, c10, c13, c14, c15, c16, c17, c20, c22, c24, c25, c26, c29, c30, c32, c34, c36, c38, Ne.symm c10, Ne.symm c13, Ne.symm c14, Ne.symm c15, Ne.symm c16, Ne.symm c17, Ne.symm c20, Ne.symm c22, Ne.symm c24, Ne.symm c25, Ne.symm c26, Ne.symm c29, Ne.symm c30, Ne.symm c32, Ne.symm c34, Ne.symm c36, Ne.symm c38]) rfl hq) ?_
  refine z_go (fun Q hq => x_lload_n (dA d_Es_applyBetween 213 rfl) rfl rfl (x_lconst (v := 0) (dA d_Es_applyBetween 214 rfl) rfl (x_lcmp (dA d_Es_applyBetween 215 rfl) hq))) ?_
  refine z_brn (fun Q => x_if_ne (dA d_Es_applyBetween 216 rfl) rfl (inR_lgI _ _)) (fun c39 => ?_) (fun c39 => ?_)
  · refine z_go (fun Q hq => x_lload (dA d_Es_applyBetween 217 rfl) rfl (x_lconst (v := 0) (dA d_Es_applyBetween 218 rfl) rfl (x_lcmp (dA d_Es_applyBetween 219 rfl) hq))) ?_
    refine z_br (fun Q => x_if_eq (dA d_Es_applyBetween 220 rfl) rfl (inR_lgI _ _)) (fun c40 => ?_) (fun c40 => ?_)
    · refine z_go (fun Q hq => x_lconst (v := 0) (dA d_Es_applyBetween 223 rfl) rfl hq) ?_
      refine z_fgt (ls' := [mR 97, mN, mI v2, mN, mN, mN, mN, mN, mN, mN, mN]) ⟨.inr rfl, .inl rfl, .inr rfl, .inl rfl, .inl rfl, .inl rfl, .inl rfl, .inl rfl, .inl rfl, .inl rfl, .inl rfl, trivial⟩ ?_
      exact S_Es_applyBetween_545 hd  L9 rv2
    · refine z_fgt (ls' := [mR 97, mN, mI v2, mN, mN, mN, mN, mN, mN, mN, mN]) ⟨.inr rfl, .inl rfl, .inr rfl, .inl rfl, .inl rfl, .inl rfl, .inl rfl, .inl rfl, .inl rfl, .inl rfl, .inl rfl, trivial⟩ ?_
      exact S_Es_applyBetween_540 hd  L9 rv2
  · refine z_fgt (ls' := [mR 97, mN, mI v2, mN, mN, mN, mN, mN, mN, mN, mN]) ⟨.inr rfl, .inl rfl, .inr rfl, .inl rfl, .inl rfl, .inl rfl, .inl rfl, .inl rfl, .inl rfl, .inl rfl, .inl rfl, trivial⟩ ?_
    exact S_Es_applyBetween_540 hd  L9 rv2
noncomputable def F_Es_applyBetween_132 (v1 : Int) (v2 : Int) (v3 : Int64) (v5 : Int64) (v7 : Int) (s1 : Int) (h : MH) : RS Unit := F_Es_applyBetween_133 v1 v2 v3 v5 v7 s1 (0 : Int) h
theorem S_Es_applyBetween_132 {d : Nat} (hd : 0 ≤ d) {v1 : Int} {v2 : Int} {v3 : Int64} {v5 : Int64} {v7 : Int} {s1 : Int} {h : MH} (L : LayC h) (rv1 : inR v1) (rv2 : inR v2) (rv7 : inR v7) (rs1 : inR s1) : OK d k_Es_applyBetween 132 [mR 97, mI v1, mI v2, mL v3, mN, mL v5, mN, mI v7, mN, mN, mN] [mI s1, mR 99] h cV pT (F_Es_applyBetween_132  v1 v2 v3 v5 v7 s1 h) := by
  unfold F_Es_applyBetween_132
  refine z_go (fun Q hq => x_iconst (dA d_Es_applyBetween 76 rfl) hq) ?_
  exact S_Es_applyBetween_133 hd  L rv1 rv2 rv7 rs1 (inR_lit (0 : Int) rfl)
noncomputable def F_Es_applyBetween_128 (v1 : Int) (v2 : Int) (v3 : Int64) (v5 : Int64) (v7 : Int) (s1 : Int) (h : MH) : RS Unit := F_Es_applyBetween_133 v1 v2 v3 v5 v7 s1 (1 : Int) h
theorem S_Es_applyBetween_128 {d : Nat} (hd : 0 ≤ d) {v1 : Int} {v2 : Int} {v3 : Int64} {v5 : Int64} {v7 : Int} {s1 : Int} {h : MH} (L : LayC h) (rv1 : inR v1) (rv2 : inR v2) (rv7 : inR v7) (rs1 : inR s1) : OK d k_Es_applyBetween 128 [mR 97, mI v1, mI v2, mL v3, mN, mL v5, mN, mI v7, mN, mN, mN] [mI s1, mR 99] h cV pT (F_Es_applyBetween_128  v1 v2 v3 v5 v7 s1 h) := by
  unfold F_Es_applyBetween_128
  refine z_go (fun Q hq => x_iconst (dA d_Es_applyBetween 74 rfl) (x_goto (dA d_Es_applyBetween 75 rfl) rfl hq)) ?_
  exact S_Es_applyBetween_133 hd  L rv1 rv2 rv7 rs1 (inR_lit (1 : Int) rfl)
noncomputable def F_Es_applyBetween_91 (v1 : Int) (v2 : Int) (v3 : Int64) (v5 : Int64) (v7 : Int) (s0 : Int) (h : MH) : RS Unit := gd (0 ≤ v2 ∧ v2 < 100) (if (mGi h 99 v2.toNat) = 0 then if v7 = 0 then gd (inR (v2 + (1 : Int))) (gd (0 ≤ (v2 + (1 : Int)) ∧ (v2 + (1 : Int)) < 100) (if (mGi h 99 (v2 + (1 : Int)).toNat) = 0 then F_Es_applyBetween_132 v1 v2 v3 v5 v7 v2 h else if s0 = 0 then F_Es_applyBetween_128 v1 v2 v3 v5 v7 v2 h else F_Es_applyBetween_132 v1 v2 v3 v5 v7 v2 h)) else F_Es_applyBetween_128 v1 v2 v3 v5 v7 v2 h else F_Es_applyBetween_128 v1 v2 v3 v5 v7 v2 h)
theorem S_Es_applyBetween_91 {d : Nat} (hd : 0 ≤ d) {v1 : Int} {v2 : Int} {v3 : Int64} {v5 : Int64} {v7 : Int} {s0 : Int} {h : MH} (L : LayC h) (rv1 : inR v1) (rv2 : inR v2) (rv7 : inR v7) (rs0 : inR s0) : OK d k_Es_applyBetween 91 [mR 97, mI v1, mI v2, mL v3, mN, mL v5, mN, mI v7, mN, mN, mN] [mI s0] h cV pT (F_Es_applyBetween_91  v1 v2 v3 v5 v7 s0 h) := by
  unfold F_Es_applyBetween_91
  refine z_go (fun Q hq => x_istore (dA d_Es_applyBetween 54 rfl) (by decide) rfl (x_aload_n (dA d_Es_applyBetween 55 rfl) rfl rfl (x_getR (dA d_Es_applyBetween 56 rfl) f_Es_17 (L.sh (x := (5, 6)) rfl) (by decide) (by decide) rfl (L.rf 106 rfl) (x_iload_n (dA d_Es_applyBetween 57 rfl) rfl rfl (x_aload_n (dA d_Es_applyBetween 58 rfl) rfl rfl (x_getR (dA d_Es_applyBetween 59 rfl) f_Es_17 (L.sh (x := (5, 6)) rfl) (by decide) (by decide) rfl (L.rf 106 rfl) (x_iload_n (dA d_Es_applyBetween 60 rfl) rfl rfl hq))))))) ?_
  refine z_gd (fun g41 => ?_)
  refine z_go (fun Q hq => x_zald (dA d_Es_applyBetween 61 rfl) (L.sh (x := (102, 100)) rfl) g41.1 g41.2 (by decide) hq) ?_
  refine z_brn (fun Q => x_if_ne (dA d_Es_applyBetween 62 rfl) rfl (L.rg _ _)) (fun c42 => ?_) (fun c42 => ?_)
  · refine z_go (fun Q hq => x_iload (dA d_Es_applyBetween 63 rfl) rfl hq) ?_
    refine z_brn (fun Q => x_if_ne (dA d_Es_applyBetween 64 rfl) rfl rv7) (fun c43 => ?_) (fun c43 => ?_)
    · refine z_go (fun Q hq => x_aload_n (dA d_Es_applyBetween 65 rfl) rfl rfl (x_getR (dA d_Es_applyBetween 66 rfl) f_Es_17 (L.sh (x := (5, 6)) rfl) (by decide) (by decide) rfl (L.rf 106 rfl) (x_iload_n (dA d_Es_applyBetween 67 rfl) rfl rfl (x_iconst (dA d_Es_applyBetween 68 rfl) hq)))) ?_
      refine z_gd (fun g44 => ?_)
      refine z_go (fun Q hq => x_iadd (dA d_Es_applyBetween 69 rfl) hq) ?_
      refine z_gd (fun g45 => ?_)
      refine z_go (fun Q hq => x_zald (dA d_Es_applyBetween 70 rfl) (L.sh (x := (102, 100)) rfl) g45.1 g45.2 (by decide) hq) ?_
      refine z_br (fun Q => x_if_eq (dA d_Es_applyBetween 71 rfl) rfl (L.rg _ _)) (fun c46 => ?_) (fun c46 => ?_)
      · refine z_fgt (ls' := [mR 97, mI v1, mI v2, mL v3, mN, mL v5, mN, mI v7, mN, mN, mN]) ⟨.inr rfl, .inr rfl, .inr rfl, .inr rfl, .inl rfl, .inr rfl, .inl rfl, .inr rfl, .inl rfl, .inl rfl, .inl rfl, trivial⟩ ?_
        exact S_Es_applyBetween_132 hd  L rv1 rv2 rv7 rv2
      · refine z_go (fun Q hq => x_iload (dA d_Es_applyBetween 72 rfl) rfl hq) ?_
        refine z_brn (fun Q => x_if_ne (dA d_Es_applyBetween 73 rfl) rfl rs0) (fun c47 => ?_) (fun c47 => ?_)
        · refine z_fgt (ls' := [mR 97, mI v1, mI v2, mL v3, mN, mL v5, mN, mI v7, mN, mN, mN]) ⟨.inr rfl, .inr rfl, .inr rfl, .inr rfl, .inl rfl, .inr rfl, .inl rfl, .inr rfl, .inl rfl, .inl rfl, .inl rfl, trivial⟩ ?_
          exact S_Es_applyBetween_128 hd  L rv1 rv2 rv7 rv2
        · refine z_fgt (ls' := [mR 97, mI v1, mI v2, mL v3, mN, mL v5, mN, mI v7, mN, mN, mN]) ⟨.inr rfl, .inr rfl, .inr rfl, .inr rfl, .inl rfl, .inr rfl, .inl rfl, .inr rfl, .inl rfl, .inl rfl, .inl rfl, trivial⟩ ?_
          exact S_Es_applyBetween_132 hd  L rv1 rv2 rv7 rv2
    · refine z_fgt (ls' := [mR 97, mI v1, mI v2, mL v3, mN, mL v5, mN, mI v7, mN, mN, mN]) ⟨.inr rfl, .inr rfl, .inr rfl, .inr rfl, .inl rfl, .inr rfl, .inl rfl, .inr rfl, .inl rfl, .inl rfl, .inl rfl, trivial⟩ ?_
      exact S_Es_applyBetween_128 hd  L rv1 rv2 rv7 rv2
  · refine z_fgt (ls' := [mR 97, mI v1, mI v2, mL v3, mN, mL v5, mN, mI v7, mN, mN, mN]) ⟨.inr rfl, .inr rfl, .inr rfl, .inr rfl, .inl rfl, .inr rfl, .inl rfl, .inr rfl, .inl rfl, .inl rfl, .inl rfl, trivial⟩ ?_
    exact S_Es_applyBetween_128 hd  L rv1 rv2 rv7 rv2
noncomputable def F_Es_applyBetween_90 (v1 : Int) (v2 : Int) (v3 : Int64) (v5 : Int64) (v7 : Int) (h : MH) : RS Unit := F_Es_applyBetween_91 v1 v2 v3 v5 v7 (0 : Int) h
theorem S_Es_applyBetween_90 {d : Nat} (hd : 0 ≤ d) {v1 : Int} {v2 : Int} {v3 : Int64} {v5 : Int64} {v7 : Int} {h : MH} (L : LayC h) (rv1 : inR v1) (rv2 : inR v2) (rv7 : inR v7) : OK d k_Es_applyBetween 90 [mR 97, mI v1, mI v2, mL v3, mN, mL v5, mN, mI v7, mN, mN, mN] [] h cV pT (F_Es_applyBetween_90  v1 v2 v3 v5 v7 h) := by
  unfold F_Es_applyBetween_90
  refine z_go (fun Q hq => x_iconst (dA d_Es_applyBetween 53 rfl) hq) ?_
  exact S_Es_applyBetween_91 hd  L rv1 rv2 rv7 (inR_lit (0 : Int) rfl)
noncomputable def F_Es_applyBetween_86 (v1 : Int) (v2 : Int) (v3 : Int64) (v5 : Int64) (v7 : Int) (h : MH) : RS Unit := F_Es_applyBetween_91 v1 v2 v3 v5 v7 (1 : Int) h
theorem S_Es_applyBetween_86 {d : Nat} (hd : 0 ≤ d) {v1 : Int} {v2 : Int} {v3 : Int64} {v5 : Int64} {v7 : Int} {h : MH} (L : LayC h) (rv1 : inR v1) (rv2 : inR v2) (rv7 : inR v7) : OK d k_Es_applyBetween 86 [mR 97, mI v1, mI v2, mL v3, mN, mL v5, mN, mI v7, mN, mN, mN] [] h cV pT (F_Es_applyBetween_86  v1 v2 v3 v5 v7 h) := by
  unfold F_Es_applyBetween_86
  refine z_go (fun Q hq => x_iconst (dA d_Es_applyBetween 51 rfl) (x_goto (dA d_Es_applyBetween 52 rfl) rfl hq)) ?_
  exact S_Es_applyBetween_91 hd  L rv1 rv2 rv7 (inR_lit (1 : Int) rfl)
noncomputable def F_Es_applyBetween_73 (v1 : Int) (v2 : Int) (v3 : Int64) (v5 : Int64) (v7 : Int) (h : MH) : RS Unit := if v1 = (31868 : Int) then if (lgI v3 (0 : Int64)) = 0 then F_Es_applyBetween_90 v1 v2 v3 v5 v7 h else F_Es_applyBetween_86 v1 v2 v3 v5 v7 h else F_Es_applyBetween_90 v1 v2 v3 v5 v7 h
theorem S_Es_applyBetween_73 {d : Nat} (hd : 0 ≤ d) {v1 : Int} {v2 : Int} {v3 : Int64} {v5 : Int64} {v7 : Int} {h : MH} (L : LayC h) (rv1 : inR v1) (rv2 : inR v2) (rv7 : inR v7) : OK d k_Es_applyBetween 73 [mR 97, mI v1, mI v2, mL v3, mN, mL v5, mN, mI v7, mN, mN, mN] [] h cV pT (F_Es_applyBetween_73  v1 v2 v3 v5 v7 h) := by
  unfold F_Es_applyBetween_73
  refine z_go (fun Q hq => x_iload_n (dA d_Es_applyBetween 44 rfl) rfl rfl (x_sipush (dA d_Es_applyBetween 45 rfl) (by decide) hq)) ?_
  refine z_brn (fun Q => x_icmp_ne (dA d_Es_applyBetween 46 rfl) rfl rv1 (inR_lit (31868 : Int) rfl)) (fun c48 => ?_) (fun c48 => ?_)
  · refine z_go (fun Q hq => x_lload_n (dA d_Es_applyBetween 47 rfl) rfl rfl (x_lconst (v := 0) (dA d_Es_applyBetween 48 rfl) rfl (x_lcmp (dA d_Es_applyBetween 49 rfl) hq))) ?_
    refine z_br (fun Q => x_if_eq (dA d_Es_applyBetween 50 rfl) rfl (inR_lgI _ _)) (fun c49 => ?_) (fun c49 => ?_)
    · exact S_Es_applyBetween_90 hd  L rv1 rv2 rv7
    · exact S_Es_applyBetween_86 hd  L rv1 rv2 rv7
  · exact S_Es_applyBetween_90 hd  L rv1 rv2 rv7
noncomputable def F_Es_applyBetween_58 (v1 : Int) (v2 : Int) (v3 : Int64) (v5 : Int64) (s0 : Int) (h : MH) : RS Unit := if v1 = (9766 : Int) then if (lgI v3 (0 : Int64)) = 0 then F_Es_applyBetween_86 v1 v2 v3 v5 s0 h else F_Es_applyBetween_73 v1 v2 v3 v5 s0 h else F_Es_applyBetween_73 v1 v2 v3 v5 s0 h
theorem S_Es_applyBetween_58 {d : Nat} (hd : 0 ≤ d) {v1 : Int} {v2 : Int} {v3 : Int64} {v5 : Int64} {s0 : Int} {h : MH} (L : LayC h) (rv1 : inR v1) (rv2 : inR v2) (rs0 : inR s0) : OK d k_Es_applyBetween 58 [mR 97, mI v1, mI v2, mL v3, mN, mL v5, mN, mN, mN, mN, mN] [mI s0] h cV pT (F_Es_applyBetween_58  v1 v2 v3 v5 s0 h) := by
  unfold F_Es_applyBetween_58
  refine z_go (fun Q hq => x_istore (dA d_Es_applyBetween 36 rfl) (by decide) rfl (x_iload_n (dA d_Es_applyBetween 37 rfl) rfl rfl (x_sipush (dA d_Es_applyBetween 38 rfl) (by decide) hq))) ?_
  refine z_brn (fun Q => x_icmp_ne (dA d_Es_applyBetween 39 rfl) rfl rv1 (inR_lit (9766 : Int) rfl)) (fun c50 => ?_) (fun c50 => ?_)
  · refine z_go (fun Q hq => x_lload_n (dA d_Es_applyBetween 40 rfl) rfl rfl (x_lconst (v := 0) (dA d_Es_applyBetween 41 rfl) rfl (x_lcmp (dA d_Es_applyBetween 42 rfl) hq))) ?_
    refine z_br (fun Q => x_if_eq (dA d_Es_applyBetween 43 rfl) rfl (inR_lgI _ _)) (fun c51 => ?_) (fun c51 => ?_)
    · exact S_Es_applyBetween_86 hd  L rv1 rv2 rs0
    · exact S_Es_applyBetween_73 hd  L rv1 rv2 rs0
  · exact S_Es_applyBetween_73 hd  L rv1 rv2 rs0
noncomputable def F_Es_applyBetween_57 (v1 : Int) (v2 : Int) (v3 : Int64) (v5 : Int64) (h : MH) : RS Unit := F_Es_applyBetween_58 v1 v2 v3 v5 (0 : Int) h
theorem S_Es_applyBetween_57 {d : Nat} (hd : 0 ≤ d) {v1 : Int} {v2 : Int} {v3 : Int64} {v5 : Int64} {h : MH} (L : LayC h) (rv1 : inR v1) (rv2 : inR v2) : OK d k_Es_applyBetween 57 [mR 97, mI v1, mI v2, mL v3, mN, mL v5, mN, mN, mN, mN, mN] [] h cV pT (F_Es_applyBetween_57  v1 v2 v3 v5 h) := by
  unfold F_Es_applyBetween_57
  refine z_go (fun Q hq => x_iconst (dA d_Es_applyBetween 35 rfl) hq) ?_
  exact S_Es_applyBetween_58 hd  L rv1 rv2 (inR_lit (0 : Int) rfl)
noncomputable def F_Es_applyBetween_46 (v1 : Int) (v2 : Int) (v3 : Int64) (v5 : Int64) (h : MH) : RS Unit := if (lgI v5 (0 : Int64)) = 0 then F_Es_applyBetween_58 v1 v2 v3 v5 (1 : Int) h else F_Es_applyBetween_57 v1 v2 v3 v5 h
theorem S_Es_applyBetween_46 {d : Nat} (hd : 0 ≤ d) {v1 : Int} {v2 : Int} {v3 : Int64} {v5 : Int64} {h : MH} (L : LayC h) (rv1 : inR v1) (rv2 : inR v2) : OK d k_Es_applyBetween 46 [mR 97, mI v1, mI v2, mL v3, mN, mL v5, mN, mN, mN, mN, mN] [] h cV pT (F_Es_applyBetween_46  v1 v2 v3 v5 h) := by
  unfold F_Es_applyBetween_46
  refine z_go (fun Q hq => x_lload (dA d_Es_applyBetween 29 rfl) rfl (x_lconst (v := 0) (dA d_Es_applyBetween 30 rfl) rfl (x_lcmp (dA d_Es_applyBetween 31 rfl) hq))) ?_
  refine z_brn (fun Q => x_if_ne (dA d_Es_applyBetween 32 rfl) rfl (inR_lgI _ _)) (fun c52 => ?_) (fun c52 => ?_)
  · refine z_go (fun Q hq => x_iconst (dA d_Es_applyBetween 33 rfl) (x_goto (dA d_Es_applyBetween 34 rfl) rfl hq)) ?_
    exact S_Es_applyBetween_58 hd  L rv1 rv2 (inR_lit (1 : Int) rfl)
  · exact S_Es_applyBetween_57 hd  L rv1 rv2
noncomputable def F_Es_applyBetween (a1 : Int) (h : MH) : RS Unit := gd (inR ((mGi h 97 3) - (1 : Int))) (sto (mPi h 97 3 ((mGi h 97 3) - (1 : Int))) fun h54 => gd (inR ((mGi h54 97 3) - (1 : Int))) (gd (0 ≤ ((mGi h54 97 3) - (1 : Int)) ∧ ((mGi h54 97 3) - (1 : Int)) < 100) (gd (inR (((mGi h54 97 3) - (1 : Int)) + (1 : Int))) (gd (0 ≤ (((mGi h54 97 3) - (1 : Int)) + (1 : Int)) ∧ (((mGi h54 97 3) - (1 : Int)) + (1 : Int)) < 100) (if a1 = (47 : Int) then F_Es_applyBetween_46 a1 ((mGi h54 97 3) - (1 : Int)) (mGl h54 98 ((mGi h54 97 3) - (1 : Int)).toNat) (mGl h54 98 (((mGi h54 97 3) - (1 : Int)) + (1 : Int)).toNat) h54 else if a1 = (37 : Int) then F_Es_applyBetween_46 a1 ((mGi h54 97 3) - (1 : Int)) (mGl h54 98 ((mGi h54 97 3) - (1 : Int)).toNat) (mGl h54 98 (((mGi h54 97 3) - (1 : Int)) + (1 : Int)).toNat) h54 else F_Es_applyBetween_57 a1 ((mGi h54 97 3) - (1 : Int)) (mGl h54 98 ((mGi h54 97 3) - (1 : Int)).toNat) (mGl h54 98 (((mGi h54 97 3) - (1 : Int)) + (1 : Int)).toNat) h54)))))
theorem S_Es_applyBetween {d : Nat} (hd : 0 ≤ d) {a1 : Int} {h : MH} (L : LayC h) (ra1 : inR a1) : OK d k_Es_applyBetween 0 [mR 97, mI a1, mN, mN, mN, mN, mN, mN, mN, mN, mN] [] h cV pT (F_Es_applyBetween  a1 h) := by
  unfold F_Es_applyBetween
  refine z_go (fun Q hq => x_aload_n (dA d_Es_applyBetween 0 rfl) rfl rfl (x_dup (dA d_Es_applyBetween 1 rfl) rfl (x_getI (dA d_Es_applyBetween 2 rfl) f_Es_29 (L.sh (x := (5, 6)) rfl) (by decide) (by decide) rfl (x_iconst (dA d_Es_applyBetween 3 rfl) hq)))) ?_
  refine z_gd (fun g53 => ?_)
  refine z_go (fun Q hq => x_isub (dA d_Es_applyBetween 4 rfl) hq) ?_
  refine z_sto (Ext.pi (L.sh (x := (5, 6)) rfl) (by decide) g53) (fun Q hq => x_putI (dA d_Es_applyBetween 5 rfl) p_Es_29 (L.sh (x := (5, 6)) rfl) (by decide) cl_Es rfl hq) (fun h54 e55 => ?_)
  have L56 := L.ext e55
  refine z_go (fun Q hq => x_aload_n (dA d_Es_applyBetween 6 rfl) rfl rfl (x_getI (dA d_Es_applyBetween 7 rfl) f_Es_29 (L56.sh (x := (5, 6)) rfl) (by decide) (by decide) rfl (x_iconst (dA d_Es_applyBetween 8 rfl) hq))) ?_
  refine z_gd (fun g57 => ?_)
  refine z_go (fun Q hq => x_isub (dA d_Es_applyBetween 9 rfl) (x_istore_n (dA d_Es_applyBetween 10 rfl) rfl (by decide) rfl (x_aload_n (dA d_Es_applyBetween 11 rfl) rfl rfl (x_getR (dA d_Es_applyBetween 12 rfl) f_Es_11 (L56.sh (x := (5, 6)) rfl) (by decide) (by decide) rfl (L56.rf 105 rfl) (x_iload_n (dA d_Es_applyBetween 13 rfl) rfl rfl hq))))) ?_
  refine z_gd (fun g58 => ?_)
  refine z_go (fun Q hq => x_lald (dA d_Es_applyBetween 14 rfl) (L56.sh (x := (103, 100)) rfl) g58.1 g58.2 (by decide) (x_lstore_n (dA d_Es_applyBetween 15 rfl) rfl (by decide) rfl (x_aload_n (dA d_Es_applyBetween 16 rfl) rfl rfl (x_getR (dA d_Es_applyBetween 17 rfl) f_Es_11 (L56.sh (x := (5, 6)) rfl) (by decide) (by decide) rfl (L56.rf 105 rfl) (x_iload_n (dA d_Es_applyBetween 18 rfl) rfl rfl (x_iconst (dA d_Es_applyBetween 19 rfl) hq)))))) ?_
  refine z_gd (fun g59 => ?_)
  refine z_go (fun Q hq => x_iadd (dA d_Es_applyBetween 20 rfl) hq) ?_
  refine z_gd (fun g60 => ?_)
  refine z_go (fun Q hq => x_lald (dA d_Es_applyBetween 21 rfl) (L56.sh (x := (103, 100)) rfl) g60.1 g60.2 (by decide) (x_lstore (dA d_Es_applyBetween 22 rfl) (by decide) rfl (x_iload_n (dA d_Es_applyBetween 23 rfl) rfl rfl (x_bipush (dA d_Es_applyBetween 24 rfl) (by decide) hq)))) ?_
  refine z_br (fun Q => x_icmp_eq (dA d_Es_applyBetween 25 rfl) rfl ra1 (inR_lit (47 : Int) rfl)) (fun c61 => ?_) (fun c61 => ?_)
  · exact S_Es_applyBetween_46 hd  L56 ra1 g57
  · refine z_go (fun Q hq => x_iload_n (dA d_Es_applyBetween 26 rfl) rfl rfl (x_bipush (dA d_Es_applyBetween 27 rfl) (by decide) hq)) ?_
    refine z_brn (fun Q => x_icmp_ne (dA d_Es_applyBetween 28 rfl) rfl ra1 (inR_lit (37 : Int) rfl)) (fun c62 => ?_) (fun c62 => ?_)
    · exact S_Es_applyBetween_46 hd  L56 ra1 g57
    · exact S_Es_applyBetween_57 hd  L56 ra1 g57
/-! TwoMills$Expression.strengthOf(I)I -/
noncomputable def F_Es_strengthOf (a1 : Int) (h : MH) : RS Int := if a1 = (37 : Int) then some (.inl (10 : Int), h) else if a1 = (38 : Int) then some (.inl (5 : Int), h) else if a1 = (42 : Int) then some (.inl (10 : Int), h) else if a1 = (43 : Int) then some (.inl (9 : Int), h) else if a1 = (45 : Int) then some (.inl (9 : Int), h) else if a1 = (47 : Int) then some (.inl (10 : Int), h) else if a1 = (60 : Int) then some (.inl (7 : Int), h) else if a1 = (62 : Int) then some (.inl (7 : Int), h) else if a1 = (94 : Int) then some (.inl (4 : Int), h) else if a1 = (124 : Int) then some (.inl (3 : Int), h) else if a1 = (9766 : Int) then some (.inl (2 : Int), h) else if a1 = (15420 : Int) then some (.inl (8 : Int), h) else if a1 = (15649 : Int) then some (.inl (6 : Int), h) else if a1 = (15676 : Int) then some (.inl (7 : Int), h) else if a1 = (15677 : Int) then some (.inl (6 : Int), h) else if a1 = (15678 : Int) then some (.inl (7 : Int), h) else if a1 = (15934 : Int) then some (.inl (8 : Int), h) else if a1 = (31868 : Int) then some (.inl (1 : Int), h) else if (iAnd a1 (65536 : Int)) = 0 then some (.inl (0 : Int), h) else some (.inl (11 : Int), h)
theorem S_Es_strengthOf {d : Nat} (hd : 0 ≤ d) {a1 : Int} {h : MH} (L : LayC h) (ra1 : inR a1) : OK d k_Es_strengthOf 0 [mI a1] [] h cI inR (F_Es_strengthOf  a1 h) := by
  unfold F_Es_strengthOf
  refine z_go (fun Q hq => x_iload_n (dA d_Es_strengthOf 0 rfl) rfl rfl hq) ?_
  refine z_ite (fun c1 => ?_) (fun c1 => ?_)
  · refine z_go (fun Q hq => x_lookup (dA d_Es_strengthOf 1 rfl) rfl ra1 (by rw [c1] <;> rfl) rfl hq) ?_
    refine z_go (fun Q hq => x_bipush (dA d_Es_strengthOf 2 rfl) (by decide) hq) ?_
    exact z_reti (dA d_Es_strengthOf 3 rfl) rfl (inR_lit (10 : Int) rfl)
  refine z_ite (fun c2 => ?_) (fun c2 => ?_)
  · refine z_go (fun Q hq => x_lookup (dA d_Es_strengthOf 1 rfl) rfl ra1 (by rw [c2] <;> rfl) rfl hq) ?_
    refine z_go (fun Q hq => x_iconst (dA d_Es_strengthOf 12 rfl) hq) ?_
    exact z_reti (dA d_Es_strengthOf 13 rfl) rfl (inR_lit (5 : Int) rfl)
  refine z_ite (fun c3 => ?_) (fun c3 => ?_)
  · refine z_go (fun Q hq => x_lookup (dA d_Es_strengthOf 1 rfl) rfl ra1 (by rw [c3] <;> rfl) rfl hq) ?_
    refine z_go (fun Q hq => x_bipush (dA d_Es_strengthOf 2 rfl) (by decide) hq) ?_
    exact z_reti (dA d_Es_strengthOf 3 rfl) rfl (inR_lit (10 : Int) rfl)
  refine z_ite (fun c4 => ?_) (fun c4 => ?_)
  · refine z_go (fun Q hq => x_lookup (dA d_Es_strengthOf 1 rfl) rfl ra1 (by rw [c4] <;> rfl) rfl hq) ?_
    refine z_go (fun Q hq => x_bipush (dA d_Es_strengthOf 4 rfl) (by decide) hq) ?_
    exact z_reti (dA d_Es_strengthOf 5 rfl) rfl (inR_lit (9 : Int) rfl)
  refine z_ite (fun c5 => ?_) (fun c5 => ?_)
  · refine z_go (fun Q hq => x_lookup (dA d_Es_strengthOf 1 rfl) rfl ra1 (by rw [c5] <;> rfl) rfl hq) ?_
    refine z_go (fun Q hq => x_bipush (dA d_Es_strengthOf 4 rfl) (by decide) hq) ?_
    exact z_reti (dA d_Es_strengthOf 5 rfl) rfl (inR_lit (9 : Int) rfl)
  refine z_ite (fun c6 => ?_) (fun c6 => ?_)
  · refine z_go (fun Q hq => x_lookup (dA d_Es_strengthOf 1 rfl) rfl ra1 (by rw [c6] <;> rfl) rfl hq) ?_
    refine z_go (fun Q hq => x_bipush (dA d_Es_strengthOf 2 rfl) (by decide) hq) ?_
    exact z_reti (dA d_Es_strengthOf 3 rfl) rfl (inR_lit (10 : Int) rfl)
  refine z_ite (fun c7 => ?_) (fun c7 => ?_)
  · refine z_go (fun Q hq => x_lookup (dA d_Es_strengthOf 1 rfl) rfl ra1 (by rw [c7] <;> rfl) rfl hq) ?_
    refine z_go (fun Q hq => x_bipush (dA d_Es_strengthOf 8 rfl) (by decide) hq) ?_
    exact z_reti (dA d_Es_strengthOf 9 rfl) rfl (inR_lit (7 : Int) rfl)
  refine z_ite (fun c8 => ?_) (fun c8 => ?_)
  · refine z_go (fun Q hq => x_lookup (dA d_Es_strengthOf 1 rfl) rfl ra1 (by rw [c8] <;> rfl) rfl hq) ?_
    refine z_go (fun Q hq => x_bipush (dA d_Es_strengthOf 8 rfl) (by decide) hq) ?_
    exact z_reti (dA d_Es_strengthOf 9 rfl) rfl (inR_lit (7 : Int) rfl)
  refine z_ite (fun c9 => ?_) (fun c9 => ?_)
  · refine z_go (fun Q hq => x_lookup (dA d_Es_strengthOf 1 rfl) rfl ra1 (by rw [c9] <;> rfl) rfl hq) ?_
    refine z_go (fun Q hq => x_iconst (dA d_Es_strengthOf 14 rfl) hq) ?_
    exact z_reti (dA d_Es_strengthOf 15 rfl) rfl (inR_lit (4 : Int) rfl)
  refine z_ite (fun c10 => ?_) (fun c10 => ?_)
  · refine z_go (fun Q hq => x_lookup (dA d_Es_strengthOf 1 rfl) rfl ra1 (by rw [c10] <;> rfl) rfl hq) ?_
    refine z_go (fun Q hq => x_iconst (dA d_Es_strengthOf 16 rfl) hq) ?_
    exact z_reti (dA d_Es_strengthOf 17 rfl) rfl (inR_lit (3 : Int) rfl)
  refine z_ite (fun c11 => ?_) (fun c11 => ?_)
  · refine z_go (fun Q hq => x_lookup (dA d_Es_strengthOf 1 rfl) rfl ra1 (by rw [c11] <;> rfl) rfl hq) ?_
    refine z_go (fun Q hq => x_iconst (dA d_Es_strengthOf 18 rfl) hq) ?_
    exact z_reti (dA d_Es_strengthOf 19 rfl) rfl (inR_lit (2 : Int) rfl)
  refine z_ite (fun c12 => ?_) (fun c12 => ?_)
  · refine z_go (fun Q hq => x_lookup (dA d_Es_strengthOf 1 rfl) rfl ra1 (by rw [c12] <;> rfl) rfl hq) ?_
    refine z_go (fun Q hq => x_bipush (dA d_Es_strengthOf 6 rfl) (by decide) hq) ?_
    exact z_reti (dA d_Es_strengthOf 7 rfl) rfl (inR_lit (8 : Int) rfl)
  refine z_ite (fun c13 => ?_) (fun c13 => ?_)
  · refine z_go (fun Q hq => x_lookup (dA d_Es_strengthOf 1 rfl) rfl ra1 (by rw [c13] <;> rfl) rfl hq) ?_
    refine z_go (fun Q hq => x_bipush (dA d_Es_strengthOf 10 rfl) (by decide) hq) ?_
    exact z_reti (dA d_Es_strengthOf 11 rfl) rfl (inR_lit (6 : Int) rfl)
  refine z_ite (fun c14 => ?_) (fun c14 => ?_)
  · refine z_go (fun Q hq => x_lookup (dA d_Es_strengthOf 1 rfl) rfl ra1 (by rw [c14] <;> rfl) rfl hq) ?_
    refine z_go (fun Q hq => x_bipush (dA d_Es_strengthOf 8 rfl) (by decide) hq) ?_
    exact z_reti (dA d_Es_strengthOf 9 rfl) rfl (inR_lit (7 : Int) rfl)
  refine z_ite (fun c15 => ?_) (fun c15 => ?_)
  · refine z_go (fun Q hq => x_lookup (dA d_Es_strengthOf 1 rfl) rfl ra1 (by rw [c15] <;> rfl) rfl hq) ?_
    refine z_go (fun Q hq => x_bipush (dA d_Es_strengthOf 10 rfl) (by decide) hq) ?_
    exact z_reti (dA d_Es_strengthOf 11 rfl) rfl (inR_lit (6 : Int) rfl)
  refine z_ite (fun c16 => ?_) (fun c16 => ?_)
  · refine z_go (fun Q hq => x_lookup (dA d_Es_strengthOf 1 rfl) rfl ra1 (by rw [c16] <;> rfl) rfl hq) ?_
    refine z_go (fun Q hq => x_bipush (dA d_Es_strengthOf 8 rfl) (by decide) hq) ?_
    exact z_reti (dA d_Es_strengthOf 9 rfl) rfl (inR_lit (7 : Int) rfl)
  refine z_ite (fun c17 => ?_) (fun c17 => ?_)
  · refine z_go (fun Q hq => x_lookup (dA d_Es_strengthOf 1 rfl) rfl ra1 (by rw [c17] <;> rfl) rfl hq) ?_
    refine z_go (fun Q hq => x_bipush (dA d_Es_strengthOf 6 rfl) (by decide) hq) ?_
    exact z_reti (dA d_Es_strengthOf 7 rfl) rfl (inR_lit (8 : Int) rfl)
  refine z_ite (fun c18 => ?_) (fun c18 => ?_)
  · refine z_go (fun Q hq => x_lookup (dA d_Es_strengthOf 1 rfl) rfl ra1 (by rw [c18] <;> rfl) rfl hq) ?_
    refine z_go (fun Q hq => x_iconst (dA d_Es_strengthOf 20 rfl) hq) ?_
    exact z_reti (dA d_Es_strengthOf 21 rfl) rfl (inR_lit (1 : Int) rfl)
  refine z_go (fun Q hq => x_lookup (off := 180) (dA d_Es_strengthOf 1 rfl) rfl ra1 (by simp [Op.lookupswitch.offset, c1, c2, c3, c4, c5, c6, c7, c8, c9, c10, c11, c12, c13, c14, c15, c16, c17, c18, Ne.symm c1, Ne.symm c2, Ne.symm c3, Ne.symm c4, Ne.symm c5, Ne.symm c6, Ne.symm c7, Ne.symm c8, Ne.symm c9, Ne.symm c10, Ne.symm c11, Ne.symm c12, Ne.symm c13, Ne.symm c14, Ne.symm c15, Ne.symm c16, Ne.symm c17, Ne.symm c18]) rfl hq) ?_
  refine z_go (fun Q hq => x_iload_n (dA d_Es_strengthOf 22 rfl) rfl rfl (x_ldc (n := (65536 : Int)) (dA d_Es_strengthOf 23 rfl) kc_Es_63 rfl (x_andI (dA d_Es_strengthOf 24 rfl) hq))) ?_
  refine z_br (fun Q => x_if_eq (dA d_Es_strengthOf 25 rfl) rfl (inR_and _ _)) (fun c19 => ?_) (fun c19 => ?_)
  · refine z_go (fun Q hq => x_iconst (dA d_Es_strengthOf 28 rfl) hq) ?_
    exact z_reti (dA d_Es_strengthOf 29 rfl) rfl (inR_lit (0 : Int) rfl)
  · refine z_go (fun Q hq => x_bipush (dA d_Es_strengthOf 26 rfl) (by decide) (x_goto (dA d_Es_strengthOf 27 rfl) rfl hq)) ?_
    exact z_reti (dA d_Es_strengthOf 29 rfl) rfl (inR_lit (11 : Int) rfl)
/-! TwoMills$Expression.applyDownTo(I)V -/
noncomputable def F_Es_applyDownTo_0_b (G0 : Int → MH → RS Unit) (v1 : Int) (h : MH) : RS Unit := if (mGi h 97 5) ≤ 0 then some (.inl (), h) else gd (inR ((mGi h 97 5) - (1 : Int))) (gd (0 ≤ ((mGi h 97 5) - (1 : Int)) ∧ ((mGi h 97 5) - (1 : Int)) < 100) (bnd (F_Es_strengthOf (mGi h 100 ((mGi h 97 5) - (1 : Int)).toNat) h) fun x6 h4 => if x6 < v1 then some (.inl (), h4) else gd (inR ((mGi h4 97 5) - (1 : Int))) (sto (mPi h4 97 5 ((mGi h4 97 5) - (1 : Int))) fun h11 => gd (0 ≤ (mGi h11 97 5) ∧ (mGi h11 97 5) < 100) (if (iAnd (mGi h11 100 (mGi h11 97 5).toNat) (65536 : Int)) = 0 then bnd (F_Es_applyBetween (mGi h11 100 (mGi h11 97 5).toNat) h11) fun x18 h16 => G0 v1 h16 else bnd (F_Es_applyAhead (iAnd (mGi h11 100 (mGi h11 97 5).toNat) (-65537 : Int)) h11) fun x23 h21 => G0 v1 h21))))
theorem S_Es_applyDownTo_0_b {d : Nat} (hd : 1 ≤ d) {G0 : Int → MH → RS Unit} (hG0 : ∀ (v1 : Int) (h : MH), LayC h → inR v1 → OK d k_Es_applyDownTo 0 [mR 97, mI v1] [] h cV pT (G0 v1 h)) {v1 : Int} {h : MH} (L : LayC h) (rv1 : inR v1) : OK d k_Es_applyDownTo 0 [mR 97, mI v1] [] h cV pT (F_Es_applyDownTo_0_b G0 v1 h) := by
  unfold F_Es_applyDownTo_0_b
  refine z_go (fun Q hq => x_aload_n (dA d_Es_applyDownTo 0 rfl) rfl rfl (x_getI (dA d_Es_applyDownTo 1 rfl) f_Es_33 (L.sh (x := (5, 6)) rfl) (by decide) (by decide) rfl hq)) ?_
  refine z_br (fun Q => x_if_le (dA d_Es_applyDownTo 2 rfl) rfl (L.rg _ _)) (fun c1 => ?_) (fun c1 => ?_)
  · exact z_retv (dA d_Es_applyDownTo 45 rfl) rfl
  · refine z_go (fun Q hq => x_aload_n (dA d_Es_applyDownTo 3 rfl) rfl rfl (x_getR (dA d_Es_applyDownTo 4 rfl) f_Es_21 (L.sh (x := (5, 6)) rfl) (by decide) (by decide) rfl (L.rf 107 rfl) (x_aload_n (dA d_Es_applyDownTo 5 rfl) rfl rfl (x_getI (dA d_Es_applyDownTo 6 rfl) f_Es_33 (L.sh (x := (5, 6)) rfl) (by decide) (by decide) rfl (x_iconst (dA d_Es_applyDownTo 7 rfl) hq))))) ?_
    refine z_gd (fun g2 => ?_)
    refine z_go (fun Q hq => x_isub (dA d_Es_applyDownTo 8 rfl) hq) ?_
    refine z_gd (fun g3 => ?_)
    refine z_go (fun Q hq => x_iald (dA d_Es_applyDownTo 9 rfl) (L.sh (x := (100, 100)) rfl) g3.1 g3.2 (by decide) hq) ?_
    refine z_bnd (rest := []) (st1 := fun v => mI v :: []) (S_Es_strengthOf (d := 0) (Nat.le_refl _) L (L.rg _ _)) (fun _ hx => absurd hx List.not_mem_nil) (fun _ => rfl) (fun Q' Q => x_callS (as := [mI (mGi h 100 ((mGi h 97 5) - (1 : Int)).toNat)]) (rest := []) (k' := k_Es_strengthOf) (dA d_Es_applyDownTo 10 rfl) o_Es_strengthOf lk_Es_67 st_Es_strengthOf (Nat.le_of_ble_eq_true rfl) (Nat.le_trans (Nat.le_of_ble_eq_true rfl) hd) (Nat.le_of_ble_eq_true rfl)) (fun x6 h4 e5 p7 => ?_)
    have L8 := L.ext e5
    refine z_go (fun Q hq => x_iload_n (dA d_Es_applyDownTo 11 rfl) rfl rfl hq) ?_
    refine z_br (fun Q => x_icmp_lt (dA d_Es_applyDownTo 12 rfl) rfl p7 rv1) (fun c9 => ?_) (fun c9 => ?_)
    · exact z_retv (dA d_Es_applyDownTo 45 rfl) rfl
    · refine z_go (fun Q hq => x_aload_n (dA d_Es_applyDownTo 13 rfl) rfl rfl (x_dup (dA d_Es_applyDownTo 14 rfl) rfl (x_getI (dA d_Es_applyDownTo 15 rfl) f_Es_33 (L8.sh (x := (5, 6)) rfl) (by decide) (by decide) rfl (x_iconst (dA d_Es_applyDownTo 16 rfl) hq)))) ?_
      refine z_gd (fun g10 => ?_)
      refine z_go (fun Q hq => x_isub (dA d_Es_applyDownTo 17 rfl) hq) ?_
      refine z_sto (Ext.pi (L8.sh (x := (5, 6)) rfl) (by decide) g10) (fun Q hq => x_putI (dA d_Es_applyDownTo 18 rfl) p_Es_33 (L8.sh (x := (5, 6)) rfl) (by decide) cl_Es rfl hq) (fun h11 e12 => ?_)
      have L13 := L8.ext e12
      refine z_go (fun Q hq => x_aload_n (dA d_Es_applyDownTo 19 rfl) rfl rfl (x_getR (dA d_Es_applyDownTo 20 rfl) f_Es_21 (L13.sh (x := (5, 6)) rfl) (by decide) (by decide) rfl (L13.rf 107 rfl) (x_aload_n (dA d_Es_applyDownTo 21 rfl) rfl rfl (x_getI (dA d_Es_applyDownTo 22 rfl) f_Es_33 (L13.sh (x := (5, 6)) rfl) (by decide) (by decide) rfl hq)))) ?_
      refine z_gd (fun g14 => ?_)
      refine z_go (fun Q hq => x_iald (dA d_Es_applyDownTo 23 rfl) (L13.sh (x := (100, 100)) rfl) g14.1 g14.2 (by decide) (x_ldc (n := (65536 : Int)) (dA d_Es_applyDownTo 24 rfl) kc_Es_63 rfl (x_andI (dA d_Es_applyDownTo 25 rfl) hq))) ?_
      refine z_br (fun Q => x_if_eq (dA d_Es_applyDownTo 26 rfl) rfl (inR_and _ _)) (fun c15 => ?_) (fun c15 => ?_)
      · refine z_go (fun Q hq => x_aload_n (dA d_Es_applyDownTo 37 rfl) rfl rfl (x_aload_n (dA d_Es_applyDownTo 38 rfl) rfl rfl (x_getR (dA d_Es_applyDownTo 39 rfl) f_Es_21 (L13.sh (x := (5, 6)) rfl) (by decide) (by decide) rfl (L13.rf 107 rfl) (x_aload_n (dA d_Es_applyDownTo 40 rfl) rfl rfl (x_getI (dA d_Es_applyDownTo 41 rfl) f_Es_33 (L13.sh (x := (5, 6)) rfl) (by decide) (by decide) rfl (x_iald (dA d_Es_applyDownTo 42 rfl) (L13.sh (x := (100, 100)) rfl) g14.1 g14.2 (by decide) hq)))))) ?_
        refine z_bnd (rest := []) (st1 := fun _ => []) (S_Es_applyBetween (d := 0) (Nat.le_refl _) L13 (L13.rg _ _)) (fun _ hx => absurd hx List.not_mem_nil) (fun _ => rfl) (fun Q' Q => x_callV (as := [mI (mGi h11 100 (mGi h11 97 5).toNat)]) (rest := []) (k' := k_Es_applyBetween) (dA d_Es_applyDownTo 43 rfl) o_Es_applyBetween lk_Es_93 im_Es_applyBetween se_Es_applyBetween rfl (L13.sh (x := (5, 6)) rfl) (by decide) (Nat.le_of_ble_eq_true rfl) (Nat.le_trans (Nat.le_of_ble_eq_true rfl) hd) (Nat.le_of_ble_eq_true rfl)) (fun x18 h16 e17 p19 => ?_)
        have L20 := L13.ext e17
        refine z_go (fun Q hq => x_goto (dA d_Es_applyDownTo 44 rfl) rfl hq) ?_
        exact hG0 v1 h16 L20 rv1
      · refine z_go (fun Q hq => x_aload_n (dA d_Es_applyDownTo 27 rfl) rfl rfl (x_aload_n (dA d_Es_applyDownTo 28 rfl) rfl rfl (x_getR (dA d_Es_applyDownTo 29 rfl) f_Es_21 (L13.sh (x := (5, 6)) rfl) (by decide) (by decide) rfl (L13.rf 107 rfl) (x_aload_n (dA d_Es_applyDownTo 30 rfl) rfl rfl (x_getI (dA d_Es_applyDownTo 31 rfl) f_Es_33 (L13.sh (x := (5, 6)) rfl) (by decide) (by decide) rfl (x_iald (dA d_Es_applyDownTo 32 rfl) (L13.sh (x := (100, 100)) rfl) g14.1 g14.2 (by decide) (x_ldc (n := (-65537 : Int)) (dA d_Es_applyDownTo 33 rfl) kc_Es_89 rfl (x_andI (dA d_Es_applyDownTo 34 rfl) hq)))))))) ?_
        refine z_bnd (rest := []) (st1 := fun _ => []) (S_Es_applyAhead (d := 0) (Nat.le_refl _) L13 (inR_and _ _)) (fun _ hx => absurd hx List.not_mem_nil) (fun _ => rfl) (fun Q' Q => x_callV (as := [mI (iAnd (mGi h11 100 (mGi h11 97 5).toNat) (-65537 : Int))]) (rest := []) (k' := k_Es_applyAhead) (dA d_Es_applyDownTo 35 rfl) o_Es_applyAhead lk_Es_90 im_Es_applyAhead se_Es_applyAhead rfl (L13.sh (x := (5, 6)) rfl) (by decide) (Nat.le_of_ble_eq_true rfl) (Nat.le_trans (Nat.le_of_ble_eq_true rfl) hd) (Nat.le_of_ble_eq_true rfl)) (fun x23 h21 e22 p24 => ?_)
        have L25 := L13.ext e22
        refine z_go (fun Q hq => x_goto (dA d_Es_applyDownTo 36 rfl) rfl hq) ?_
        exact hG0 v1 h21 L25 rv1
noncomputable def F_Es_applyDownTo_0 (v1 : Int) (h : MH) : RS Unit := itr (fun self (q : Int × MH) => F_Es_applyDownTo_0_b (fun v1 h => self (v1, h)) q.1 q.2) FU (v1, h)
theorem S_Es_applyDownTo_0 {d : Nat} (hd : 1 ≤ d) {v1 : Int} {h : MH} (L : LayC h) (rv1 : inR v1) : OK d k_Es_applyDownTo 0 [mR 97, mI v1] [] h cV pT (F_Es_applyDownTo_0  v1 h) := by
  unfold F_Es_applyDownTo_0
  refine z_itr (P := fun q : Int × MH => LayC q.2 ∧ inR q.1 ∧ True) (ls := fun q : Int × MH => [mR 97, mI q.1]) (hp := fun q : Int × MH => q.2) (fun self hs q hq => ?_) FU (v1, h) ⟨L, rv1, trivial⟩
  exact S_Es_applyDownTo_0_b hd (fun v1 h L rv1 => hs (v1, h) ⟨L, rv1, trivial⟩) hq.1 hq.2.1
noncomputable def F_Es_applyDownTo (a1 : Int) (h : MH) : RS Unit := F_Es_applyDownTo_0 a1 h
theorem S_Es_applyDownTo {d : Nat} (hd : 1 ≤ d) {a1 : Int} {h : MH} (L : LayC h) (ra1 : inR a1) : OK d k_Es_applyDownTo 0 [mR 97, mI a1] [] h cV pT (F_Es_applyDownTo  a1 h) := by
  unfold F_Es_applyDownTo
  exact S_Es_applyDownTo_0 hd  L ra1
/-! TwoMills$Expression.pushSign(I)V -/
noncomputable def F_Es_pushSign (a1 : Int) (h : MH) : RS Unit := gd (0 ≤ (mGi h 97 5) ∧ (mGi h 97 5) < 100) (sto (mPi h 100 (mGi h 97 5).toNat a1) fun h2 => gd (inR ((mGi h2 97 5) + (1 : Int))) (sto (mPi h2 97 5 ((mGi h2 97 5) + (1 : Int))) fun h6 => some (.inl (), h6)))
theorem S_Es_pushSign {d : Nat} (hd : 0 ≤ d) {a1 : Int} {h : MH} (L : LayC h) (ra1 : inR a1) : OK d k_Es_pushSign 0 [mR 97, mI a1] [] h cV pT (F_Es_pushSign  a1 h) := by
  unfold F_Es_pushSign
  refine z_go (fun Q hq => x_aload_n (dA d_Es_pushSign 0 rfl) rfl rfl (x_getR (dA d_Es_pushSign 1 rfl) f_Es_21 (L.sh (x := (5, 6)) rfl) (by decide) (by decide) rfl (L.rf 107 rfl) (x_aload_n (dA d_Es_pushSign 2 rfl) rfl rfl (x_getI (dA d_Es_pushSign 3 rfl) f_Es_33 (L.sh (x := (5, 6)) rfl) (by decide) (by decide) rfl (x_iload_n (dA d_Es_pushSign 4 rfl) rfl rfl hq))))) ?_
  refine z_gd (fun g1 => ?_)
  refine z_sto (Ext.pi (L.sh (x := (100, 100)) rfl) (by decide) ra1) (fun Q hq => x_iast (dA d_Es_pushSign 5 rfl) (L.sh (x := (100, 100)) rfl) g1.1 g1.2 (by decide) hq) (fun h2 e3 => ?_)
  have L4 := L.ext e3
  refine z_go (fun Q hq => x_aload_n (dA d_Es_pushSign 6 rfl) rfl rfl (x_dup (dA d_Es_pushSign 7 rfl) rfl (x_getI (dA d_Es_pushSign 8 rfl) f_Es_33 (L4.sh (x := (5, 6)) rfl) (by decide) (by decide) rfl (x_iconst (dA d_Es_pushSign 9 rfl) hq)))) ?_
  refine z_gd (fun g5 => ?_)
  refine z_go (fun Q hq => x_iadd (dA d_Es_pushSign 10 rfl) hq) ?_
  refine z_sto (Ext.pi (L4.sh (x := (5, 6)) rfl) (by decide) g5) (fun Q hq => x_putI (dA d_Es_pushSign 11 rfl) p_Es_33 (L4.sh (x := (5, 6)) rfl) (by decide) cl_Es rfl hq) (fun h6 e7 => ?_)
  have L8 := L4.ext e7
  exact z_retv (dA d_Es_pushSign 12 rfl) rfl
/-! TwoMills$Expression.signOf(J)I -/
noncomputable def F_Es_signOf (a1 : Int64) (h : MH) : RS Int := bnd (F_To_kind a1 h) fun x3 h1 => if x3 = (4 : Int) then bnd (F_To_start a1 h1) fun x9 h7 => gd (0 ≤ x9 ∧ x9 < 1302) (bnd (F_To_length a1 h7) fun x15 h13 => if x15 = (2 : Int) then gd (inR (x9 + (1 : Int))) (gd (0 ≤ (x9 + (1 : Int)) ∧ (x9 + (1 : Int)) < 1302) (some (.inl (iOr (mGi h7 88 x9.toNat) (iShl (mGi h13 88 (x9 + (1 : Int)).toNat) (8 : Int))), h13))) else some (.inl (iOr (mGi h7 88 x9.toNat) (0 : Int)), h13)) else some (.inl (0 : Int), h1)
theorem S_Es_signOf {d : Nat} (hd : 1 ≤ d) {a1 : Int64} {h : MH} (L : LayC h) : OK d k_Es_signOf 0 [mR 97, mL a1, mN, mN] [] h cI inR (F_Es_signOf  a1 h) := by
  unfold F_Es_signOf
  refine z_go (fun Q hq => x_lload_n (dA d_Es_signOf 0 rfl) rfl rfl hq) ?_
  refine z_bnd (rest := []) (st1 := fun v => mI v :: []) (S_To_kind (d := 0) (Nat.le_refl _) L ) (fun _ hx => absurd hx List.not_mem_nil) (fun _ => rfl) (fun Q' Q => x_callS (as := [mL a1]) (rest := []) (k' := k_To_kind) (dA d_Es_signOf 1 rfl) o_To_kind lk_Es_52 st_To_kind (Nat.le_of_ble_eq_true rfl) (Nat.le_trans (Nat.le_of_ble_eq_true rfl) hd) (Nat.le_of_ble_eq_true rfl)) (fun x3 h1 e2 p4 => ?_)
  have L5 := L.ext e2
  refine z_go (fun Q hq => x_iconst (dA d_Es_signOf 2 rfl) hq) ?_
  refine z_br (fun Q => x_icmp_eq (dA d_Es_signOf 3 rfl) rfl p4 (inR_lit (4 : Int) rfl)) (fun c6 => ?_) (fun c6 => ?_)
  · refine z_go (fun Q hq => x_lload_n (dA d_Es_signOf 6 rfl) rfl rfl hq) ?_
    refine z_bnd (rest := []) (st1 := fun v => mI v :: []) (S_To_start (d := 0) (Nat.le_refl _) L5 ) (fun _ hx => absurd hx List.not_mem_nil) (fun _ => rfl) (fun Q' Q => x_callS (as := [mL a1]) (rest := []) (k' := k_To_start) (dA d_Es_signOf 7 rfl) o_To_start lk_Es_71 st_To_start (Nat.le_of_ble_eq_true rfl) (Nat.le_trans (Nat.le_of_ble_eq_true rfl) hd) (Nat.le_of_ble_eq_true rfl)) (fun x9 h7 e8 p10 => ?_)
    have L11 := L5.ext e8
    refine z_go (fun Q hq => x_istore_n (dA d_Es_signOf 8 rfl) rfl (by decide) rfl (x_aload_n (dA d_Es_signOf 9 rfl) rfl rfl (x_getR (dA d_Es_signOf 10 rfl) f_Es_25 (L11.sh (x := (5, 6)) rfl) (by decide) (by decide) rfl (L11.rf 104 rfl) (x_getR (dA d_Es_signOf 11 rfl) f_Es_74 (L11.sh (x := (11, 3)) rfl) (by decide) (by decide) rfl (L11.rf 95 rfl) (x_iload_n (dA d_Es_signOf 12 rfl) rfl rfl hq))))) ?_
    refine z_gd (fun g12 => ?_)
    refine z_go (fun Q hq => x_cald (dA d_Es_signOf 13 rfl) (L11.sh (x := (101, 1302)) rfl) g12.1 g12.2 (by decide) (x_lload_n (dA d_Es_signOf 14 rfl) rfl rfl hq)) ?_
    refine z_bnd (rest := [mI (mGi h7 88 x9.toNat)]) (st1 := fun v => mI v :: [mI (mGi h7 88 x9.toNat)]) (S_To_length (d := 0) (Nat.le_refl _) L11 ) (fun _ hx => absurd hx List.not_mem_nil) (fun _ => rfl) (fun Q' Q => x_callS (as := [mL a1]) (rest := [mI (mGi h7 88 x9.toNat)]) (k' := k_To_length) (dA d_Es_signOf 15 rfl) o_To_length lk_Es_78 st_To_length (Nat.le_of_ble_eq_true rfl) (Nat.le_trans (Nat.le_of_ble_eq_true rfl) hd) (Nat.le_of_ble_eq_true rfl)) (fun x15 h13 e14 p16 => ?_)
    have L17 := L11.ext e14
    refine z_go (fun Q hq => x_iconst (dA d_Es_signOf 16 rfl) hq) ?_
    refine z_brn (fun Q => x_icmp_ne (dA d_Es_signOf 17 rfl) rfl p16 (inR_lit (2 : Int) rfl)) (fun c18 => ?_) (fun c18 => ?_)
    · refine z_go (fun Q hq => x_aload_n (dA d_Es_signOf 18 rfl) rfl rfl (x_getR (dA d_Es_signOf 19 rfl) f_Es_25 (L17.sh (x := (5, 6)) rfl) (by decide) (by decide) rfl (L17.rf 104 rfl) (x_getR (dA d_Es_signOf 20 rfl) f_Es_74 (L17.sh (x := (11, 3)) rfl) (by decide) (by decide) rfl (L17.rf 95 rfl) (x_iload_n (dA d_Es_signOf 21 rfl) rfl rfl (x_iconst (dA d_Es_signOf 22 rfl) hq))))) ?_
      refine z_gd (fun g19 => ?_)
      refine z_go (fun Q hq => x_iadd (dA d_Es_signOf 23 rfl) hq) ?_
      refine z_gd (fun g20 => ?_)
      refine z_go (fun Q hq => x_cald (dA d_Es_signOf 24 rfl) (L17.sh (x := (101, 1302)) rfl) g20.1 g20.2 (by decide) (x_bipush (dA d_Es_signOf 25 rfl) (by decide) (x_shlI (dA d_Es_signOf 26 rfl) (x_goto (dA d_Es_signOf 27 rfl) rfl (x_orI (dA d_Es_signOf 29 rfl) hq))))) ?_
      exact z_reti (dA d_Es_signOf 30 rfl) rfl (inR_or _ _)
    · refine z_go (fun Q hq => x_iconst (dA d_Es_signOf 28 rfl) (x_orI (dA d_Es_signOf 29 rfl) hq)) ?_
      exact z_reti (dA d_Es_signOf 30 rfl) rfl (inR_or _ _)
  · refine z_go (fun Q hq => x_iconst (dA d_Es_signOf 4 rfl) hq) ?_
    exact z_reti (dA d_Es_signOf 5 rfl) rfl (inR_lit (0 : Int) rfl)
/-! TwoMills$Expression.takeSign(J)Z -/
noncomputable def F_Es_takeSign_65 (v3 : Int) (v4 : Int) (h : MH) : RS Int := bnd (F_Es_applyDownTo v4 h) fun x3 h1 => bnd (F_Es_pushSign v3 h1) fun x8 h6 => some (.inl (1 : Int), h6)
theorem S_Es_takeSign_65 {d : Nat} (hd : 2 ≤ d) {v3 : Int} {v4 : Int} {h : MH} (L : LayC h) (rv3 : inR v3) (rv4 : inR v4) : OK d k_Es_takeSign 65 [mR 97, mN, mN, mI v3, mI v4] [] h cI p01 (F_Es_takeSign_65  v3 v4 h) := by
  unfold F_Es_takeSign_65
  refine z_go (fun Q hq => x_aload_n (dA d_Es_takeSign 34 rfl) rfl rfl (x_iload (dA d_Es_takeSign 35 rfl) rfl hq)) ?_
  refine z_bnd (rest := []) (st1 := fun _ => []) (S_Es_applyDownTo (d := 1) (Nat.le_refl _) L rv4) (fun _ hx => absurd hx List.not_mem_nil) (fun _ => rfl) (fun Q' Q => x_callV (as := [mI v4]) (rest := []) (k' := k_Es_applyDownTo) (dA d_Es_takeSign 36 rfl) o_Es_applyDownTo lk_Es_49 im_Es_applyDownTo se_Es_applyDownTo rfl (L.sh (x := (5, 6)) rfl) (by decide) (Nat.le_of_ble_eq_true rfl) (Nat.le_trans (Nat.le_of_ble_eq_true rfl) hd) (Nat.le_of_ble_eq_true rfl)) (fun x3 h1 e2 p4 => ?_)
  have L5 := L.ext e2
  refine z_go (fun Q hq => x_aload_n (dA d_Es_takeSign 37 rfl) rfl rfl (x_iload_n (dA d_Es_takeSign 38 rfl) rfl rfl hq)) ?_
  refine z_bnd (rest := []) (st1 := fun _ => []) (S_Es_pushSign (d := 0) (Nat.le_refl _) L5 rv3) (fun _ hx => absurd hx List.not_mem_nil) (fun _ => rfl) (fun Q' Q => x_callV (as := [mI v3]) (rest := []) (k' := k_Es_pushSign) (dA d_Es_takeSign 39 rfl) o_Es_pushSign lk_Es_64 im_Es_pushSign se_Es_pushSign rfl (L5.sh (x := (5, 6)) rfl) (by decide) (Nat.le_of_ble_eq_true rfl) (Nat.le_trans (Nat.le_of_ble_eq_true rfl) hd) (Nat.le_of_ble_eq_true rfl)) (fun x8 h6 e7 p9 => ?_)
  have L10 := L5.ext e7
  refine z_go (fun Q hq => x_iconst (dA d_Es_takeSign 40 rfl) hq) ?_
  exact z_retz (dA d_Es_takeSign 41 rfl) rfl (.inr rfl)
noncomputable def F_Es_takeSign_33 (h : MH) : RS Int := gd (inR ((mGi h 97 5) - (1 : Int))) (sto (mPi h 97 5 ((mGi h 97 5) - (1 : Int))) fun h12 => some (.inl (0 : Int), h12))
theorem S_Es_takeSign_33 {d : Nat} (hd : 2 ≤ d) {h : MH} (L : LayC h) : OK d k_Es_takeSign 33 [mR 97, mN, mN, mN, mN] [] h cI p01 (F_Es_takeSign_33   h) := by
  unfold F_Es_takeSign_33
  refine z_go (fun Q hq => x_aload_n (dA d_Es_takeSign 17 rfl) rfl rfl (x_dup (dA d_Es_takeSign 18 rfl) rfl (x_getI (dA d_Es_takeSign 19 rfl) f_Es_33 (L.sh (x := (5, 6)) rfl) (by decide) (by decide) rfl (x_iconst (dA d_Es_takeSign 20 rfl) hq)))) ?_
  refine z_gd (fun g11 => ?_)
  refine z_go (fun Q hq => x_isub (dA d_Es_takeSign 21 rfl) hq) ?_
  refine z_sto (Ext.pi (L.sh (x := (5, 6)) rfl) (by decide) g11) (fun Q hq => x_putI (dA d_Es_takeSign 22 rfl) p_Es_33 (L.sh (x := (5, 6)) rfl) (by decide) cl_Es rfl hq) (fun h12 e13 => ?_)
  have L14 := L.ext e13
  refine z_go (fun Q hq => x_iconst (dA d_Es_takeSign 23 rfl) hq) ?_
  exact z_retz (dA d_Es_takeSign 24 rfl) rfl (.inl rfl)
noncomputable def F_Es_takeSign (a1 : Int64) (h : MH) : RS Int := bnd (F_Es_signOf a1 h) fun x17 h15 => if x17 = (41 : Int) then bnd (F_Es_applyDownTo (1 : Int) h15) fun x23 h21 => if (mGi h21 97 5) = 0 then bnd (F_To_fail (9 : Int) h21) fun x29 h27 => F_Es_takeSign_33  h27 else F_Es_takeSign_33  h21 else bnd (F_Es_strengthOf x17 h15) fun x34 h32 => if x34 = 0 then bnd (F_To_fail (9 : Int) h32) fun x40 h38 => F_Es_takeSign_65 x17 x34 h38 else F_Es_takeSign_65 x17 x34 h32
theorem S_Es_takeSign {d : Nat} (hd : 2 ≤ d) {a1 : Int64} {h : MH} (L : LayC h) : OK d k_Es_takeSign 0 [mR 97, mL a1, mN, mN, mN] [] h cI p01 (F_Es_takeSign  a1 h) := by
  unfold F_Es_takeSign
  refine z_go (fun Q hq => x_aload_n (dA d_Es_takeSign 0 rfl) rfl rfl (x_lload_n (dA d_Es_takeSign 1 rfl) rfl rfl hq)) ?_
  refine z_bnd (rest := []) (st1 := fun v => mI v :: []) (S_Es_signOf (d := 1) (Nat.le_refl _) L ) (fun _ hx => absurd hx List.not_mem_nil) (fun _ => rfl) (fun Q' Q => x_callV (as := [mL a1]) (rest := []) (k' := k_Es_signOf) (dA d_Es_takeSign 2 rfl) o_Es_signOf lk_Es_60 im_Es_signOf se_Es_signOf rfl (L.sh (x := (5, 6)) rfl) (by decide) (Nat.le_of_ble_eq_true rfl) (Nat.le_trans (Nat.le_of_ble_eq_true rfl) hd) (Nat.le_of_ble_eq_true rfl)) (fun x17 h15 e16 p18 => ?_)
  have L19 := L.ext e16
  refine z_go (fun Q hq => x_istore_n (dA d_Es_takeSign 3 rfl) rfl (by decide) rfl (x_iload_n (dA d_Es_takeSign 4 rfl) rfl rfl (x_bipush (dA d_Es_takeSign 5 rfl) (by decide) hq))) ?_
  refine z_brn (fun Q => x_icmp_ne (dA d_Es_takeSign 6 rfl) rfl p18 (inR_lit (41 : Int) rfl)) (fun c20 => ?_) (fun c20 => ?_)
  · refine z_go (fun Q hq => x_aload_n (dA d_Es_takeSign 7 rfl) rfl rfl (x_iconst (dA d_Es_takeSign 8 rfl) hq)) ?_
    refine z_bnd (rest := []) (st1 := fun _ => []) (S_Es_applyDownTo (d := 1) (Nat.le_refl _) L19 (inR_lit (1 : Int) rfl)) (fun _ hx => absurd hx List.not_mem_nil) (fun _ => rfl) (fun Q' Q => x_callV (as := [mI (1 : Int)]) (rest := []) (k' := k_Es_applyDownTo) (dA d_Es_takeSign 9 rfl) o_Es_applyDownTo lk_Es_49 im_Es_applyDownTo se_Es_applyDownTo rfl (L19.sh (x := (5, 6)) rfl) (by decide) (Nat.le_of_ble_eq_true rfl) (Nat.le_trans (Nat.le_of_ble_eq_true rfl) hd) (Nat.le_of_ble_eq_true rfl)) (fun x23 h21 e22 p24 => ?_)
    have L25 := L19.ext e22
    refine z_go (fun Q hq => x_aload_n (dA d_Es_takeSign 10 rfl) rfl rfl (x_getI (dA d_Es_takeSign 11 rfl) f_Es_33 (L25.sh (x := (5, 6)) rfl) (by decide) (by decide) rfl hq)) ?_
    refine z_brn (fun Q => x_if_ne (dA d_Es_takeSign 12 rfl) rfl (L25.rg _ _)) (fun c26 => ?_) (fun c26 => ?_)
    · refine z_go (fun Q hq => x_aload_n (dA d_Es_takeSign 13 rfl) rfl rfl (x_getR (dA d_Es_takeSign 14 rfl) f_Es_25 (L25.sh (x := (5, 6)) rfl) (by decide) (by decide) rfl (L25.rf 104 rfl) (x_bipush (dA d_Es_takeSign 15 rfl) (by decide) hq))) ?_
      refine z_bnd (rest := []) (st1 := fun _ => []) (S_To_fail (d := 0) (Nat.le_refl _) L25 (inR_lit (9 : Int) rfl)) (fun _ hx => absurd hx List.not_mem_nil) (fun _ => rfl) (fun Q' Q => x_callV (as := [mI (9 : Int)]) (rest := []) (k' := k_To_fail) (dA d_Es_takeSign 16 rfl) o_To_fail lk_Es_43 im_To_fail se_To_fail rfl (L25.sh (x := (11, 3)) rfl) (by decide) (Nat.le_of_ble_eq_true rfl) (Nat.le_trans (Nat.le_of_ble_eq_true rfl) hd) (Nat.le_of_ble_eq_true rfl)) (fun x29 h27 e28 p30 => ?_)
      have L31 := L25.ext e28
      refine z_fgt (ls' := [mR 97, mN, mN, mN, mN]) ⟨.inr rfl, .inl rfl, .inl rfl, .inl rfl, .inl rfl, trivial⟩ ?_
      exact S_Es_takeSign_33 hd  L31 
    · refine z_fgt (ls' := [mR 97, mN, mN, mN, mN]) ⟨.inr rfl, .inl rfl, .inl rfl, .inl rfl, .inl rfl, trivial⟩ ?_
      exact S_Es_takeSign_33 hd  L25 
  · refine z_go (fun Q hq => x_iload_n (dA d_Es_takeSign 25 rfl) rfl rfl hq) ?_
    refine z_bnd (rest := []) (st1 := fun v => mI v :: []) (S_Es_strengthOf (d := 0) (Nat.le_refl _) L19 p18) (fun _ hx => absurd hx List.not_mem_nil) (fun _ => rfl) (fun Q' Q => x_callS (as := [mI x17]) (rest := []) (k' := k_Es_strengthOf) (dA d_Es_takeSign 26 rfl) o_Es_strengthOf lk_Es_67 st_Es_strengthOf (Nat.le_of_ble_eq_true rfl) (Nat.le_trans (Nat.le_of_ble_eq_true rfl) hd) (Nat.le_of_ble_eq_true rfl)) (fun x34 h32 e33 p35 => ?_)
    have L36 := L19.ext e33
    refine z_go (fun Q hq => x_istore (dA d_Es_takeSign 27 rfl) (by decide) rfl (x_iload (dA d_Es_takeSign 28 rfl) rfl hq)) ?_
    refine z_brn (fun Q => x_if_ne (dA d_Es_takeSign 29 rfl) rfl p35) (fun c37 => ?_) (fun c37 => ?_)
    · refine z_go (fun Q hq => x_aload_n (dA d_Es_takeSign 30 rfl) rfl rfl (x_getR (dA d_Es_takeSign 31 rfl) f_Es_25 (L36.sh (x := (5, 6)) rfl) (by decide) (by decide) rfl (L36.rf 104 rfl) (x_bipush (dA d_Es_takeSign 32 rfl) (by decide) hq))) ?_
      refine z_bnd (rest := []) (st1 := fun _ => []) (S_To_fail (d := 0) (Nat.le_refl _) L36 (inR_lit (9 : Int) rfl)) (fun _ hx => absurd hx List.not_mem_nil) (fun _ => rfl) (fun Q' Q => x_callV (as := [mI (9 : Int)]) (rest := []) (k' := k_To_fail) (dA d_Es_takeSign 33 rfl) o_To_fail lk_Es_43 im_To_fail se_To_fail rfl (L36.sh (x := (11, 3)) rfl) (by decide) (Nat.le_of_ble_eq_true rfl) (Nat.le_trans (Nat.le_of_ble_eq_true rfl) hd) (Nat.le_of_ble_eq_true rfl)) (fun x40 h38 e39 p41 => ?_)
      have L42 := L36.ext e39
      refine z_fgt (ls' := [mR 97, mN, mN, mI x17, mI x34]) ⟨.inr rfl, .inl rfl, .inl rfl, .inr rfl, .inr rfl, trivial⟩ ?_
      exact S_Es_takeSign_65 hd  L42 p18 p35
    · refine z_fgt (ls' := [mR 97, mN, mN, mI x17, mI x34]) ⟨.inr rfl, .inl rfl, .inl rfl, .inr rfl, .inr rfl, trivial⟩ ?_
      exact S_Es_takeSign_65 hd  L36 p18 p35
/-! TwoMills$Expression.numberOf(J)J -/
noncomputable def F_Es_numberOf_80 (G12 : Int64 → Int64 → Int → Int → MH → RS Int64) (v1 : Int64) (v3 : Int64) (v5 : Int) (v6 : Int) (v7 : Int) (h : MH) : RS Int64 := gd (inR (v6 + (1 : Int))) (G12 v1 ((v3 * (10 : Int64)) + ((Int32.ofInt v7).toInt64)) v5 (v6 + (1 : Int)) h)
theorem S_Es_numberOf_80 {d : Nat} (hd : 1 ≤ d) {G12 : Int64 → Int64 → Int → Int → MH → RS Int64} (hG12 : ∀ (v1 : Int64) (v3 : Int64) (v5 : Int) (v6 : Int) (h : MH), LayC h → inR v5 → inR v6 → OK d k_Es_numberOf 12 [mR 97, mL v1, mN, mL v3, mN, mI v5, mI v6, mN] [] h cJ pT (G12 v1 v3 v5 v6 h)) {v1 : Int64} {v3 : Int64} {v5 : Int} {v6 : Int} {v7 : Int} {h : MH} (L : LayC h) (rv5 : inR v5) (rv6 : inR v6) (rv7 : inR v7) : OK d k_Es_numberOf 80 [mR 97, mL v1, mN, mL v3, mN, mI v5, mI v6, mI v7] [] h cJ pT (F_Es_numberOf_80 G12 v1 v3 v5 v6 v7 h) := by
  unfold F_Es_numberOf_80
  refine z_go (fun Q hq => x_lload_n (dA d_Es_numberOf 41 rfl) rfl rfl (x_ldc2 (dA d_Es_numberOf 42 rfl) kl_Es_87 (x_lmul (dA d_Es_numberOf 43 rfl) (x_iload (dA d_Es_numberOf 44 rfl) rfl (x_i2l (dA d_Es_numberOf 45 rfl) (x_ladd (dA d_Es_numberOf 46 rfl) (x_lstore_n (dA d_Es_numberOf 47 rfl) rfl (by decide) rfl hq))))))) ?_
  refine z_gd (fun g1 => ?_)
  refine z_go (fun Q hq => x_iinc (dA d_Es_numberOf 48 rfl) rfl (by decide) rfl (x_goto (dA d_Es_numberOf 49 rfl) rfl hq)) ?_
  refine z_fgt (ls' := [mR 97, mL v1, mN, mL ((v3 * (10 : Int64)) + ((Int32.ofInt v7).toInt64)), mN, mI v5, mI (v6 + (1 : Int)), mN]) ⟨.inr rfl, .inr rfl, .inl rfl, .inr rfl, .inl rfl, .inr rfl, .inr rfl, .inl rfl, trivial⟩ ?_
  exact hG12 v1 ((v3 * (10 : Int64)) + ((Int32.ofInt v7).toInt64)) v5 (v6 + (1 : Int)) h L rv5 g1
noncomputable def F_Es_numberOf_71 (G12 : Int64 → Int64 → Int → Int → MH → RS Int64) (v1 : Int64) (v3 : Int64) (v5 : Int) (v6 : Int) (v7 : Int) (h : MH) : RS Int64 := bnd (F_To_fail (9 : Int) h) fun x4 h2 => F_Es_numberOf_80 G12 v1 v3 v5 v6 v7 h2
theorem S_Es_numberOf_71 {d : Nat} (hd : 1 ≤ d) {G12 : Int64 → Int64 → Int → Int → MH → RS Int64} (hG12 : ∀ (v1 : Int64) (v3 : Int64) (v5 : Int) (v6 : Int) (h : MH), LayC h → inR v5 → inR v6 → OK d k_Es_numberOf 12 [mR 97, mL v1, mN, mL v3, mN, mI v5, mI v6, mN] [] h cJ pT (G12 v1 v3 v5 v6 h)) {v1 : Int64} {v3 : Int64} {v5 : Int} {v6 : Int} {v7 : Int} {h : MH} (L : LayC h) (rv5 : inR v5) (rv6 : inR v6) (rv7 : inR v7) : OK d k_Es_numberOf 71 [mR 97, mL v1, mN, mL v3, mN, mI v5, mI v6, mI v7] [] h cJ pT (F_Es_numberOf_71 G12 v1 v3 v5 v6 v7 h) := by
  unfold F_Es_numberOf_71
  refine z_go (fun Q hq => x_aload_n (dA d_Es_numberOf 37 rfl) rfl rfl (x_getR (dA d_Es_numberOf 38 rfl) f_Es_25 (L.sh (x := (5, 6)) rfl) (by decide) (by decide) rfl (L.rf 104 rfl) (x_bipush (dA d_Es_numberOf 39 rfl) (by decide) hq))) ?_
  refine z_bnd (rest := []) (st1 := fun _ => []) (S_To_fail (d := 0) (Nat.le_refl _) L (inR_lit (9 : Int) rfl)) (fun _ hx => absurd hx List.not_mem_nil) (fun _ => rfl) (fun Q' Q => x_callV (as := [mI (9 : Int)]) (rest := []) (k' := k_To_fail) (dA d_Es_numberOf 40 rfl) o_To_fail lk_Es_43 im_To_fail se_To_fail rfl (L.sh (x := (11, 3)) rfl) (by decide) (Nat.le_of_ble_eq_true rfl) (Nat.le_trans (Nat.le_of_ble_eq_true rfl) hd) (Nat.le_of_ble_eq_true rfl)) (fun x4 h2 e3 p5 => ?_)
  have L6 := L.ext e3
  exact S_Es_numberOf_80 hd hG12 L6 rv5 rv6 rv7
noncomputable def F_Es_numberOf_12_b (G12 : Int64 → Int64 → Int → Int → MH → RS Int64) (v1 : Int64) (v3 : Int64) (v5 : Int) (v6 : Int) (h : MH) : RS Int64 := bnd (F_To_length v1 h) fun x9 h7 => gd (inR (v5 + x9)) (if (v5 + x9) ≤ v6 then some (.inl v3, h7) else gd (0 ≤ v6 ∧ v6 < 1302) (gd (inR ((mGi h7 88 v6.toNat) - (48 : Int))) (bnd (F_T_isDigit (mGi h7 88 v6.toNat) h7) fun x18 h16 => if x18 = 0 then F_Es_numberOf_71 G12 v1 v3 v5 v6 ((mGi h7 88 v6.toNat) - (48 : Int)) h16 else gd (¬ (10 : Int64) = 0) (if (lgI v3 (((9223372036854775807 : Int64) - ((Int32.ofInt ((mGi h7 88 v6.toNat) - (48 : Int))).toInt64)) / (10 : Int64))) ≤ 0 then F_Es_numberOf_80 G12 v1 v3 v5 v6 ((mGi h7 88 v6.toNat) - (48 : Int)) h16 else F_Es_numberOf_71 G12 v1 v3 v5 v6 ((mGi h7 88 v6.toNat) - (48 : Int)) h16))))
theorem S_Es_numberOf_12_b {d : Nat} (hd : 1 ≤ d) {G12 : Int64 → Int64 → Int → Int → MH → RS Int64} (hG12 : ∀ (v1 : Int64) (v3 : Int64) (v5 : Int) (v6 : Int) (h : MH), LayC h → inR v5 → inR v6 → OK d k_Es_numberOf 12 [mR 97, mL v1, mN, mL v3, mN, mI v5, mI v6, mN] [] h cJ pT (G12 v1 v3 v5 v6 h)) {v1 : Int64} {v3 : Int64} {v5 : Int} {v6 : Int} {h : MH} (L : LayC h) (rv5 : inR v5) (rv6 : inR v6) : OK d k_Es_numberOf 12 [mR 97, mL v1, mN, mL v3, mN, mI v5, mI v6, mN] [] h cJ pT (F_Es_numberOf_12_b G12 v1 v3 v5 v6 h) := by
  unfold F_Es_numberOf_12_b
  refine z_go (fun Q hq => x_iload (dA d_Es_numberOf 7 rfl) rfl (x_iload (dA d_Es_numberOf 8 rfl) rfl (x_lload_n (dA d_Es_numberOf 9 rfl) rfl rfl hq))) ?_
  refine z_bnd (rest := [mI v5, mI v6]) (st1 := fun v => mI v :: [mI v5, mI v6]) (S_To_length (d := 0) (Nat.le_refl _) L ) (fun _ hx => absurd hx List.not_mem_nil) (fun _ => rfl) (fun Q' Q => x_callS (as := [mL v1]) (rest := [mI v5, mI v6]) (k' := k_To_length) (dA d_Es_numberOf 10 rfl) o_To_length lk_Es_78 st_To_length (Nat.le_of_ble_eq_true rfl) (Nat.le_trans (Nat.le_of_ble_eq_true rfl) hd) (Nat.le_of_ble_eq_true rfl)) (fun x9 h7 e8 p10 => ?_)
  have L11 := L.ext e8
  refine z_gd (fun g12 => ?_)
  refine z_go (fun Q hq => x_iadd (dA d_Es_numberOf 11 rfl) hq) ?_
  refine z_br (fun Q => x_icmp_ge (dA d_Es_numberOf 12 rfl) rfl rv6 g12) (fun c13 => ?_) (fun c13 => ?_)
  · refine z_go (fun Q hq => x_lload_n (dA d_Es_numberOf 50 rfl) rfl rfl hq) ?_
    exact z_retj (dA d_Es_numberOf 51 rfl) rfl
  · refine z_go (fun Q hq => x_aload_n (dA d_Es_numberOf 13 rfl) rfl rfl (x_getR (dA d_Es_numberOf 14 rfl) f_Es_25 (L11.sh (x := (5, 6)) rfl) (by decide) (by decide) rfl (L11.rf 104 rfl) (x_getR (dA d_Es_numberOf 15 rfl) f_Es_74 (L11.sh (x := (11, 3)) rfl) (by decide) (by decide) rfl (L11.rf 95 rfl) (x_iload (dA d_Es_numberOf 16 rfl) rfl hq)))) ?_
    refine z_gd (fun g14 => ?_)
    refine z_go (fun Q hq => x_cald (dA d_Es_numberOf 17 rfl) (L11.sh (x := (101, 1302)) rfl) g14.1 g14.2 (by decide) (x_bipush (dA d_Es_numberOf 18 rfl) (by decide) hq)) ?_
    refine z_gd (fun g15 => ?_)
    refine z_go (fun Q hq => x_isub (dA d_Es_numberOf 19 rfl) (x_istore (dA d_Es_numberOf 20 rfl) (by decide) rfl (x_aload_n (dA d_Es_numberOf 21 rfl) rfl rfl (x_getR (dA d_Es_numberOf 22 rfl) f_Es_25 (L11.sh (x := (5, 6)) rfl) (by decide) (by decide) rfl (L11.rf 104 rfl) (x_getR (dA d_Es_numberOf 23 rfl) f_Es_74 (L11.sh (x := (11, 3)) rfl) (by decide) (by decide) rfl (L11.rf 95 rfl) (x_iload (dA d_Es_numberOf 24 rfl) rfl (x_cald (dA d_Es_numberOf 25 rfl) (L11.sh (x := (101, 1302)) rfl) g14.1 g14.2 (by decide) hq))))))) ?_
    refine z_bnd (rest := []) (st1 := fun v => mI v :: []) (S_T_isDigit (d := 0) (Nat.le_refl _) L11 (L11.rg _ _)) (fun _ hx => absurd hx List.not_mem_nil) (fun _ => rfl) (fun Q' Q => x_callSN (as := [mI (mGi h7 88 v6.toNat)]) (rest := []) (k' := k_T_isDigit) (dA d_Es_numberOf 26 rfl) o_T_isDigit lk_Es_81 st_T_isDigit (Nat.le_of_ble_eq_true rfl) (Nat.le_trans (Nat.le_of_ble_eq_true rfl) hd) (Nat.le_of_ble_eq_true rfl)) (fun x18 h16 e17 p19 => ?_)
    have L20 := L11.ext e17
    refine z_br (fun Q => x_if_eq (dA d_Es_numberOf 27 rfl) rfl p19.inR) (fun c21 => ?_) (fun c21 => ?_)
    · exact S_Es_numberOf_71 hd hG12 L20 rv5 rv6 g15
    · refine z_go (fun Q hq => x_lload_n (dA d_Es_numberOf 28 rfl) rfl rfl (x_ldc2 (dA d_Es_numberOf 29 rfl) kl_Es_85 (x_iload (dA d_Es_numberOf 30 rfl) rfl (x_i2l (dA d_Es_numberOf 31 rfl) (x_lsub (dA d_Es_numberOf 32 rfl) (x_ldc2 (dA d_Es_numberOf 33 rfl) kl_Es_87 hq)))))) ?_
      refine z_gd (fun g22 => ?_)
      refine z_go (fun Q hq => x_ldiv (dA d_Es_numberOf 34 rfl) g22 (x_lcmp (dA d_Es_numberOf 35 rfl) hq)) ?_
      refine z_br (fun Q => x_if_le (dA d_Es_numberOf 36 rfl) rfl (inR_lgI _ _)) (fun c23 => ?_) (fun c23 => ?_)
      · exact S_Es_numberOf_80 hd hG12 L20 rv5 rv6 g15
      · exact S_Es_numberOf_71 hd hG12 L20 rv5 rv6 g15
noncomputable def F_Es_numberOf_12 (v1 : Int64) (v3 : Int64) (v5 : Int) (v6 : Int) (h : MH) : RS Int64 := itr (fun self (q : Int64 × Int64 × Int × Int × MH) => F_Es_numberOf_12_b (fun v1 v3 v5 v6 h => self (v1, v3, v5, v6, h)) q.1 q.2.1 q.2.2.1 q.2.2.2.1 q.2.2.2.2) FU (v1, v3, v5, v6, h)
theorem S_Es_numberOf_12 {d : Nat} (hd : 1 ≤ d) {v1 : Int64} {v3 : Int64} {v5 : Int} {v6 : Int} {h : MH} (L : LayC h) (rv5 : inR v5) (rv6 : inR v6) : OK d k_Es_numberOf 12 [mR 97, mL v1, mN, mL v3, mN, mI v5, mI v6, mN] [] h cJ pT (F_Es_numberOf_12  v1 v3 v5 v6 h) := by
  unfold F_Es_numberOf_12
  refine z_itr (P := fun q : Int64 × Int64 × Int × Int × MH => LayC q.2.2.2.2 ∧ inR q.2.2.1 ∧ inR q.2.2.2.1 ∧ True) (ls := fun q : Int64 × Int64 × Int × Int × MH => [mR 97, mL q.1, mN, mL q.2.1, mN, mI q.2.2.1, mI q.2.2.2.1, mN]) (hp := fun q : Int64 × Int64 × Int × Int × MH => q.2.2.2.2) (fun self hs q hq => ?_) FU (v1, v3, v5, v6, h) ⟨L, rv5, rv6, trivial⟩
  exact S_Es_numberOf_12_b hd (fun v1 v3 v5 v6 h L rv5 rv6 => hs (v1, v3, v5, v6, h) ⟨L, rv5, rv6, trivial⟩) hq.1 hq.2.1 hq.2.2.1
noncomputable def F_Es_numberOf (a1 : Int64) (h : MH) : RS Int64 := bnd (F_To_start a1 h) fun x26 h24 => F_Es_numberOf_12 a1 (0 : Int64) x26 x26 h24
theorem S_Es_numberOf {d : Nat} (hd : 1 ≤ d) {a1 : Int64} {h : MH} (L : LayC h) : OK d k_Es_numberOf 0 [mR 97, mL a1, mN, mN, mN, mN, mN, mN] [] h cJ pT (F_Es_numberOf  a1 h) := by
  unfold F_Es_numberOf
  refine z_go (fun Q hq => x_lconst (v := 0) (dA d_Es_numberOf 0 rfl) rfl (x_lstore_n (dA d_Es_numberOf 1 rfl) rfl (by decide) rfl (x_lload_n (dA d_Es_numberOf 2 rfl) rfl rfl hq))) ?_
  refine z_bnd (rest := []) (st1 := fun v => mI v :: []) (S_To_start (d := 0) (Nat.le_refl _) L ) (fun _ hx => absurd hx List.not_mem_nil) (fun _ => rfl) (fun Q' Q => x_callS (as := [mL a1]) (rest := []) (k' := k_To_start) (dA d_Es_numberOf 3 rfl) o_To_start lk_Es_71 st_To_start (Nat.le_of_ble_eq_true rfl) (Nat.le_trans (Nat.le_of_ble_eq_true rfl) hd) (Nat.le_of_ble_eq_true rfl)) (fun x26 h24 e25 p27 => ?_)
  have L28 := L.ext e25
  refine z_go (fun Q hq => x_istore (dA d_Es_numberOf 4 rfl) (by decide) rfl (x_iload (dA d_Es_numberOf 5 rfl) rfl (x_istore (dA d_Es_numberOf 6 rfl) (by decide) rfl hq))) ?_
  exact S_Es_numberOf_12 hd  L28 p27 p27
/-! TwoMills$Expression.takeValue(J)Z -/
noncomputable def F_Es_takeValue_114 (v4 : Int) (h : MH) : RS Int := bnd (F_Es_pushSign v4 h) fun x3 h1 => some (.inl (1 : Int), h1)
theorem S_Es_takeValue_114 {d : Nat} (hd : 2 ≤ d) {v4 : Int} {h : MH} (L : LayC h) (rv4 : inR v4) : OK d k_Es_takeValue 114 [mR 97, mN, mN, mN, mI v4] [] h cI p01 (F_Es_takeValue_114  v4 h) := by
  unfold F_Es_takeValue_114
  refine z_go (fun Q hq => x_aload_n (dA d_Es_takeValue 61 rfl) rfl rfl (x_iload (dA d_Es_takeValue 62 rfl) rfl hq)) ?_
  refine z_bnd (rest := []) (st1 := fun _ => []) (S_Es_pushSign (d := 0) (Nat.le_refl _) L rv4) (fun _ hx => absurd hx List.not_mem_nil) (fun _ => rfl) (fun Q' Q => x_callV (as := [mI v4]) (rest := []) (k' := k_Es_pushSign) (dA d_Es_takeValue 63 rfl) o_Es_pushSign lk_Es_64 im_Es_pushSign se_Es_pushSign rfl (L.sh (x := (5, 6)) rfl) (by decide) (Nat.le_of_ble_eq_true rfl) (Nat.le_trans (Nat.le_of_ble_eq_true rfl) hd) (Nat.le_of_ble_eq_true rfl)) (fun x3 h1 e2 p4 => ?_)
  have L5 := L.ext e2
  refine z_go (fun Q hq => x_iconst (dA d_Es_takeValue 64 rfl) hq) ?_
  exact z_retz (dA d_Es_takeValue 65 rfl) rfl (.inr rfl)
noncomputable def F_Es_takeValue_88 (v4 : Int) (h : MH) : RS Int := F_Es_takeValue_114 (iOr v4 (65536 : Int)) h
theorem S_Es_takeValue_88 {d : Nat} (hd : 2 ≤ d) {v4 : Int} {h : MH} (L : LayC h) (rv4 : inR v4) : OK d k_Es_takeValue 88 [mR 97, mN, mN, mN, mI v4] [] h cI p01 (F_Es_takeValue_88  v4 h) := by
  unfold F_Es_takeValue_88
  refine z_go (fun Q hq => x_iload (dA d_Es_takeValue 49 rfl) rfl (x_ldc (n := (65536 : Int)) (dA d_Es_takeValue 50 rfl) kc_Es_63 rfl (x_orI (dA d_Es_takeValue 51 rfl) (x_istore (dA d_Es_takeValue 52 rfl) (by decide) rfl (x_goto (dA d_Es_takeValue 53 rfl) rfl hq))))) ?_
  exact S_Es_takeValue_114 hd  L (inR_or _ _)
noncomputable def F_Es_takeValue_37 (s1 : Int) (s2 : Int64) (h : MH) : RS Int := gd (0 ≤ s1 ∧ s1 < 100) (sto (mPl h 98 s1.toNat s2) fun h7 => gd (0 ≤ (mGi h7 97 3) ∧ (mGi h7 97 3) < 100) (sto (mPi h7 99 (mGi h7 97 3).toNat (0 : Int)) fun h11 => gd (inR ((mGi h11 97 3) + (1 : Int))) (sto (mPi h11 97 3 ((mGi h11 97 3) + (1 : Int))) fun h15 => some (.inl (0 : Int), h15))))
theorem S_Es_takeValue_37 {d : Nat} (hd : 2 ≤ d) {s1 : Int} {s2 : Int64} {h : MH} (L : LayC h) (rs1 : inR s1) : OK d k_Es_takeValue 37 [mR 97, mN, mN, mN, mN] [mL s2, mI s1, mR 98] h cI p01 (F_Es_takeValue_37  s1 s2 h) := by
  unfold F_Es_takeValue_37
  refine z_gd (fun g6 => ?_)
  refine z_sto Ext.pl (fun Q hq => x_last (dA d_Es_takeValue 21 rfl) (L.sh (x := (103, 100)) rfl) g6.1 g6.2 (by decide) hq) (fun h7 e8 => ?_)
  have L9 := L.ext e8
  refine z_go (fun Q hq => x_aload_n (dA d_Es_takeValue 22 rfl) rfl rfl (x_getR (dA d_Es_takeValue 23 rfl) f_Es_17 (L9.sh (x := (5, 6)) rfl) (by decide) (by decide) rfl (L9.rf 106 rfl) (x_aload_n (dA d_Es_takeValue 24 rfl) rfl rfl (x_getI (dA d_Es_takeValue 25 rfl) f_Es_29 (L9.sh (x := (5, 6)) rfl) (by decide) (by decide) rfl (x_iconst (dA d_Es_takeValue 26 rfl) hq))))) ?_
  refine z_gd (fun g10 => ?_)
  refine z_sto (Ext.pi (L9.sh (x := (102, 100)) rfl) (by decide) (inR_lit (0 : Int) rfl)) (fun Q hq => x_zast (dA d_Es_takeValue 27 rfl) (L9.sh (x := (102, 100)) rfl) g10.1 g10.2 (by decide) (.inl rfl) hq) (fun h11 e12 => ?_)
  have L13 := L9.ext e12
  refine z_go (fun Q hq => x_aload_n (dA d_Es_takeValue 28 rfl) rfl rfl (x_dup (dA d_Es_takeValue 29 rfl) rfl (x_getI (dA d_Es_takeValue 30 rfl) f_Es_29 (L13.sh (x := (5, 6)) rfl) (by decide) (by decide) rfl (x_iconst (dA d_Es_takeValue 31 rfl) hq)))) ?_
  refine z_gd (fun g14 => ?_)
  refine z_go (fun Q hq => x_iadd (dA d_Es_takeValue 32 rfl) hq) ?_
  refine z_sto (Ext.pi (L13.sh (x := (5, 6)) rfl) (by decide) g14) (fun Q hq => x_putI (dA d_Es_takeValue 33 rfl) p_Es_29 (L13.sh (x := (5, 6)) rfl) (by decide) cl_Es rfl hq) (fun h15 e16 => ?_)
  have L17 := L13.ext e16
  refine z_go (fun Q hq => x_iconst (dA d_Es_takeValue 34 rfl) hq) ?_
  exact z_retz (dA d_Es_takeValue 35 rfl) rfl (.inl rfl)
noncomputable def F_Es_takeValue_15 (v1 : Int64) (v3 : Int) (h : MH) : RS Int := if v3 = (1 : Int) then F_Es_takeValue_37 (mGi h 97 3) (0 : Int64) h else bnd (F_Es_numberOf v1 h) fun x21 h19 => F_Es_takeValue_37 (mGi h 97 3) x21 h19
theorem S_Es_takeValue_15 {d : Nat} (hd : 2 ≤ d) {v1 : Int64} {v3 : Int} {h : MH} (L : LayC h) (rv3 : inR v3) : OK d k_Es_takeValue 15 [mR 97, mL v1, mN, mI v3, mN] [] h cI p01 (F_Es_takeValue_15  v1 v3 h) := by
  unfold F_Es_takeValue_15
  refine z_go (fun Q hq => x_aload_n (dA d_Es_takeValue 9 rfl) rfl rfl (x_getR (dA d_Es_takeValue 10 rfl) f_Es_11 (L.sh (x := (5, 6)) rfl) (by decide) (by decide) rfl (L.rf 105 rfl) (x_aload_n (dA d_Es_takeValue 11 rfl) rfl rfl (x_getI (dA d_Es_takeValue 12 rfl) f_Es_29 (L.sh (x := (5, 6)) rfl) (by decide) (by decide) rfl (x_iload_n (dA d_Es_takeValue 13 rfl) rfl rfl (x_iconst (dA d_Es_takeValue 14 rfl) hq)))))) ?_
  refine z_brn (fun Q => x_icmp_ne (dA d_Es_takeValue 15 rfl) rfl rv3 (inR_lit (1 : Int) rfl)) (fun c18 => ?_) (fun c18 => ?_)
  · refine z_go (fun Q hq => x_lconst (v := 0) (dA d_Es_takeValue 16 rfl) rfl (x_goto (dA d_Es_takeValue 17 rfl) rfl hq)) ?_
    refine z_fgt (ls' := [mR 97, mN, mN, mN, mN]) ⟨.inr rfl, .inl rfl, .inl rfl, .inl rfl, .inl rfl, trivial⟩ ?_
    exact S_Es_takeValue_37 hd  L (L.rg _ _)
  · refine z_go (fun Q hq => x_aload_n (dA d_Es_takeValue 18 rfl) rfl rfl (x_lload_n (dA d_Es_takeValue 19 rfl) rfl rfl hq)) ?_
    refine z_bnd (rest := [mI (mGi h 97 3), mR 98]) (st1 := fun v => mL v :: [mI (mGi h 97 3), mR 98]) (S_Es_numberOf (d := 1) (Nat.le_refl _) L ) (fun _ hx => absurd hx List.not_mem_nil) (fun _ => rfl) (fun Q' Q => x_callV (as := [mL v1]) (rest := [mI (mGi h 97 3), mR 98]) (k' := k_Es_numberOf) (dA d_Es_takeValue 20 rfl) o_Es_numberOf lk_Es_56 im_Es_numberOf se_Es_numberOf rfl (L.sh (x := (5, 6)) rfl) (by decide) (Nat.le_of_ble_eq_true rfl) (Nat.le_trans (Nat.le_of_ble_eq_true rfl) hd) (Nat.le_of_ble_eq_true rfl)) (fun x21 h19 e20 p22 => ?_)
    have L23 := L.ext e20
    refine z_fgt (ls' := [mR 97, mN, mN, mN, mN]) ⟨.inr rfl, .inl rfl, .inl rfl, .inl rfl, .inl rfl, trivial⟩ ?_
    exact S_Es_takeValue_37 hd  L23 (L.rg _ _)
noncomputable def F_Es_takeValue (a1 : Int64) (h : MH) : RS Int := bnd (F_To_kind a1 h) fun x26 h24 => if x26 = (1 : Int) then F_Es_takeValue_15 a1 x26 h24 else if x26 = (2 : Int) then F_Es_takeValue_15 a1 x26 h24 else bnd (F_Es_signOf a1 h24) fun x33 h31 => if x33 = (45 : Int) then F_Es_takeValue_88 x33 h31 else if x33 = (33 : Int) then F_Es_takeValue_88 x33 h31 else if x33 = (126 : Int) then F_Es_takeValue_88 x33 h31 else if x33 = (40 : Int) then F_Es_takeValue_114 x33 h31 else bnd (F_To_fail (9 : Int) h31) fun x42 h40 => F_Es_takeValue_114 x33 h40
theorem S_Es_takeValue {d : Nat} (hd : 2 ≤ d) {a1 : Int64} {h : MH} (L : LayC h) : OK d k_Es_takeValue 0 [mR 97, mL a1, mN, mN, mN] [] h cI p01 (F_Es_takeValue  a1 h) := by
  unfold F_Es_takeValue
  refine z_go (fun Q hq => x_lload_n (dA d_Es_takeValue 0 rfl) rfl rfl hq) ?_
  refine z_bnd (rest := []) (st1 := fun v => mI v :: []) (S_To_kind (d := 0) (Nat.le_refl _) L ) (fun _ hx => absurd hx List.not_mem_nil) (fun _ => rfl) (fun Q' Q => x_callS (as := [mL a1]) (rest := []) (k' := k_To_kind) (dA d_Es_takeValue 1 rfl) o_To_kind lk_Es_52 st_To_kind (Nat.le_of_ble_eq_true rfl) (Nat.le_trans (Nat.le_of_ble_eq_true rfl) hd) (Nat.le_of_ble_eq_true rfl)) (fun x26 h24 e25 p27 => ?_)
  have L28 := L.ext e25
  refine z_go (fun Q hq => x_istore_n (dA d_Es_takeValue 2 rfl) rfl (by decide) rfl (x_iload_n (dA d_Es_takeValue 3 rfl) rfl rfl (x_iconst (dA d_Es_takeValue 4 rfl) hq))) ?_
  refine z_br (fun Q => x_icmp_eq (dA d_Es_takeValue 5 rfl) rfl p27 (inR_lit (1 : Int) rfl)) (fun c29 => ?_) (fun c29 => ?_)
  · exact S_Es_takeValue_15 hd  L28 p27
  · refine z_go (fun Q hq => x_iload_n (dA d_Es_takeValue 6 rfl) rfl rfl (x_iconst (dA d_Es_takeValue 7 rfl) hq)) ?_
    refine z_brn (fun Q => x_icmp_ne (dA d_Es_takeValue 8 rfl) rfl p27 (inR_lit (2 : Int) rfl)) (fun c30 => ?_) (fun c30 => ?_)
    · exact S_Es_takeValue_15 hd  L28 p27
    · refine z_go (fun Q hq => x_aload_n (dA d_Es_takeValue 36 rfl) rfl rfl (x_lload_n (dA d_Es_takeValue 37 rfl) rfl rfl hq)) ?_
      refine z_bnd (rest := []) (st1 := fun v => mI v :: []) (S_Es_signOf (d := 1) (Nat.le_refl _) L28 ) (fun _ hx => absurd hx List.not_mem_nil) (fun _ => rfl) (fun Q' Q => x_callV (as := [mL a1]) (rest := []) (k' := k_Es_signOf) (dA d_Es_takeValue 38 rfl) o_Es_signOf lk_Es_60 im_Es_signOf se_Es_signOf rfl (L28.sh (x := (5, 6)) rfl) (by decide) (Nat.le_of_ble_eq_true rfl) (Nat.le_trans (Nat.le_of_ble_eq_true rfl) hd) (Nat.le_of_ble_eq_true rfl)) (fun x33 h31 e32 p34 => ?_)
      have L35 := L28.ext e32
      refine z_go (fun Q hq => x_istore (dA d_Es_takeValue 39 rfl) (by decide) rfl (x_iload (dA d_Es_takeValue 40 rfl) rfl (x_bipush (dA d_Es_takeValue 41 rfl) (by decide) hq))) ?_
      refine z_br (fun Q => x_icmp_eq (dA d_Es_takeValue 42 rfl) rfl p34 (inR_lit (45 : Int) rfl)) (fun c36 => ?_) (fun c36 => ?_)
      · refine z_fgt (ls' := [mR 97, mN, mN, mN, mI x33]) ⟨.inr rfl, .inl rfl, .inl rfl, .inl rfl, .inr rfl, trivial⟩ ?_
        exact S_Es_takeValue_88 hd  L35 p34
      · refine z_go (fun Q hq => x_iload (dA d_Es_takeValue 43 rfl) rfl (x_bipush (dA d_Es_takeValue 44 rfl) (by decide) hq)) ?_
        refine z_br (fun Q => x_icmp_eq (dA d_Es_takeValue 45 rfl) rfl p34 (inR_lit (33 : Int) rfl)) (fun c37 => ?_) (fun c37 => ?_)
        · refine z_fgt (ls' := [mR 97, mN, mN, mN, mI x33]) ⟨.inr rfl, .inl rfl, .inl rfl, .inl rfl, .inr rfl, trivial⟩ ?_
          exact S_Es_takeValue_88 hd  L35 p34
        · refine z_go (fun Q hq => x_iload (dA d_Es_takeValue 46 rfl) rfl (x_bipush (dA d_Es_takeValue 47 rfl) (by decide) hq)) ?_
          refine z_brn (fun Q => x_icmp_ne (dA d_Es_takeValue 48 rfl) rfl p34 (inR_lit (126 : Int) rfl)) (fun c38 => ?_) (fun c38 => ?_)
          · refine z_fgt (ls' := [mR 97, mN, mN, mN, mI x33]) ⟨.inr rfl, .inl rfl, .inl rfl, .inl rfl, .inr rfl, trivial⟩ ?_
            exact S_Es_takeValue_88 hd  L35 p34
          · refine z_go (fun Q hq => x_iload (dA d_Es_takeValue 54 rfl) rfl (x_bipush (dA d_Es_takeValue 55 rfl) (by decide) hq)) ?_
            refine z_br (fun Q => x_icmp_eq (dA d_Es_takeValue 56 rfl) rfl p34 (inR_lit (40 : Int) rfl)) (fun c39 => ?_) (fun c39 => ?_)
            · refine z_fgt (ls' := [mR 97, mN, mN, mN, mI x33]) ⟨.inr rfl, .inl rfl, .inl rfl, .inl rfl, .inr rfl, trivial⟩ ?_
              exact S_Es_takeValue_114 hd  L35 p34
            · refine z_go (fun Q hq => x_aload_n (dA d_Es_takeValue 57 rfl) rfl rfl (x_getR (dA d_Es_takeValue 58 rfl) f_Es_25 (L35.sh (x := (5, 6)) rfl) (by decide) (by decide) rfl (L35.rf 104 rfl) (x_bipush (dA d_Es_takeValue 59 rfl) (by decide) hq))) ?_
              refine z_bnd (rest := []) (st1 := fun _ => []) (S_To_fail (d := 0) (Nat.le_refl _) L35 (inR_lit (9 : Int) rfl)) (fun _ hx => absurd hx List.not_mem_nil) (fun _ => rfl) (fun Q' Q => x_callV (as := [mI (9 : Int)]) (rest := []) (k' := k_To_fail) (dA d_Es_takeValue 60 rfl) o_To_fail lk_Es_43 im_To_fail se_To_fail rfl (L35.sh (x := (11, 3)) rfl) (by decide) (Nat.le_of_ble_eq_true rfl) (Nat.le_trans (Nat.le_of_ble_eq_true rfl) hd) (Nat.le_of_ble_eq_true rfl)) (fun x42 h40 e41 p43 => ?_)
              have L44 := L35.ext e41
              refine z_fgt (ls' := [mR 97, mN, mN, mN, mI x33]) ⟨.inr rfl, .inl rfl, .inl rfl, .inl rfl, .inr rfl, trivial⟩ ?_
              exact S_Es_takeValue_114 hd  L44 p34
/-! TwoMills$Expression.valueOf([JI)J -/
noncomputable def F_Es_valueOf_109 (h : MH) : RS Int64 := gd (0 ≤ (0 : Int) ∧ (0 : Int) < 100) (some (.inl (mGl h 98 (0 : Int).toNat), h))
theorem S_Es_valueOf_109 {d : Nat} (hd : 3 ≤ d) {h : MH} (L : LayC h) : OK d k_Es_valueOf 109 [mR 97, mN, mN, mN, mN] [] h cJ pT (F_Es_valueOf_109   h) := by
  unfold F_Es_valueOf_109
  refine z_go (fun Q hq => x_aload_n (dA d_Es_valueOf 57 rfl) rfl rfl (x_getR (dA d_Es_valueOf 58 rfl) f_Es_11 (L.sh (x := (5, 6)) rfl) (by decide) (by decide) rfl (L.rf 105 rfl) (x_iconst (dA d_Es_valueOf 59 rfl) hq))) ?_
  refine z_gd (fun g1 => ?_)
  refine z_go (fun Q hq => x_lald (dA d_Es_valueOf 60 rfl) (L.sh (x := (103, 100)) rfl) g1.1 g1.2 (by decide) hq) ?_
  exact z_retj (dA d_Es_valueOf 61 rfl) rfl
noncomputable def F_Es_valueOf_100 (h : MH) : RS Int64 := bnd (F_To_fail (9 : Int) h) fun x4 h2 => F_Es_valueOf_109  h2
theorem S_Es_valueOf_100 {d : Nat} (hd : 3 ≤ d) {h : MH} (L : LayC h) : OK d k_Es_valueOf 100 [mR 97, mN, mN, mN, mN] [] h cJ pT (F_Es_valueOf_100   h) := by
  unfold F_Es_valueOf_100
  refine z_go (fun Q hq => x_aload_n (dA d_Es_valueOf 53 rfl) rfl rfl (x_getR (dA d_Es_valueOf 54 rfl) f_Es_25 (L.sh (x := (5, 6)) rfl) (by decide) (by decide) rfl (L.rf 104 rfl) (x_bipush (dA d_Es_valueOf 55 rfl) (by decide) hq))) ?_
  refine z_bnd (rest := []) (st1 := fun _ => []) (S_To_fail (d := 0) (Nat.le_refl _) L (inR_lit (9 : Int) rfl)) (fun _ hx => absurd hx List.not_mem_nil) (fun _ => rfl) (fun Q' Q => x_callV (as := [mI (9 : Int)]) (rest := []) (k' := k_To_fail) (dA d_Es_valueOf 56 rfl) o_To_fail lk_Es_43 im_To_fail se_To_fail rfl (L.sh (x := (11, 3)) rfl) (by decide) (Nat.le_of_ble_eq_true rfl) (Nat.le_trans (Nat.le_of_ble_eq_true rfl) hd) (Nat.le_of_ble_eq_true rfl)) (fun x4 h2 e3 p5 => ?_)
  have L6 := L.ext e3
  exact S_Es_valueOf_109 hd  L6 
noncomputable def F_Es_valueOf_71 (h : MH) : RS Int64 := bnd (F_Es_applyDownTo (1 : Int) h) fun x9 h7 => if (mGi h7 97 5) = 0 then if (mGi h7 97 3) = (1 : Int) then gd (0 ≤ (0 : Int) ∧ (0 : Int) < 100) (if (mGi h7 99 (0 : Int).toNat) = 0 then F_Es_valueOf_109  h7 else F_Es_valueOf_100  h7) else F_Es_valueOf_100  h7 else F_Es_valueOf_100  h7
theorem S_Es_valueOf_71 {d : Nat} (hd : 3 ≤ d) {h : MH} (L : LayC h) : OK d k_Es_valueOf 71 [mR 97, mN, mN, mN, mN] [] h cJ pT (F_Es_valueOf_71   h) := by
  unfold F_Es_valueOf_71
  refine z_go (fun Q hq => x_aload_n (dA d_Es_valueOf 38 rfl) rfl rfl (x_iconst (dA d_Es_valueOf 39 rfl) hq)) ?_
  refine z_bnd (rest := []) (st1 := fun _ => []) (S_Es_applyDownTo (d := 1) (Nat.le_refl _) L (inR_lit (1 : Int) rfl)) (fun _ hx => absurd hx List.not_mem_nil) (fun _ => rfl) (fun Q' Q => x_callV (as := [mI (1 : Int)]) (rest := []) (k' := k_Es_applyDownTo) (dA d_Es_valueOf 40 rfl) o_Es_applyDownTo lk_Es_49 im_Es_applyDownTo se_Es_applyDownTo rfl (L.sh (x := (5, 6)) rfl) (by decide) (Nat.le_of_ble_eq_true rfl) (Nat.le_trans (Nat.le_of_ble_eq_true rfl) hd) (Nat.le_of_ble_eq_true rfl)) (fun x9 h7 e8 p10 => ?_)
  have L11 := L.ext e8
  refine z_go (fun Q hq => x_aload_n (dA d_Es_valueOf 41 rfl) rfl rfl (x_getI (dA d_Es_valueOf 42 rfl) f_Es_33 (L11.sh (x := (5, 6)) rfl) (by decide) (by decide) rfl hq)) ?_
  refine z_brn (fun Q => x_if_ne (dA d_Es_valueOf 43 rfl) rfl (L11.rg _ _)) (fun c12 => ?_) (fun c12 => ?_)
  · refine z_go (fun Q hq => x_aload_n (dA d_Es_valueOf 44 rfl) rfl rfl (x_getI (dA d_Es_valueOf 45 rfl) f_Es_29 (L11.sh (x := (5, 6)) rfl) (by decide) (by decide) rfl (x_iconst (dA d_Es_valueOf 46 rfl) hq))) ?_
    refine z_brn (fun Q => x_icmp_ne (dA d_Es_valueOf 47 rfl) rfl (L11.rg _ _) (inR_lit (1 : Int) rfl)) (fun c13 => ?_) (fun c13 => ?_)
    · refine z_go (fun Q hq => x_aload_n (dA d_Es_valueOf 48 rfl) rfl rfl (x_getR (dA d_Es_valueOf 49 rfl) f_Es_17 (L11.sh (x := (5, 6)) rfl) (by decide) (by decide) rfl (L11.rf 106 rfl) (x_iconst (dA d_Es_valueOf 50 rfl) hq))) ?_
      refine z_gd (fun g14 => ?_)
      refine z_go (fun Q hq => x_zald (dA d_Es_valueOf 51 rfl) (L11.sh (x := (102, 100)) rfl) g14.1 g14.2 (by decide) hq) ?_
      refine z_br (fun Q => x_if_eq (dA d_Es_valueOf 52 rfl) rfl (L11.rg _ _)) (fun c15 => ?_) (fun c15 => ?_)
      · exact S_Es_valueOf_109 hd  L11 
      · exact S_Es_valueOf_100 hd  L11 
    · exact S_Es_valueOf_100 hd  L11 
  · exact S_Es_valueOf_100 hd  L11 
noncomputable def F_Es_valueOf_58 (v3 : Int) (h : MH) : RS Int64 := if v3 = 0 then F_Es_valueOf_71  h else bnd (F_To_fail (9 : Int) h) fun x19 h17 => F_Es_valueOf_71  h17
theorem S_Es_valueOf_58 {d : Nat} (hd : 3 ≤ d) {v3 : Int} {h : MH} (L : LayC h) (rv3 : inR v3) : OK d k_Es_valueOf 58 [mR 97, mN, mN, mI v3, mN] [] h cJ pT (F_Es_valueOf_58  v3 h) := by
  unfold F_Es_valueOf_58
  refine z_go (fun Q hq => x_iload_n (dA d_Es_valueOf 32 rfl) rfl rfl hq) ?_
  refine z_br (fun Q => x_if_eq (dA d_Es_valueOf 33 rfl) rfl rv3) (fun c16 => ?_) (fun c16 => ?_)
  · refine z_fgt (ls' := [mR 97, mN, mN, mN, mN]) ⟨.inr rfl, .inl rfl, .inl rfl, .inl rfl, .inl rfl, trivial⟩ ?_
    exact S_Es_valueOf_71 hd  L 
  · refine z_go (fun Q hq => x_aload_n (dA d_Es_valueOf 34 rfl) rfl rfl (x_getR (dA d_Es_valueOf 35 rfl) f_Es_25 (L.sh (x := (5, 6)) rfl) (by decide) (by decide) rfl (L.rf 104 rfl) (x_bipush (dA d_Es_valueOf 36 rfl) (by decide) hq))) ?_
    refine z_bnd (rest := []) (st1 := fun _ => []) (S_To_fail (d := 0) (Nat.le_refl _) L (inR_lit (9 : Int) rfl)) (fun _ hx => absurd hx List.not_mem_nil) (fun _ => rfl) (fun Q' Q => x_callV (as := [mI (9 : Int)]) (rest := []) (k' := k_To_fail) (dA d_Es_valueOf 37 rfl) o_To_fail lk_Es_43 im_To_fail se_To_fail rfl (L.sh (x := (11, 3)) rfl) (by decide) (Nat.le_of_ble_eq_true rfl) (Nat.le_trans (Nat.le_of_ble_eq_true rfl) hd) (Nat.le_of_ble_eq_true rfl)) (fun x19 h17 e18 p20 => ?_)
    have L21 := L.ext e18
    refine z_fgt (ls' := [mR 97, mN, mN, mN, mN]) ⟨.inr rfl, .inl rfl, .inl rfl, .inl rfl, .inl rfl, trivial⟩ ?_
    exact S_Es_valueOf_71 hd  L21 
noncomputable def F_Es_valueOf_51 (G15 : Nat → Nat → Int → Int → Int → MH → RS Int64) (v1 : Nat) (v1n : Nat) (v2 : Int) (v4 : Int) (s0 : Int) (h : MH) : RS Int64 := gd (inR (v4 + (1 : Int))) (G15 v1 v1n v2 s0 (v4 + (1 : Int)) h)
theorem S_Es_valueOf_51 {d : Nat} (hd : 3 ≤ d) {G15 : Nat → Nat → Int → Int → Int → MH → RS Int64} (hG15 : ∀ (v1 : Nat) (v1n : Nat) (v2 : Int) (v3 : Int) (v4 : Int) (h : MH), LayC h → ArO h v1 103 v1n → inR v2 → inR v3 → inR v4 → OK d k_Es_valueOf 15 [mR 97, mR v1, mI v2, mI v3, mI v4] [] h cJ pT (G15 v1 v1n v2 v3 v4 h)) {v1 : Nat} {v1n : Nat} {v2 : Int} {v4 : Int} {s0 : Int} {h : MH} (L : LayC h) (ov1 : ArO h v1 103 v1n) (rv2 : inR v2) (rv4 : inR v4) (rs0 : inR s0) : OK d k_Es_valueOf 51 [mR 97, mR v1, mI v2, mN, mI v4] [mI s0] h cJ pT (F_Es_valueOf_51 G15 v1 v1n v2 v4 s0 h) := by
  unfold F_Es_valueOf_51
  refine z_go (fun Q hq => x_istore_n (dA d_Es_valueOf 29 rfl) rfl (by decide) rfl hq) ?_
  refine z_gd (fun g22 => ?_)
  refine z_go (fun Q hq => x_iinc (dA d_Es_valueOf 30 rfl) rfl (by decide) rfl (x_goto (dA d_Es_valueOf 31 rfl) rfl hq)) ?_
  exact hG15 v1 v1n v2 s0 (v4 + (1 : Int)) h L ov1 rv2 rs0 g22
noncomputable def F_Es_valueOf_15_b (G15 : Nat → Nat → Int → Int → Int → MH → RS Int64) (v1 : Nat) (v1n : Nat) (v2 : Int) (v3 : Int) (v4 : Int) (h : MH) : RS Int64 := if v2 ≤ v4 then F_Es_valueOf_58 v3 h else if (100 : Int) ≤ v4 then F_Es_valueOf_58 v3 h else if v3 = 0 then gd (0 ≤ v4 ∧ v4 < v1n) (bnd (F_Es_takeSign (mGl h v1 v4.toNat) h) fun x29 h27 => F_Es_valueOf_51 G15 v1 v1n v2 v4 x29 h27) else gd (0 ≤ v4 ∧ v4 < v1n) (bnd (F_Es_takeValue (mGl h v1 v4.toNat) h) fun x35 h33 => F_Es_valueOf_51 G15 v1 v1n v2 v4 x35 h33)
theorem S_Es_valueOf_15_b {d : Nat} (hd : 3 ≤ d) {G15 : Nat → Nat → Int → Int → Int → MH → RS Int64} (hG15 : ∀ (v1 : Nat) (v1n : Nat) (v2 : Int) (v3 : Int) (v4 : Int) (h : MH), LayC h → ArO h v1 103 v1n → inR v2 → inR v3 → inR v4 → OK d k_Es_valueOf 15 [mR 97, mR v1, mI v2, mI v3, mI v4] [] h cJ pT (G15 v1 v1n v2 v3 v4 h)) {v1 : Nat} {v1n : Nat} {v2 : Int} {v3 : Int} {v4 : Int} {h : MH} (L : LayC h) (ov1 : ArO h v1 103 v1n) (rv2 : inR v2) (rv3 : inR v3) (rv4 : inR v4) : OK d k_Es_valueOf 15 [mR 97, mR v1, mI v2, mI v3, mI v4] [] h cJ pT (F_Es_valueOf_15_b G15 v1 v1n v2 v3 v4 h) := by
  unfold F_Es_valueOf_15_b
  refine z_go (fun Q hq => x_iload (dA d_Es_valueOf 10 rfl) rfl (x_iload_n (dA d_Es_valueOf 11 rfl) rfl rfl hq)) ?_
  refine z_br (fun Q => x_icmp_ge (dA d_Es_valueOf 12 rfl) rfl rv4 rv2) (fun c23 => ?_) (fun c23 => ?_)
  · refine z_fgt (ls' := [mR 97, mN, mN, mI v3, mN]) ⟨.inr rfl, .inl rfl, .inl rfl, .inr rfl, .inl rfl, trivial⟩ ?_
    exact S_Es_valueOf_58 hd  L rv3
  · refine z_go (fun Q hq => x_iload (dA d_Es_valueOf 13 rfl) rfl (x_bipush (dA d_Es_valueOf 14 rfl) (by decide) hq)) ?_
    refine z_br (fun Q => x_icmp_ge (dA d_Es_valueOf 15 rfl) rfl rv4 (inR_lit (100 : Int) rfl)) (fun c24 => ?_) (fun c24 => ?_)
    · refine z_fgt (ls' := [mR 97, mN, mN, mI v3, mN]) ⟨.inr rfl, .inl rfl, .inl rfl, .inr rfl, .inl rfl, trivial⟩ ?_
      exact S_Es_valueOf_58 hd  L rv3
    · refine z_go (fun Q hq => x_iload_n (dA d_Es_valueOf 16 rfl) rfl rfl hq) ?_
      refine z_br (fun Q => x_if_eq (dA d_Es_valueOf 17 rfl) rfl rv3) (fun c25 => ?_) (fun c25 => ?_)
      · refine z_go (fun Q hq => x_aload_n (dA d_Es_valueOf 24 rfl) rfl rfl (x_aload_n (dA d_Es_valueOf 25 rfl) rfl rfl (x_iload (dA d_Es_valueOf 26 rfl) rfl hq))) ?_
        refine z_gd (fun g26 => ?_)
        refine z_go (fun Q hq => x_lald (dA d_Es_valueOf 27 rfl) ov1.1 g26.1 g26.2 ov1.2 hq) ?_
        refine z_bnd (rest := []) (st1 := fun v => mI v :: []) (S_Es_takeSign (d := 2) (Nat.le_refl _) L ) (fun _ hx => absurd hx List.not_mem_nil) (fun _ => rfl) (fun Q' Q => x_callV (as := [mL (mGl h v1 v4.toNat)]) (rest := []) (k' := k_Es_takeSign) (dA d_Es_valueOf 28 rfl) o_Es_takeSign lk_Es_40 im_Es_takeSign se_Es_takeSign rfl (L.sh (x := (5, 6)) rfl) (by decide) (Nat.le_of_ble_eq_true rfl) (Nat.le_trans (Nat.le_of_ble_eq_true rfl) hd) (Nat.le_of_ble_eq_true rfl)) (fun x29 h27 e28 p30 => ?_)
        have L31 := L.ext e28
        refine z_fgt (ls' := [mR 97, mR v1, mI v2, mN, mI v4]) ⟨.inr rfl, .inr rfl, .inr rfl, .inl rfl, .inr rfl, trivial⟩ ?_
        exact S_Es_valueOf_51 hd hG15 L31 (ov1.ext e28) rv2 rv4 p30.inR
      · refine z_go (fun Q hq => x_aload_n (dA d_Es_valueOf 18 rfl) rfl rfl (x_aload_n (dA d_Es_valueOf 19 rfl) rfl rfl (x_iload (dA d_Es_valueOf 20 rfl) rfl hq))) ?_
        refine z_gd (fun g32 => ?_)
        refine z_go (fun Q hq => x_lald (dA d_Es_valueOf 21 rfl) ov1.1 g32.1 g32.2 ov1.2 hq) ?_
        refine z_bnd (rest := []) (st1 := fun v => mI v :: []) (S_Es_takeValue (d := 2) (Nat.le_refl _) L ) (fun _ hx => absurd hx List.not_mem_nil) (fun _ => rfl) (fun Q' Q => x_callV (as := [mL (mGl h v1 v4.toNat)]) (rest := []) (k' := k_Es_takeValue) (dA d_Es_valueOf 22 rfl) o_Es_takeValue lk_Es_36 im_Es_takeValue se_Es_takeValue rfl (L.sh (x := (5, 6)) rfl) (by decide) (Nat.le_of_ble_eq_true rfl) (Nat.le_trans (Nat.le_of_ble_eq_true rfl) hd) (Nat.le_of_ble_eq_true rfl)) (fun x35 h33 e34 p36 => ?_)
        have L37 := L.ext e34
        refine z_go (fun Q hq => x_goto (dA d_Es_valueOf 23 rfl) rfl hq) ?_
        refine z_fgt (ls' := [mR 97, mR v1, mI v2, mN, mI v4]) ⟨.inr rfl, .inr rfl, .inr rfl, .inl rfl, .inr rfl, trivial⟩ ?_
        exact S_Es_valueOf_51 hd hG15 L37 (ov1.ext e34) rv2 rv4 p36.inR
noncomputable def F_Es_valueOf_15 (v1 : Nat) (v1n : Nat) (v2 : Int) (v3 : Int) (v4 : Int) (h : MH) : RS Int64 := itr (fun self (q : Nat × Nat × Int × Int × Int × MH) => F_Es_valueOf_15_b (fun v1 v1n v2 v3 v4 h => self (v1, v1n, v2, v3, v4, h)) q.1 q.2.1 q.2.2.1 q.2.2.2.1 q.2.2.2.2.1 q.2.2.2.2.2) FU (v1, v1n, v2, v3, v4, h)
theorem S_Es_valueOf_15 {d : Nat} (hd : 3 ≤ d) {v1 : Nat} {v1n : Nat} {v2 : Int} {v3 : Int} {v4 : Int} {h : MH} (L : LayC h) (ov1 : ArO h v1 103 v1n) (rv2 : inR v2) (rv3 : inR v3) (rv4 : inR v4) : OK d k_Es_valueOf 15 [mR 97, mR v1, mI v2, mI v3, mI v4] [] h cJ pT (F_Es_valueOf_15  v1 v1n v2 v3 v4 h) := by
  unfold F_Es_valueOf_15
  refine z_itr (P := fun q : Nat × Nat × Int × Int × Int × MH => LayC q.2.2.2.2.2 ∧ ArO q.2.2.2.2.2 q.1 103 q.2.1 ∧ inR q.2.2.1 ∧ inR q.2.2.2.1 ∧ inR q.2.2.2.2.1 ∧ True) (ls := fun q : Nat × Nat × Int × Int × Int × MH => [mR 97, mR q.1, mI q.2.2.1, mI q.2.2.2.1, mI q.2.2.2.2.1]) (hp := fun q : Nat × Nat × Int × Int × Int × MH => q.2.2.2.2.2) (fun self hs q hq => ?_) FU (v1, v1n, v2, v3, v4, h) ⟨L, ov1, rv2, rv3, rv4, trivial⟩
  exact S_Es_valueOf_15_b hd (fun v1 v1n v2 v3 v4 h L ov1 rv2 rv3 rv4 => hs (v1, v1n, v2, v3, v4, h) ⟨L, ov1, rv2, rv3, rv4, trivial⟩) hq.1 hq.2.1 hq.2.2.1 hq.2.2.2.1 hq.2.2.2.2.1
noncomputable def F_Es_valueOf (a1 : Nat) (a1n : Nat) (a2 : Int) (h : MH) : RS Int64 := sto (mPi h 97 3 (0 : Int)) fun h38 => sto (mPi h38 97 5 (0 : Int)) fun h41 => F_Es_valueOf_15 a1 a1n a2 (1 : Int) (0 : Int) h41
theorem S_Es_valueOf {d : Nat} (hd : 3 ≤ d) {a1 : Nat} {a1n : Nat} {a2 : Int} {h : MH} (L : LayC h) (oa1 : ArO h a1 103 a1n) (ra2 : inR a2) : OK d k_Es_valueOf 0 [mR 97, mR a1, mI a2, mN, mN] [] h cJ pT (F_Es_valueOf  a1 a1n a2 h) := by
  unfold F_Es_valueOf
  refine z_go (fun Q hq => x_aload_n (dA d_Es_valueOf 0 rfl) rfl rfl (x_iconst (dA d_Es_valueOf 1 rfl) hq)) ?_
  refine z_sto (Ext.pi (L.sh (x := (5, 6)) rfl) (by decide) (inR_lit (0 : Int) rfl)) (fun Q hq => x_putI (dA d_Es_valueOf 2 rfl) p_Es_29 (L.sh (x := (5, 6)) rfl) (by decide) cl_Es rfl hq) (fun h38 e39 => ?_)
  have L40 := L.ext e39
  refine z_go (fun Q hq => x_aload_n (dA d_Es_valueOf 3 rfl) rfl rfl (x_iconst (dA d_Es_valueOf 4 rfl) hq)) ?_
  refine z_sto (Ext.pi (L40.sh (x := (5, 6)) rfl) (by decide) (inR_lit (0 : Int) rfl)) (fun Q hq => x_putI (dA d_Es_valueOf 5 rfl) p_Es_33 (L40.sh (x := (5, 6)) rfl) (by decide) cl_Es rfl hq) (fun h41 e42 => ?_)
  have L43 := L40.ext e42
  refine z_go (fun Q hq => x_iconst (dA d_Es_valueOf 6 rfl) (x_istore_n (dA d_Es_valueOf 7 rfl) rfl (by decide) rfl (x_iconst (dA d_Es_valueOf 8 rfl) (x_istore (dA d_Es_valueOf 9 rfl) (by decide) rfl hq)))) ?_
  exact S_Es_valueOf_15 hd  L43 ((oa1.ext e39).ext e42) ra2 (inR_lit (1 : Int) rfl) (inR_lit (0 : Int) rfl)
/-! TwoMills$Tokens.digit(Z)J -/
noncomputable def F_To_digit_14 (s0 : Int) (s1 : Int) (h : MH) : RS Int64 := bnd (F_To_token s0 s1 (1 : Int) h) fun x3 h1 => some (.inl x3, h1)
theorem S_To_digit_14 {d : Nat} (hd : 1 ≤ d) {s0 : Int} {s1 : Int} {h : MH} (L : LayC h) (rs0 : inR s0) (rs1 : inR s1) : OK d k_To_digit 14 [mN] [mI s1, mI s0] h cJ pT (F_To_digit_14  s0 s1 h) := by
  unfold F_To_digit_14
  refine z_go (fun Q hq => x_iconst (dA d_To_digit 6 rfl) hq) ?_
  refine z_bnd (rest := []) (st1 := fun v => mL v :: []) (S_To_token (d := 0) (Nat.le_refl _) L rs0 rs1 (inR_lit (1 : Int) rfl)) (fun _ hx => absurd hx List.not_mem_nil) (fun _ => rfl) (fun Q' Q => x_callS (as := [mI s0, mI s1, mI (1 : Int)]) (rest := []) (k' := k_To_token) (dA d_To_digit 7 rfl) o_To_token lk_To_41 st_To_token (Nat.le_of_ble_eq_true rfl) (Nat.le_trans (Nat.le_of_ble_eq_true rfl) hd) (Nat.le_of_ble_eq_true rfl)) (fun x3 h1 e2 p4 => ?_)
  have L5 := L.ext e2
  exact z_retj (dA d_To_digit 8 rfl) rfl
noncomputable def F_To_digit (a1 : Int) (h : MH) : RS Int64 := if a1 = 0 then F_To_digit_14 (2 : Int) (400 : Int) h else F_To_digit_14 (2 : Int) (401 : Int) h
theorem S_To_digit {d : Nat} (hd : 1 ≤ d) {a1 : Int} {h : MH} (L : LayC h) (ra1 : p01 a1) : OK d k_To_digit 0 [mI a1] [] h cJ pT (F_To_digit  a1 h) := by
  unfold F_To_digit
  refine z_go (fun Q hq => x_iconst (dA d_To_digit 0 rfl) (x_iload_n (dA d_To_digit 1 rfl) rfl rfl hq)) ?_
  refine z_br (fun Q => x_if_eq (dA d_To_digit 2 rfl) rfl ra1.inR) (fun c6 => ?_) (fun c6 => ?_)
  · refine z_go (fun Q hq => x_sipush (dA d_To_digit 5 rfl) (by decide) hq) ?_
    refine z_fgt (ls' := [mN]) ⟨.inl rfl, trivial⟩ ?_
    exact S_To_digit_14 hd  L (inR_lit (2 : Int) rfl) (inR_lit (400 : Int) rfl)
  · refine z_go (fun Q hq => x_sipush (dA d_To_digit 3 rfl) (by decide) (x_goto (dA d_To_digit 4 rfl) rfl hq)) ?_
    refine z_fgt (ls' := [mN]) ⟨.inl rfl, trivial⟩ ?_
    exact S_To_digit_14 hd  L (inR_lit (2 : Int) rfl) (inR_lit (401 : Int) rfl)
/-! TwoMills$SecondMill.answerDefined()I -/
noncomputable def F_Sm_answerDefined_193 (G4 : Int → Int → MH → RS Int) (v1 : Int) (v2 : Int) (h : MH) : RS Int := gd (inR (v1 + (1 : Int))) (gd (inR (v2 + (1 : Int))) (G4 (v1 + (1 : Int)) (v2 + (1 : Int)) h))
theorem S_Sm_answerDefined_193 {d : Nat} (hd : 6 ≤ d) {G4 : Int → Int → MH → RS Int} (hG4 : ∀ (v1 : Int) (v2 : Int) (h : MH), LayC h → inR v1 → inR v2 → OK d k_Sm_answerDefined 4 [mR 86, mI v1, mI v2, mN] [] h cI inR (G4 v1 v2 h)) {v1 : Int} {v2 : Int} {h : MH} (L : LayC h) (rv1 : inR v1) (rv2 : inR v2) : OK d k_Sm_answerDefined 193 [mR 86, mI v1, mI v2, mN] [] h cI inR (F_Sm_answerDefined_193 G4 v1 v2 h) := by
  unfold F_Sm_answerDefined_193
  refine z_gd (fun g1 => ?_)
  refine z_go (fun Q hq => x_iinc (dA d_Sm_answerDefined 107 rfl) rfl (by decide) rfl hq) ?_
  refine z_gd (fun g2 => ?_)
  refine z_go (fun Q hq => x_iinc (dA d_Sm_answerDefined 108 rfl) rfl (by decide) rfl (x_goto (dA d_Sm_answerDefined 109 rfl) rfl hq)) ?_
  exact hG4 (v1 + (1 : Int)) (v2 + (1 : Int)) h L g1 g2
noncomputable def F_Sm_answerDefined_181 (G4 : Int → Int → MH → RS Int) (v1 : Int) (v2 : Int) (h : MH) : RS Int := gd (0 ≤ v2 ∧ v2 < 400) (gd (0 ≤ v1 ∧ v1 < 400) (sto (mPl h 103 v1.toNat (mGl h 103 v2.toNat)) fun h5 => F_Sm_answerDefined_193 G4 v1 v2 h5))
theorem S_Sm_answerDefined_181 {d : Nat} (hd : 6 ≤ d) {G4 : Int → Int → MH → RS Int} (hG4 : ∀ (v1 : Int) (v2 : Int) (h : MH), LayC h → inR v1 → inR v2 → OK d k_Sm_answerDefined 4 [mR 86, mI v1, mI v2, mN] [] h cI inR (G4 v1 v2 h)) {v1 : Int} {v2 : Int} {h : MH} (L : LayC h) (rv1 : inR v1) (rv2 : inR v2) : OK d k_Sm_answerDefined 181 [mR 86, mI v1, mI v2, mN] [] h cI inR (F_Sm_answerDefined_181 G4 v1 v2 h) := by
  unfold F_Sm_answerDefined_181
  refine z_go (fun Q hq => x_aload_n (dA d_Sm_answerDefined 99 rfl) rfl rfl (x_getR (dA d_Sm_answerDefined 100 rfl) f_Sm_52 (L.sh (x := (10, 12)) rfl) (by decide) (by decide) rfl (L.rf 91 rfl) (x_iload_n (dA d_Sm_answerDefined 101 rfl) rfl rfl (x_aload_n (dA d_Sm_answerDefined 102 rfl) rfl rfl (x_getR (dA d_Sm_answerDefined 103 rfl) f_Sm_52 (L.sh (x := (10, 12)) rfl) (by decide) (by decide) rfl (L.rf 91 rfl) (x_iload_n (dA d_Sm_answerDefined 104 rfl) rfl rfl hq)))))) ?_
  refine z_gd (fun g3 => ?_)
  refine z_go (fun Q hq => x_lald (dA d_Sm_answerDefined 105 rfl) (L.sh (x := (103, 400)) rfl) g3.1 g3.2 (by decide) hq) ?_
  refine z_gd (fun g4 => ?_)
  refine z_sto Ext.pl (fun Q hq => x_last (dA d_Sm_answerDefined 106 rfl) (L.sh (x := (103, 400)) rfl) g4.1 g4.2 (by decide) hq) (fun h5 e6 => ?_)
  have L7 := L.ext e6
  exact S_Sm_answerDefined_193 hd hG4 L7 rv1 rv2
noncomputable def F_Sm_answerDefined_171 (G4 : Int → Int → MH → RS Int) (v1 : Int) (v2 : Int) (s1 : Int) (s2 : Int) (h : MH) : RS Int := gd (p01 s2) (bnd (F_To_digit s2 h) fun x11 h9 => gd (0 ≤ s1 ∧ s1 < 400) (sto (mPl h9 103 s1.toNat x11) fun h15 => gd (inR (v2 + (3 : Int))) (F_Sm_answerDefined_193 G4 v1 (v2 + (3 : Int)) h15)))
theorem S_Sm_answerDefined_171 {d : Nat} (hd : 6 ≤ d) {G4 : Int → Int → MH → RS Int} (hG4 : ∀ (v1 : Int) (v2 : Int) (h : MH), LayC h → inR v1 → inR v2 → OK d k_Sm_answerDefined 4 [mR 86, mI v1, mI v2, mN] [] h cI inR (G4 v1 v2 h)) {v1 : Int} {v2 : Int} {s1 : Int} {s2 : Int} {h : MH} (L : LayC h) (rv1 : inR v1) (rv2 : inR v2) (rs1 : inR s1) (rs2 : inR s2) : OK d k_Sm_answerDefined 171 [mR 86, mI v1, mI v2, mN] [mI s2, mI s1, mR 103] h cI inR (F_Sm_answerDefined_171 G4 v1 v2 s1 s2 h) := by
  unfold F_Sm_answerDefined_171
  refine z_gd (fun g8 => ?_)
  refine z_bnd (rest := [mI s1, mR 103]) (st1 := fun v => mL v :: [mI s1, mR 103]) (S_To_digit (d := 1) (Nat.le_refl _) L g8) (fun _ hx => absurd hx List.not_mem_nil) (fun _ => rfl) (fun Q' Q => x_callS (as := [mI s2]) (rest := [mI s1, mR 103]) (k' := k_To_digit) (dA d_Sm_answerDefined 95 rfl) o_To_digit lk_Sm_270 st_To_digit (Nat.le_of_ble_eq_true rfl) (Nat.le_trans (Nat.le_of_ble_eq_true rfl) hd) (Nat.le_of_ble_eq_true rfl)) (fun x11 h9 e10 p12 => ?_)
  have L13 := L.ext e10
  refine z_gd (fun g14 => ?_)
  refine z_sto Ext.pl (fun Q hq => x_last (dA d_Sm_answerDefined 96 rfl) (L13.sh (x := (103, 400)) rfl) g14.1 g14.2 (by decide) hq) (fun h15 e16 => ?_)
  have L17 := L13.ext e16
  refine z_gd (fun g18 => ?_)
  refine z_go (fun Q hq => x_iinc (dA d_Sm_answerDefined 97 rfl) rfl (by decide) rfl (x_goto (dA d_Sm_answerDefined 98 rfl) rfl hq)) ?_
  exact S_Sm_answerDefined_193 hd hG4 L17 rv1 g18
noncomputable def F_Sm_answerDefined_101 (G4 : Int → Int → MH → RS Int) (v1 : Int) (v2 : Int) (v3 : Int) (h : MH) : RS Int := if v3 = 0 then F_Sm_answerDefined_181 G4 v1 v2 h else gd (inR (v2 + (1 : Int))) (bnd (F_Sm_isSignAt (v2 + (1 : Int)) (40 : Int) h) fun x23 h21 => if x23 = 0 then F_Sm_answerDefined_181 G4 v1 v2 h21 else gd (inR (v2 + (2 : Int))) (bnd (F_Sm_isWordAt (v2 + (2 : Int)) h21) fun x30 h28 => if x30 = 0 then F_Sm_answerDefined_181 G4 v1 v2 h28 else gd (inR (v2 + (3 : Int))) (bnd (F_Sm_isSignAt (v2 + (3 : Int)) (41 : Int) h28) fun x37 h35 => if x37 = 0 then F_Sm_answerDefined_181 G4 v1 v2 h35 else gd (0 ≤ (v2 + (2 : Int)) ∧ (v2 + (2 : Int)) < 400) (bnd (F_Na_find (mGl h35 103 (v2 + (2 : Int)).toNat) h35) fun x44 h42 => if x44 < 0 then F_Sm_answerDefined_171 G4 v1 v2 v1 (0 : Int) h42 else F_Sm_answerDefined_171 G4 v1 v2 v1 (1 : Int) h42))))
theorem S_Sm_answerDefined_101 {d : Nat} (hd : 6 ≤ d) {G4 : Int → Int → MH → RS Int} (hG4 : ∀ (v1 : Int) (v2 : Int) (h : MH), LayC h → inR v1 → inR v2 → OK d k_Sm_answerDefined 4 [mR 86, mI v1, mI v2, mN] [] h cI inR (G4 v1 v2 h)) {v1 : Int} {v2 : Int} {v3 : Int} {h : MH} (L : LayC h) (rv1 : inR v1) (rv2 : inR v2) (rv3 : inR v3) : OK d k_Sm_answerDefined 101 [mR 86, mI v1, mI v2, mI v3] [] h cI inR (F_Sm_answerDefined_101 G4 v1 v2 v3 h) := by
  unfold F_Sm_answerDefined_101
  refine z_go (fun Q hq => x_iload_n (dA d_Sm_answerDefined 55 rfl) rfl rfl hq) ?_
  refine z_br (fun Q => x_if_eq (dA d_Sm_answerDefined 56 rfl) rfl rv3) (fun c19 => ?_) (fun c19 => ?_)
  · refine z_fgt (ls' := [mR 86, mI v1, mI v2, mN]) ⟨.inr rfl, .inr rfl, .inr rfl, .inl rfl, trivial⟩ ?_
    exact S_Sm_answerDefined_181 hd hG4 L rv1 rv2
  · refine z_go (fun Q hq => x_aload_n (dA d_Sm_answerDefined 57 rfl) rfl rfl (x_iload_n (dA d_Sm_answerDefined 58 rfl) rfl rfl (x_iconst (dA d_Sm_answerDefined 59 rfl) hq))) ?_
    refine z_gd (fun g20 => ?_)
    refine z_go (fun Q hq => x_iadd (dA d_Sm_answerDefined 60 rfl) (x_bipush (dA d_Sm_answerDefined 61 rfl) (by decide) hq)) ?_
    refine z_bnd (rest := []) (st1 := fun v => mI v :: []) (S_Sm_isSignAt (d := 2) (Nat.le_refl _) L g20 (ch_lit (40 : Int) rfl)) (fun _ hx => absurd hx List.not_mem_nil) (fun _ => rfl) (fun Q' Q => x_callV (as := [mI (v2 + (1 : Int)), mI (40 : Int)]) (rest := []) (k' := k_Sm_isSignAt) (dA d_Sm_answerDefined 62 rfl) o_Sm_isSignAt lk_Sm_125 im_Sm_isSignAt se_Sm_isSignAt rfl (L.sh (x := (10, 12)) rfl) (by decide) (Nat.le_of_ble_eq_true rfl) (Nat.le_trans (Nat.le_of_ble_eq_true rfl) hd) (Nat.le_of_ble_eq_true rfl)) (fun x23 h21 e22 p24 => ?_)
    have L25 := L.ext e22
    refine z_br (fun Q => x_if_eq (dA d_Sm_answerDefined 63 rfl) rfl p24.inR) (fun c26 => ?_) (fun c26 => ?_)
    · refine z_fgt (ls' := [mR 86, mI v1, mI v2, mN]) ⟨.inr rfl, .inr rfl, .inr rfl, .inl rfl, trivial⟩ ?_
      exact S_Sm_answerDefined_181 hd hG4 L25 rv1 rv2
    · refine z_go (fun Q hq => x_aload_n (dA d_Sm_answerDefined 64 rfl) rfl rfl (x_iload_n (dA d_Sm_answerDefined 65 rfl) rfl rfl (x_iconst (dA d_Sm_answerDefined 66 rfl) hq))) ?_
      refine z_gd (fun g27 => ?_)
      refine z_go (fun Q hq => x_iadd (dA d_Sm_answerDefined 67 rfl) hq) ?_
      refine z_bnd (rest := []) (st1 := fun v => mI v :: []) (S_Sm_isWordAt (d := 1) (Nat.le_refl _) L25 g27) (fun _ hx => absurd hx List.not_mem_nil) (fun _ => rfl) (fun Q' Q => x_callV (as := [mI (v2 + (2 : Int))]) (rest := []) (k' := k_Sm_isWordAt) (dA d_Sm_answerDefined 68 rfl) o_Sm_isWordAt lk_Sm_129 im_Sm_isWordAt se_Sm_isWordAt rfl (L25.sh (x := (10, 12)) rfl) (by decide) (Nat.le_of_ble_eq_true rfl) (Nat.le_trans (Nat.le_of_ble_eq_true rfl) hd) (Nat.le_of_ble_eq_true rfl)) (fun x30 h28 e29 p31 => ?_)
      have L32 := L25.ext e29
      refine z_br (fun Q => x_if_eq (dA d_Sm_answerDefined 69 rfl) rfl p31.inR) (fun c33 => ?_) (fun c33 => ?_)
      · refine z_fgt (ls' := [mR 86, mI v1, mI v2, mN]) ⟨.inr rfl, .inr rfl, .inr rfl, .inl rfl, trivial⟩ ?_
        exact S_Sm_answerDefined_181 hd hG4 L32 rv1 rv2
      · refine z_go (fun Q hq => x_aload_n (dA d_Sm_answerDefined 70 rfl) rfl rfl (x_iload_n (dA d_Sm_answerDefined 71 rfl) rfl rfl (x_iconst (dA d_Sm_answerDefined 72 rfl) hq))) ?_
        refine z_gd (fun g34 => ?_)
        refine z_go (fun Q hq => x_iadd (dA d_Sm_answerDefined 73 rfl) (x_bipush (dA d_Sm_answerDefined 74 rfl) (by decide) hq)) ?_
        refine z_bnd (rest := []) (st1 := fun v => mI v :: []) (S_Sm_isSignAt (d := 2) (Nat.le_refl _) L32 g34 (ch_lit (41 : Int) rfl)) (fun _ hx => absurd hx List.not_mem_nil) (fun _ => rfl) (fun Q' Q => x_callV (as := [mI (v2 + (3 : Int)), mI (41 : Int)]) (rest := []) (k' := k_Sm_isSignAt) (dA d_Sm_answerDefined 75 rfl) o_Sm_isSignAt lk_Sm_125 im_Sm_isSignAt se_Sm_isSignAt rfl (L32.sh (x := (10, 12)) rfl) (by decide) (Nat.le_of_ble_eq_true rfl) (Nat.le_trans (Nat.le_of_ble_eq_true rfl) hd) (Nat.le_of_ble_eq_true rfl)) (fun x37 h35 e36 p38 => ?_)
        have L39 := L32.ext e36
        refine z_br (fun Q => x_if_eq (dA d_Sm_answerDefined 76 rfl) rfl p38.inR) (fun c40 => ?_) (fun c40 => ?_)
        · refine z_fgt (ls' := [mR 86, mI v1, mI v2, mN]) ⟨.inr rfl, .inr rfl, .inr rfl, .inl rfl, trivial⟩ ?_
          exact S_Sm_answerDefined_181 hd hG4 L39 rv1 rv2
        · refine z_go (fun Q hq => x_aload_n (dA d_Sm_answerDefined 77 rfl) rfl rfl (x_getR (dA d_Sm_answerDefined 78 rfl) f_Sm_52 (L39.sh (x := (10, 12)) rfl) (by decide) (by decide) rfl (L39.rf 91 rfl) (x_iload_n (dA d_Sm_answerDefined 79 rfl) rfl rfl (x_aload_n (dA d_Sm_answerDefined 80 rfl) rfl rfl (x_getR (dA d_Sm_answerDefined 81 rfl) f_Sm_21 (L39.sh (x := (10, 12)) rfl) (by decide) (by decide) rfl (L39.rf 87 rfl) (x_aload_n (dA d_Sm_answerDefined 82 rfl) rfl rfl (x_getR (dA d_Sm_answerDefined 83 rfl) f_Sm_12 (L39.sh (x := (10, 12)) rfl) (by decide) (by decide) rfl (L39.rf 86 rfl) (x_aload_n (dA d_Sm_answerDefined 84 rfl) rfl rfl (x_getR (dA d_Sm_answerDefined 85 rfl) f_Sm_52 (L39.sh (x := (10, 12)) rfl) (by decide) (by decide) rfl (L39.rf 91 rfl) (x_iload_n (dA d_Sm_answerDefined 86 rfl) rfl rfl (x_iconst (dA d_Sm_answerDefined 87 rfl) (x_iadd (dA d_Sm_answerDefined 88 rfl) hq)))))))))))) ?_
          refine z_gd (fun g41 => ?_)
          refine z_go (fun Q hq => x_lald (dA d_Sm_answerDefined 89 rfl) (L39.sh (x := (103, 400)) rfl) g41.1 g41.2 (by decide) hq) ?_
          refine z_bnd (rest := [mI v1, mR 103]) (st1 := fun v => mI v :: [mI v1, mR 103]) (S_Na_find (d := 2) (Nat.le_refl _) L39 ) (fun _ hx => absurd hx List.not_mem_nil) (fun _ => rfl) (fun Q' Q => x_callV (as := [mR 87, mL (mGl h35 103 (v2 + (2 : Int)).toNat)]) (rest := [mI v1, mR 103]) (k' := k_Na_find) (dA d_Sm_answerDefined 90 rfl) o_Na_find lk_Sm_235 im_Na_find se_Na_find rfl (L39.sh (x := (8, 5)) rfl) (by decide) (Nat.le_of_ble_eq_true rfl) (Nat.le_trans (Nat.le_of_ble_eq_true rfl) hd) (Nat.le_of_ble_eq_true rfl)) (fun x44 h42 e43 p45 => ?_)
          have L46 := L39.ext e43
          refine z_br (fun Q => x_if_lt (dA d_Sm_answerDefined 91 rfl) rfl p45) (fun c47 => ?_) (fun c47 => ?_)
          · refine z_go (fun Q hq => x_iconst (dA d_Sm_answerDefined 94 rfl) hq) ?_
            refine z_fgt (ls' := [mR 86, mI v1, mI v2, mN]) ⟨.inr rfl, .inr rfl, .inr rfl, .inl rfl, trivial⟩ ?_
            exact S_Sm_answerDefined_171 hd hG4 L46 rv1 rv2 rv1 (inR_lit (0 : Int) rfl)
          · refine z_go (fun Q hq => x_iconst (dA d_Sm_answerDefined 92 rfl) (x_goto (dA d_Sm_answerDefined 93 rfl) rfl hq)) ?_
            refine z_fgt (ls' := [mR 86, mI v1, mI v2, mN]) ⟨.inr rfl, .inr rfl, .inr rfl, .inl rfl, trivial⟩ ?_
            exact S_Sm_answerDefined_171 hd hG4 L46 rv1 rv2 rv1 (inR_lit (1 : Int) rfl)
noncomputable def F_Sm_answerDefined_91 (G4 : Int → Int → MH → RS Int) (v1 : Int) (v2 : Int) (s1 : Int) (s2 : Int) (h : MH) : RS Int := gd (p01 s2) (bnd (F_To_digit s2 h) fun x51 h49 => gd (0 ≤ s1 ∧ s1 < 400) (sto (mPl h49 103 s1.toNat x51) fun h55 => gd (inR (v2 + (1 : Int))) (F_Sm_answerDefined_193 G4 v1 (v2 + (1 : Int)) h55)))
theorem S_Sm_answerDefined_91 {d : Nat} (hd : 6 ≤ d) {G4 : Int → Int → MH → RS Int} (hG4 : ∀ (v1 : Int) (v2 : Int) (h : MH), LayC h → inR v1 → inR v2 → OK d k_Sm_answerDefined 4 [mR 86, mI v1, mI v2, mN] [] h cI inR (G4 v1 v2 h)) {v1 : Int} {v2 : Int} {s1 : Int} {s2 : Int} {h : MH} (L : LayC h) (rv1 : inR v1) (rv2 : inR v2) (rs1 : inR s1) (rs2 : inR s2) : OK d k_Sm_answerDefined 91 [mR 86, mI v1, mI v2, mN] [mI s2, mI s1, mR 103] h cI inR (F_Sm_answerDefined_91 G4 v1 v2 s1 s2 h) := by
  unfold F_Sm_answerDefined_91
  refine z_gd (fun g48 => ?_)
  refine z_bnd (rest := [mI s1, mR 103]) (st1 := fun v => mL v :: [mI s1, mR 103]) (S_To_digit (d := 1) (Nat.le_refl _) L g48) (fun _ hx => absurd hx List.not_mem_nil) (fun _ => rfl) (fun Q' Q => x_callS (as := [mI s2]) (rest := [mI s1, mR 103]) (k' := k_To_digit) (dA d_Sm_answerDefined 51 rfl) o_To_digit lk_Sm_270 st_To_digit (Nat.le_of_ble_eq_true rfl) (Nat.le_trans (Nat.le_of_ble_eq_true rfl) hd) (Nat.le_of_ble_eq_true rfl)) (fun x51 h49 e50 p52 => ?_)
  have L53 := L.ext e50
  refine z_gd (fun g54 => ?_)
  refine z_sto Ext.pl (fun Q hq => x_last (dA d_Sm_answerDefined 52 rfl) (L53.sh (x := (103, 400)) rfl) g54.1 g54.2 (by decide) hq) (fun h55 e56 => ?_)
  have L57 := L53.ext e56
  refine z_gd (fun g58 => ?_)
  refine z_go (fun Q hq => x_iinc (dA d_Sm_answerDefined 53 rfl) rfl (by decide) rfl (x_goto (dA d_Sm_answerDefined 54 rfl) rfl hq)) ?_
  exact S_Sm_answerDefined_193 hd hG4 L57 rv1 g58
noncomputable def F_Sm_answerDefined_44 (G4 : Int → Int → MH → RS Int) (v1 : Int) (v2 : Int) (s0 : Int) (h : MH) : RS Int := if s0 = 0 then F_Sm_answerDefined_101 G4 v1 v2 s0 h else gd (inR (v2 + (1 : Int))) (bnd (F_Sm_isWordAt (v2 + (1 : Int)) h) fun x63 h61 => if x63 = 0 then F_Sm_answerDefined_101 G4 v1 v2 s0 h61 else gd (0 ≤ (v2 + (1 : Int)) ∧ (v2 + (1 : Int)) < 400) (bnd (F_Na_find (mGl h61 103 (v2 + (1 : Int)).toNat) h61) fun x70 h68 => if x70 < 0 then F_Sm_answerDefined_91 G4 v1 v2 v1 (0 : Int) h68 else F_Sm_answerDefined_91 G4 v1 v2 v1 (1 : Int) h68))
theorem S_Sm_answerDefined_44 {d : Nat} (hd : 6 ≤ d) {G4 : Int → Int → MH → RS Int} (hG4 : ∀ (v1 : Int) (v2 : Int) (h : MH), LayC h → inR v1 → inR v2 → OK d k_Sm_answerDefined 4 [mR 86, mI v1, mI v2, mN] [] h cI inR (G4 v1 v2 h)) {v1 : Int} {v2 : Int} {s0 : Int} {h : MH} (L : LayC h) (rv1 : inR v1) (rv2 : inR v2) (rs0 : inR s0) : OK d k_Sm_answerDefined 44 [mR 86, mI v1, mI v2, mN] [mI s0] h cI inR (F_Sm_answerDefined_44 G4 v1 v2 s0 h) := by
  unfold F_Sm_answerDefined_44
  refine z_go (fun Q hq => x_istore_n (dA d_Sm_answerDefined 24 rfl) rfl (by decide) rfl (x_iload_n (dA d_Sm_answerDefined 25 rfl) rfl rfl hq)) ?_
  refine z_br (fun Q => x_if_eq (dA d_Sm_answerDefined 26 rfl) rfl rs0) (fun c59 => ?_) (fun c59 => ?_)
  · exact S_Sm_answerDefined_101 hd hG4 L rv1 rv2 rs0
  · refine z_go (fun Q hq => x_aload_n (dA d_Sm_answerDefined 27 rfl) rfl rfl (x_iload_n (dA d_Sm_answerDefined 28 rfl) rfl rfl (x_iconst (dA d_Sm_answerDefined 29 rfl) hq))) ?_
    refine z_gd (fun g60 => ?_)
    refine z_go (fun Q hq => x_iadd (dA d_Sm_answerDefined 30 rfl) hq) ?_
    refine z_bnd (rest := []) (st1 := fun v => mI v :: []) (S_Sm_isWordAt (d := 1) (Nat.le_refl _) L g60) (fun _ hx => absurd hx List.not_mem_nil) (fun _ => rfl) (fun Q' Q => x_callV (as := [mI (v2 + (1 : Int))]) (rest := []) (k' := k_Sm_isWordAt) (dA d_Sm_answerDefined 31 rfl) o_Sm_isWordAt lk_Sm_129 im_Sm_isWordAt se_Sm_isWordAt rfl (L.sh (x := (10, 12)) rfl) (by decide) (Nat.le_of_ble_eq_true rfl) (Nat.le_trans (Nat.le_of_ble_eq_true rfl) hd) (Nat.le_of_ble_eq_true rfl)) (fun x63 h61 e62 p64 => ?_)
    have L65 := L.ext e62
    refine z_br (fun Q => x_if_eq (dA d_Sm_answerDefined 32 rfl) rfl p64.inR) (fun c66 => ?_) (fun c66 => ?_)
    · exact S_Sm_answerDefined_101 hd hG4 L65 rv1 rv2 rs0
    · refine z_go (fun Q hq => x_aload_n (dA d_Sm_answerDefined 33 rfl) rfl rfl (x_getR (dA d_Sm_answerDefined 34 rfl) f_Sm_52 (L65.sh (x := (10, 12)) rfl) (by decide) (by decide) rfl (L65.rf 91 rfl) (x_iload_n (dA d_Sm_answerDefined 35 rfl) rfl rfl (x_aload_n (dA d_Sm_answerDefined 36 rfl) rfl rfl (x_getR (dA d_Sm_answerDefined 37 rfl) f_Sm_21 (L65.sh (x := (10, 12)) rfl) (by decide) (by decide) rfl (L65.rf 87 rfl) (x_aload_n (dA d_Sm_answerDefined 38 rfl) rfl rfl (x_getR (dA d_Sm_answerDefined 39 rfl) f_Sm_12 (L65.sh (x := (10, 12)) rfl) (by decide) (by decide) rfl (L65.rf 86 rfl) (x_aload_n (dA d_Sm_answerDefined 40 rfl) rfl rfl (x_getR (dA d_Sm_answerDefined 41 rfl) f_Sm_52 (L65.sh (x := (10, 12)) rfl) (by decide) (by decide) rfl (L65.rf 91 rfl) (x_iload_n (dA d_Sm_answerDefined 42 rfl) rfl rfl (x_iconst (dA d_Sm_answerDefined 43 rfl) (x_iadd (dA d_Sm_answerDefined 44 rfl) hq)))))))))))) ?_
      refine z_gd (fun g67 => ?_)
      refine z_go (fun Q hq => x_lald (dA d_Sm_answerDefined 45 rfl) (L65.sh (x := (103, 400)) rfl) g67.1 g67.2 (by decide) hq) ?_
      refine z_bnd (rest := [mI v1, mR 103]) (st1 := fun v => mI v :: [mI v1, mR 103]) (S_Na_find (d := 2) (Nat.le_refl _) L65 ) (fun _ hx => absurd hx List.not_mem_nil) (fun _ => rfl) (fun Q' Q => x_callV (as := [mR 87, mL (mGl h61 103 (v2 + (1 : Int)).toNat)]) (rest := [mI v1, mR 103]) (k' := k_Na_find) (dA d_Sm_answerDefined 46 rfl) o_Na_find lk_Sm_235 im_Na_find se_Na_find rfl (L65.sh (x := (8, 5)) rfl) (by decide) (Nat.le_of_ble_eq_true rfl) (Nat.le_trans (Nat.le_of_ble_eq_true rfl) hd) (Nat.le_of_ble_eq_true rfl)) (fun x70 h68 e69 p71 => ?_)
      have L72 := L65.ext e69
      refine z_br (fun Q => x_if_lt (dA d_Sm_answerDefined 47 rfl) rfl p71) (fun c73 => ?_) (fun c73 => ?_)
      · refine z_go (fun Q hq => x_iconst (dA d_Sm_answerDefined 50 rfl) hq) ?_
        refine z_fgt (ls' := [mR 86, mI v1, mI v2, mN]) ⟨.inr rfl, .inr rfl, .inr rfl, .inl rfl, trivial⟩ ?_
        exact S_Sm_answerDefined_91 hd hG4 L72 rv1 rv2 rv1 (inR_lit (0 : Int) rfl)
      · refine z_go (fun Q hq => x_iconst (dA d_Sm_answerDefined 48 rfl) (x_goto (dA d_Sm_answerDefined 49 rfl) rfl hq)) ?_
        refine z_fgt (ls' := [mR 86, mI v1, mI v2, mN]) ⟨.inr rfl, .inr rfl, .inr rfl, .inl rfl, trivial⟩ ?_
        exact S_Sm_answerDefined_91 hd hG4 L72 rv1 rv2 rv1 (inR_lit (1 : Int) rfl)
noncomputable def F_Sm_answerDefined_43 (G4 : Int → Int → MH → RS Int) (v1 : Int) (v2 : Int) (h : MH) : RS Int := F_Sm_answerDefined_44 G4 v1 v2 (0 : Int) h
theorem S_Sm_answerDefined_43 {d : Nat} (hd : 6 ≤ d) {G4 : Int → Int → MH → RS Int} (hG4 : ∀ (v1 : Int) (v2 : Int) (h : MH), LayC h → inR v1 → inR v2 → OK d k_Sm_answerDefined 4 [mR 86, mI v1, mI v2, mN] [] h cI inR (G4 v1 v2 h)) {v1 : Int} {v2 : Int} {h : MH} (L : LayC h) (rv1 : inR v1) (rv2 : inR v2) : OK d k_Sm_answerDefined 43 [mR 86, mI v1, mI v2, mN] [] h cI inR (F_Sm_answerDefined_43 G4 v1 v2 h) := by
  unfold F_Sm_answerDefined_43
  refine z_go (fun Q hq => x_iconst (dA d_Sm_answerDefined 23 rfl) hq) ?_
  exact S_Sm_answerDefined_44 hd hG4 L rv1 rv2 (inR_lit (0 : Int) rfl)
noncomputable def F_Sm_answerDefined_4_b (G4 : Int → Int → MH → RS Int) (v1 : Int) (v2 : Int) (h : MH) : RS Int := if (mGi h 86 6) ≤ v2 then some (.inl v1, h) else bnd (F_Sm_isWordAt v2 h) fun x77 h75 => if x77 = 0 then F_Sm_answerDefined_43 G4 v1 v2 h75 else gd (0 ≤ v2 ∧ v2 < 400) (bnd (F_To_is (mGl h75 103 v2.toNat) 15 h75) fun x84 h82 => if x84 = 0 then F_Sm_answerDefined_43 G4 v1 v2 h82 else F_Sm_answerDefined_44 G4 v1 v2 (1 : Int) h82)
theorem S_Sm_answerDefined_4_b {d : Nat} (hd : 6 ≤ d) {G4 : Int → Int → MH → RS Int} (hG4 : ∀ (v1 : Int) (v2 : Int) (h : MH), LayC h → inR v1 → inR v2 → OK d k_Sm_answerDefined 4 [mR 86, mI v1, mI v2, mN] [] h cI inR (G4 v1 v2 h)) {v1 : Int} {v2 : Int} {h : MH} (L : LayC h) (rv1 : inR v1) (rv2 : inR v2) : OK d k_Sm_answerDefined 4 [mR 86, mI v1, mI v2, mN] [] h cI inR (F_Sm_answerDefined_4_b G4 v1 v2 h) := by
  unfold F_Sm_answerDefined_4_b
  refine z_go (fun Q hq => x_iload_n (dA d_Sm_answerDefined 4 rfl) rfl rfl (x_aload_n (dA d_Sm_answerDefined 5 rfl) rfl rfl (x_getI (dA d_Sm_answerDefined 6 rfl) f_Sm_109 (L.sh (x := (10, 12)) rfl) (by decide) (by decide) rfl hq))) ?_
  refine z_br (fun Q => x_icmp_ge (dA d_Sm_answerDefined 7 rfl) rfl rv2 (L.rg _ _)) (fun c74 => ?_) (fun c74 => ?_)
  · refine z_go (fun Q hq => x_iload_n (dA d_Sm_answerDefined 110 rfl) rfl rfl hq) ?_
    exact z_reti (dA d_Sm_answerDefined 111 rfl) rfl rv1
  · refine z_go (fun Q hq => x_aload_n (dA d_Sm_answerDefined 8 rfl) rfl rfl (x_iload_n (dA d_Sm_answerDefined 9 rfl) rfl rfl hq)) ?_
    refine z_bnd (rest := []) (st1 := fun v => mI v :: []) (S_Sm_isWordAt (d := 1) (Nat.le_refl _) L rv2) (fun _ hx => absurd hx List.not_mem_nil) (fun _ => rfl) (fun Q' Q => x_callV (as := [mI v2]) (rest := []) (k' := k_Sm_isWordAt) (dA d_Sm_answerDefined 10 rfl) o_Sm_isWordAt lk_Sm_129 im_Sm_isWordAt se_Sm_isWordAt rfl (L.sh (x := (10, 12)) rfl) (by decide) (Nat.le_of_ble_eq_true rfl) (Nat.le_trans (Nat.le_of_ble_eq_true rfl) hd) (Nat.le_of_ble_eq_true rfl)) (fun x77 h75 e76 p78 => ?_)
    have L79 := L.ext e76
    refine z_br (fun Q => x_if_eq (dA d_Sm_answerDefined 11 rfl) rfl p78.inR) (fun c80 => ?_) (fun c80 => ?_)
    · exact S_Sm_answerDefined_43 hd hG4 L79 rv1 rv2
    · refine z_go (fun Q hq => x_aload_n (dA d_Sm_answerDefined 12 rfl) rfl rfl (x_getR (dA d_Sm_answerDefined 13 rfl) f_Sm_12 (L79.sh (x := (10, 12)) rfl) (by decide) (by decide) rfl (L79.rf 86 rfl) (x_aload_n (dA d_Sm_answerDefined 14 rfl) rfl rfl (x_getR (dA d_Sm_answerDefined 15 rfl) f_Sm_52 (L79.sh (x := (10, 12)) rfl) (by decide) (by decide) rfl (L79.rf 91 rfl) (x_iload_n (dA d_Sm_answerDefined 16 rfl) rfl rfl hq))))) ?_
      refine z_gd (fun g81 => ?_)
      refine z_go (fun Q hq => x_lald (dA d_Sm_answerDefined 17 rfl) (L79.sh (x := (103, 400)) rfl) g81.1 g81.2 (by decide) (x_ldcwS (dA d_Sm_answerDefined 18 rfl) (List.mem_of_getElem? (i := 17) rfl) hq)) ?_
      refine z_bnd (rest := []) (st1 := fun v => mI v :: []) (S_To_is (d := 5) (Nat.le_refl _) L79 (by decide)) (fun _ hx => absurd hx List.not_mem_nil) (fun _ => rfl) (fun Q' Q => x_callV (as := [mL (mGl h75 103 v2.toNat), mS 15]) (rest := []) (k' := k_To_is) (dA d_Sm_answerDefined 19 rfl) o_To_is lk_Sm_183 im_To_is se_To_is rfl (L79.sh (x := (11, 3)) rfl) (by decide) (Nat.le_of_ble_eq_true rfl) (Nat.le_trans (Nat.le_of_ble_eq_true rfl) hd) (Nat.le_of_ble_eq_true rfl)) (fun x84 h82 e83 p85 => ?_)
      have L86 := L79.ext e83
      refine z_br (fun Q => x_if_eq (dA d_Sm_answerDefined 20 rfl) rfl p85.inR) (fun c87 => ?_) (fun c87 => ?_)
      · exact S_Sm_answerDefined_43 hd hG4 L86 rv1 rv2
      · refine z_go (fun Q hq => x_iconst (dA d_Sm_answerDefined 21 rfl) (x_goto (dA d_Sm_answerDefined 22 rfl) rfl hq)) ?_
        exact S_Sm_answerDefined_44 hd hG4 L86 rv1 rv2 (inR_lit (1 : Int) rfl)
noncomputable def F_Sm_answerDefined_4 (v1 : Int) (v2 : Int) (h : MH) : RS Int := itr (fun self (q : Int × Int × MH) => F_Sm_answerDefined_4_b (fun v1 v2 h => self (v1, v2, h)) q.1 q.2.1 q.2.2) FU (v1, v2, h)
theorem S_Sm_answerDefined_4 {d : Nat} (hd : 6 ≤ d) {v1 : Int} {v2 : Int} {h : MH} (L : LayC h) (rv1 : inR v1) (rv2 : inR v2) : OK d k_Sm_answerDefined 4 [mR 86, mI v1, mI v2, mN] [] h cI inR (F_Sm_answerDefined_4  v1 v2 h) := by
  unfold F_Sm_answerDefined_4
  refine z_itr (P := fun q : Int × Int × MH => LayC q.2.2 ∧ inR q.1 ∧ inR q.2.1 ∧ True) (ls := fun q : Int × Int × MH => [mR 86, mI q.1, mI q.2.1, mN]) (hp := fun q : Int × Int × MH => q.2.2) (fun self hs q hq => ?_) FU (v1, v2, h) ⟨L, rv1, rv2, trivial⟩
  exact S_Sm_answerDefined_4_b hd (fun v1 v2 h L rv1 rv2 => hs (v1, v2, h) ⟨L, rv1, rv2, trivial⟩) hq.1 hq.2.1 hq.2.2.1
noncomputable def F_Sm_answerDefined (h : MH) : RS Int := F_Sm_answerDefined_4 (0 : Int) (2 : Int) h
theorem S_Sm_answerDefined {d : Nat} (hd : 6 ≤ d) {h : MH} (L : LayC h) : OK d k_Sm_answerDefined 0 [mR 86, mN, mN, mN] [] h cI inR (F_Sm_answerDefined   h) := by
  unfold F_Sm_answerDefined
  refine z_go (fun Q hq => x_iconst (dA d_Sm_answerDefined 0 rfl) (x_istore_n (dA d_Sm_answerDefined 1 rfl) rfl (by decide) rfl (x_iconst (dA d_Sm_answerDefined 2 rfl) (x_istore_n (dA d_Sm_answerDefined 3 rfl) rfl (by decide) rfl hq)))) ?_
  exact S_Sm_answerDefined_4 hd  L (inR_lit (0 : Int) rfl) (inR_lit (2 : Int) rfl)
/-! TwoMills$SecondMill.beginByName(Z)V -/
noncomputable def F_Sm_beginByName_64 (s1 : Int) (h : MH) : RS Unit := gd (p01 s1) (bnd (F_Sm_beginLevel s1 (0 : Int) h) fun x4 h2 => some (.inl (), h2))
theorem S_Sm_beginByName_64 {d : Nat} (hd : 3 ≤ d) {s1 : Int} {h : MH} (L : LayC h) (rs1 : inR s1) : OK d k_Sm_beginByName 64 [mN, mN] [mI s1, mR 86] h cV pT (F_Sm_beginByName_64  s1 h) := by
  unfold F_Sm_beginByName_64
  refine z_go (fun Q hq => x_iconst (dA d_Sm_beginByName 34 rfl) hq) ?_
  refine z_gd (fun g1 => ?_)
  refine z_bnd (rest := []) (st1 := fun _ => []) (S_Sm_beginLevel (d := 0) (Nat.le_refl _) L g1 (.inl rfl)) (fun _ hx => absurd hx List.not_mem_nil) (fun _ => rfl) (fun Q' Q => x_callV (as := [mI s1, mI (0 : Int)]) (rest := []) (k' := k_Sm_beginLevel) (dA d_Sm_beginByName 35 rfl) o_Sm_beginLevel lk_Sm_194 im_Sm_beginLevel se_Sm_beginLevel rfl (L.sh (x := (10, 12)) rfl) (by decide) (Nat.le_of_ble_eq_true rfl) (Nat.le_trans (Nat.le_of_ble_eq_true rfl) hd) (Nat.le_of_ble_eq_true rfl)) (fun x4 h2 e3 p5 => ?_)
  have L6 := L.ext e3
  exact z_retv (dA d_Sm_beginByName 36 rfl) rfl
noncomputable def F_Sm_beginByName_55 (v1 : Int) (s1 : Int) (h : MH) : RS Unit := if s1 = v1 then F_Sm_beginByName_64 (1 : Int) h else F_Sm_beginByName_64 (0 : Int) h
theorem S_Sm_beginByName_55 {d : Nat} (hd : 3 ≤ d) {v1 : Int} {s1 : Int} {h : MH} (L : LayC h) (rv1 : inR v1) (rs1 : inR s1) : OK d k_Sm_beginByName 55 [mN, mI v1] [mI s1, mR 86] h cV pT (F_Sm_beginByName_55  v1 s1 h) := by
  unfold F_Sm_beginByName_55
  refine z_go (fun Q hq => x_iload_n (dA d_Sm_beginByName 29 rfl) rfl rfl hq) ?_
  refine z_brn (fun Q => x_icmp_ne (dA d_Sm_beginByName 30 rfl) rfl rs1 rv1) (fun c7 => ?_) (fun c7 => ?_)
  · refine z_go (fun Q hq => x_iconst (dA d_Sm_beginByName 31 rfl) (x_goto (dA d_Sm_beginByName 32 rfl) rfl hq)) ?_
    refine z_fgt (ls' := [mN, mN]) ⟨.inl rfl, .inl rfl, trivial⟩ ?_
    exact S_Sm_beginByName_64 hd  L (inR_lit (1 : Int) rfl)
  · refine z_go (fun Q hq => x_iconst (dA d_Sm_beginByName 33 rfl) hq) ?_
    refine z_fgt (ls' := [mN, mN]) ⟨.inl rfl, .inl rfl, trivial⟩ ?_
    exact S_Sm_beginByName_64 hd  L (inR_lit (0 : Int) rfl)
noncomputable def F_Sm_beginByName_22 (v1 : Int) (s1 : Int) (h : MH) : RS Unit := gd (p01 s1) (bnd (F_Sm_require s1 h) fun x11 h9 => bnd (F_Sm_requireLevelRoom h9) fun x16 h14 => gd (0 ≤ (2 : Int) ∧ (2 : Int) < 400) (bnd (F_Na_find (mGl h14 103 (2 : Int).toNat) h14) fun x22 h20 => if x22 < 0 then F_Sm_beginByName_55 v1 (0 : Int) h20 else F_Sm_beginByName_55 v1 (1 : Int) h20))
theorem S_Sm_beginByName_22 {d : Nat} (hd : 3 ≤ d) {v1 : Int} {s1 : Int} {h : MH} (L : LayC h) (rv1 : inR v1) (rs1 : inR s1) : OK d k_Sm_beginByName 22 [mR 86, mI v1] [mI s1, mR 86] h cV pT (F_Sm_beginByName_22  v1 s1 h) := by
  unfold F_Sm_beginByName_22
  refine z_gd (fun g8 => ?_)
  refine z_bnd (rest := []) (st1 := fun _ => []) (S_Sm_require (d := 1) (Nat.le_refl _) L g8) (fun _ hx => absurd hx List.not_mem_nil) (fun _ => rfl) (fun Q' Q => x_callV (as := [mI s1]) (rest := []) (k' := k_Sm_require) (dA d_Sm_beginByName 12 rfl) o_Sm_require lk_Sm_145 im_Sm_require se_Sm_require rfl (L.sh (x := (10, 12)) rfl) (by decide) (Nat.le_of_ble_eq_true rfl) (Nat.le_trans (Nat.le_of_ble_eq_true rfl) hd) (Nat.le_of_ble_eq_true rfl)) (fun x11 h9 e10 p12 => ?_)
  have L13 := L.ext e10
  refine z_go (fun Q hq => x_aload_n (dA d_Sm_beginByName 13 rfl) rfl rfl hq) ?_
  refine z_bnd (rest := []) (st1 := fun _ => []) (S_Sm_requireLevelRoom (d := 1) (Nat.le_refl _) L13 ) (fun _ hx => absurd hx List.not_mem_nil) (fun _ => rfl) (fun Q' Q => x_callV (as := []) (rest := []) (k' := k_Sm_requireLevelRoom) (dA d_Sm_beginByName 14 rfl) o_Sm_requireLevelRoom lk_Sm_191 im_Sm_requireLevelRoom se_Sm_requireLevelRoom rfl (L13.sh (x := (10, 12)) rfl) (by decide) (Nat.le_of_ble_eq_true rfl) (Nat.le_trans (Nat.le_of_ble_eq_true rfl) hd) (Nat.le_of_ble_eq_true rfl)) (fun x16 h14 e15 p17 => ?_)
  have L18 := L13.ext e15
  refine z_go (fun Q hq => x_aload_n (dA d_Sm_beginByName 15 rfl) rfl rfl (x_aload_n (dA d_Sm_beginByName 16 rfl) rfl rfl (x_getR (dA d_Sm_beginByName 17 rfl) f_Sm_21 (L18.sh (x := (10, 12)) rfl) (by decide) (by decide) rfl (L18.rf 87 rfl) (x_aload_n (dA d_Sm_beginByName 18 rfl) rfl rfl (x_getR (dA d_Sm_beginByName 19 rfl) f_Sm_12 (L18.sh (x := (10, 12)) rfl) (by decide) (by decide) rfl (L18.rf 86 rfl) (x_aload_n (dA d_Sm_beginByName 20 rfl) rfl rfl (x_getR (dA d_Sm_beginByName 21 rfl) f_Sm_52 (L18.sh (x := (10, 12)) rfl) (by decide) (by decide) rfl (L18.rf 91 rfl) (x_iconst (dA d_Sm_beginByName 22 rfl) hq)))))))) ?_
  refine z_gd (fun g19 => ?_)
  refine z_go (fun Q hq => x_lald (dA d_Sm_beginByName 23 rfl) (L18.sh (x := (103, 400)) rfl) g19.1 g19.2 (by decide) hq) ?_
  refine z_bnd (rest := [mR 86]) (st1 := fun v => mI v :: [mR 86]) (S_Na_find (d := 2) (Nat.le_refl _) L18 ) (fun _ hx => absurd hx List.not_mem_nil) (fun _ => rfl) (fun Q' Q => x_callV (as := [mR 87, mL (mGl h14 103 (2 : Int).toNat)]) (rest := [mR 86]) (k' := k_Na_find) (dA d_Sm_beginByName 24 rfl) o_Na_find lk_Sm_235 im_Na_find se_Na_find rfl (L18.sh (x := (8, 5)) rfl) (by decide) (Nat.le_of_ble_eq_true rfl) (Nat.le_trans (Nat.le_of_ble_eq_true rfl) hd) (Nat.le_of_ble_eq_true rfl)) (fun x22 h20 e21 p23 => ?_)
  have L24 := L18.ext e21
  refine z_br (fun Q => x_if_lt (dA d_Sm_beginByName 25 rfl) rfl p23) (fun c25 => ?_) (fun c25 => ?_)
  · refine z_go (fun Q hq => x_iconst (dA d_Sm_beginByName 28 rfl) hq) ?_
    refine z_fgt (ls' := [mN, mI v1]) ⟨.inl rfl, .inr rfl, trivial⟩ ?_
    exact S_Sm_beginByName_55 hd  L24 rv1 (inR_lit (0 : Int) rfl)
  · refine z_go (fun Q hq => x_iconst (dA d_Sm_beginByName 26 rfl) (x_goto (dA d_Sm_beginByName 27 rfl) rfl hq)) ?_
    refine z_fgt (ls' := [mN, mI v1]) ⟨.inl rfl, .inr rfl, trivial⟩ ?_
    exact S_Sm_beginByName_55 hd  L24 rv1 (inR_lit (1 : Int) rfl)
noncomputable def F_Sm_beginByName_21 (v1 : Int) (h : MH) : RS Unit := F_Sm_beginByName_22 v1 (0 : Int) h
theorem S_Sm_beginByName_21 {d : Nat} (hd : 3 ≤ d) {v1 : Int} {h : MH} (L : LayC h) (rv1 : inR v1) : OK d k_Sm_beginByName 21 [mR 86, mI v1] [mR 86] h cV pT (F_Sm_beginByName_21  v1 h) := by
  unfold F_Sm_beginByName_21
  refine z_go (fun Q hq => x_iconst (dA d_Sm_beginByName 11 rfl) hq) ?_
  exact S_Sm_beginByName_22 hd  L rv1 (inR_lit (0 : Int) rfl)
noncomputable def F_Sm_beginByName (a1 : Int) (h : MH) : RS Unit := bnd (F_Sm_isWordAt (2 : Int) h) fun x28 h26 => if x28 = 0 then F_Sm_beginByName_21 a1 h26 else if (mGi h26 86 6) = (3 : Int) then F_Sm_beginByName_22 a1 (1 : Int) h26 else F_Sm_beginByName_21 a1 h26
theorem S_Sm_beginByName {d : Nat} (hd : 3 ≤ d) {a1 : Int} {h : MH} (L : LayC h) (ra1 : p01 a1) : OK d k_Sm_beginByName 0 [mR 86, mI a1] [] h cV pT (F_Sm_beginByName  a1 h) := by
  unfold F_Sm_beginByName
  refine z_go (fun Q hq => x_aload_n (dA d_Sm_beginByName 0 rfl) rfl rfl (x_aload_n (dA d_Sm_beginByName 1 rfl) rfl rfl (x_iconst (dA d_Sm_beginByName 2 rfl) hq))) ?_
  refine z_bnd (rest := [mR 86]) (st1 := fun v => mI v :: [mR 86]) (S_Sm_isWordAt (d := 1) (Nat.le_refl _) L (inR_lit (2 : Int) rfl)) (fun _ hx => absurd hx List.not_mem_nil) (fun _ => rfl) (fun Q' Q => x_callV (as := [mI (2 : Int)]) (rest := [mR 86]) (k' := k_Sm_isWordAt) (dA d_Sm_beginByName 3 rfl) o_Sm_isWordAt lk_Sm_129 im_Sm_isWordAt se_Sm_isWordAt rfl (L.sh (x := (10, 12)) rfl) (by decide) (Nat.le_of_ble_eq_true rfl) (Nat.le_trans (Nat.le_of_ble_eq_true rfl) hd) (Nat.le_of_ble_eq_true rfl)) (fun x28 h26 e27 p29 => ?_)
  have L30 := L.ext e27
  refine z_br (fun Q => x_if_eq (dA d_Sm_beginByName 4 rfl) rfl p29.inR) (fun c31 => ?_) (fun c31 => ?_)
  · exact S_Sm_beginByName_21 hd  L30 ra1.inR
  · refine z_go (fun Q hq => x_aload_n (dA d_Sm_beginByName 5 rfl) rfl rfl (x_getI (dA d_Sm_beginByName 6 rfl) f_Sm_109 (L30.sh (x := (10, 12)) rfl) (by decide) (by decide) rfl (x_iconst (dA d_Sm_beginByName 7 rfl) hq))) ?_
    refine z_brn (fun Q => x_icmp_ne (dA d_Sm_beginByName 8 rfl) rfl (L30.rg _ _) (inR_lit (3 : Int) rfl)) (fun c32 => ?_) (fun c32 => ?_)
    · refine z_go (fun Q hq => x_iconst (dA d_Sm_beginByName 9 rfl) (x_goto (dA d_Sm_beginByName 10 rfl) rfl hq)) ?_
      exact S_Sm_beginByName_22 hd  L30 ra1.inR (inR_lit (1 : Int) rfl)
    · exact S_Sm_beginByName_21 hd  L30 ra1.inR
/-! TwoMills$SecondMill.countParameters()I -/
noncomputable def F_Sm_countParameters_129 (v1 : Int) (v2 : Int) (h : MH) : RS Int := gd (p01 v1) (bnd (F_Sm_require v1 h) fun x4 h2 => some (.inl v2, h2))
theorem S_Sm_countParameters_129 {d : Nat} (hd : 3 ≤ d) {v1 : Int} {v2 : Int} {h : MH} (L : LayC h) (rv1 : inR v1) (rv2 : inR v2) : OK d k_Sm_countParameters 129 [mR 86, mI v1, mI v2, mN, mN] [] h cI inR (F_Sm_countParameters_129  v1 v2 h) := by
  unfold F_Sm_countParameters_129
  refine z_go (fun Q hq => x_aload_n (dA d_Sm_countParameters 71 rfl) rfl rfl (x_iload_n (dA d_Sm_countParameters 72 rfl) rfl rfl hq)) ?_
  refine z_gd (fun g1 => ?_)
  refine z_bnd (rest := []) (st1 := fun _ => []) (S_Sm_require (d := 1) (Nat.le_refl _) L g1) (fun _ hx => absurd hx List.not_mem_nil) (fun _ => rfl) (fun Q' Q => x_callV (as := [mI v1]) (rest := []) (k' := k_Sm_require) (dA d_Sm_countParameters 73 rfl) o_Sm_require lk_Sm_145 im_Sm_require se_Sm_require rfl (L.sh (x := (10, 12)) rfl) (by decide) (Nat.le_of_ble_eq_true rfl) (Nat.le_trans (Nat.le_of_ble_eq_true rfl) hd) (Nat.le_of_ble_eq_true rfl)) (fun x4 h2 e3 p5 => ?_)
  have L6 := L.ext e3
  refine z_go (fun Q hq => x_iload_n (dA d_Sm_countParameters 74 rfl) rfl rfl hq) ?_
  exact z_reti (dA d_Sm_countParameters 75 rfl) rfl rv2
noncomputable def F_Sm_countParameters_101 (G66 : Int → Int → Int → MH → RS Int) (v2 : Int) (v3 : Int) (v4 : Int) (s1 : Int) (h : MH) : RS Int := gd (p01 s1) (bnd (F_Sm_require s1 h) fun x10 h8 => gd (inR (v4 + (2 : Int))) (G66 v2 v3 (v4 + (2 : Int)) h8))
theorem S_Sm_countParameters_101 {d : Nat} (hd : 3 ≤ d) {G66 : Int → Int → Int → MH → RS Int} (hG66 : ∀ (v2 : Int) (v3 : Int) (v4 : Int) (h : MH), LayC h → inR v2 → inR v3 → inR v4 → OK d k_Sm_countParameters 66 [mR 86, mN, mI v2, mI v3, mI v4] [] h cI inR (G66 v2 v3 v4 h)) {v2 : Int} {v3 : Int} {v4 : Int} {s1 : Int} {h : MH} (L : LayC h) (rv2 : inR v2) (rv3 : inR v3) (rv4 : inR v4) (rs1 : inR s1) : OK d k_Sm_countParameters 101 [mR 86, mN, mI v2, mI v3, mI v4] [mI s1, mR 86] h cI inR (F_Sm_countParameters_101 G66 v2 v3 v4 s1 h) := by
  unfold F_Sm_countParameters_101
  refine z_gd (fun g7 => ?_)
  refine z_bnd (rest := []) (st1 := fun _ => []) (S_Sm_require (d := 1) (Nat.le_refl _) L g7) (fun _ hx => absurd hx List.not_mem_nil) (fun _ => rfl) (fun Q' Q => x_callV (as := [mI s1]) (rest := []) (k' := k_Sm_require) (dA d_Sm_countParameters 58 rfl) o_Sm_require lk_Sm_145 im_Sm_require se_Sm_require rfl (L.sh (x := (10, 12)) rfl) (by decide) (Nat.le_of_ble_eq_true rfl) (Nat.le_trans (Nat.le_of_ble_eq_true rfl) hd) (Nat.le_of_ble_eq_true rfl)) (fun x10 h8 e9 p11 => ?_)
  have L12 := L.ext e9
  refine z_gd (fun g13 => ?_)
  refine z_go (fun Q hq => x_iinc (dA d_Sm_countParameters 59 rfl) rfl (by decide) rfl (x_goto (dA d_Sm_countParameters 60 rfl) rfl hq)) ?_
  exact hG66 v2 v3 (v4 + (2 : Int)) h8 L12 rv2 rv3 g13
noncomputable def F_Sm_countParameters_66_b (G12 : Int → Int → Int → MH → RS Int) (G66 : Int → Int → Int → MH → RS Int) (v2 : Int) (v3 : Int) (v4 : Int) (h : MH) : RS Int := if v3 ≤ v4 then gd (inR (v2 + (1 : Int))) (gd (inR (v3 + (1 : Int))) (bnd (F_Sm_isSignAt (v3 + (1 : Int)) (41 : Int) h) fun x19 h17 => gd (inR (v3 + (2 : Int))) (G12 x19 (v2 + (1 : Int)) (v3 + (2 : Int)) h17))) else gd (0 ≤ v4 ∧ v4 < 400) (gd (0 ≤ v3 ∧ v3 < 400) (bnd (F_To_same (mGl h 103 v4.toNat) (mGl h 103 v3.toNat) h) fun x27 h25 => if x27 = 0 then F_Sm_countParameters_101 G66 v2 v3 v4 (1 : Int) h25 else F_Sm_countParameters_101 G66 v2 v3 v4 (0 : Int) h25))
theorem S_Sm_countParameters_66_b {d : Nat} (hd : 3 ≤ d) {G12 : Int → Int → Int → MH → RS Int} (hG12 : ∀ (v1 : Int) (v2 : Int) (v3 : Int) (h : MH), LayC h → inR v1 → inR v2 → inR v3 → OK d k_Sm_countParameters 12 [mR 86, mI v1, mI v2, mI v3, mN] [] h cI inR (G12 v1 v2 v3 h)) {G66 : Int → Int → Int → MH → RS Int} (hG66 : ∀ (v2 : Int) (v3 : Int) (v4 : Int) (h : MH), LayC h → inR v2 → inR v3 → inR v4 → OK d k_Sm_countParameters 66 [mR 86, mN, mI v2, mI v3, mI v4] [] h cI inR (G66 v2 v3 v4 h)) {v2 : Int} {v3 : Int} {v4 : Int} {h : MH} (L : LayC h) (rv2 : inR v2) (rv3 : inR v3) (rv4 : inR v4) : OK d k_Sm_countParameters 66 [mR 86, mN, mI v2, mI v3, mI v4] [] h cI inR (F_Sm_countParameters_66_b G12 G66 v2 v3 v4 h) := by
  unfold F_Sm_countParameters_66_b
  refine z_go (fun Q hq => x_iload (dA d_Sm_countParameters 39 rfl) rfl (x_iload_n (dA d_Sm_countParameters 40 rfl) rfl rfl hq)) ?_
  refine z_br (fun Q => x_icmp_ge (dA d_Sm_countParameters 41 rfl) rfl rv4 rv3) (fun c14 => ?_) (fun c14 => ?_)
  · refine z_gd (fun g15 => ?_)
    refine z_go (fun Q hq => x_iinc (dA d_Sm_countParameters 61 rfl) rfl (by decide) rfl (x_aload_n (dA d_Sm_countParameters 62 rfl) rfl rfl (x_iload_n (dA d_Sm_countParameters 63 rfl) rfl rfl (x_iconst (dA d_Sm_countParameters 64 rfl) hq)))) ?_
    refine z_gd (fun g16 => ?_)
    refine z_go (fun Q hq => x_iadd (dA d_Sm_countParameters 65 rfl) (x_bipush (dA d_Sm_countParameters 66 rfl) (by decide) hq)) ?_
    refine z_bnd (rest := []) (st1 := fun v => mI v :: []) (S_Sm_isSignAt (d := 2) (Nat.le_refl _) L g16 (ch_lit (41 : Int) rfl)) (fun _ hx => absurd hx List.not_mem_nil) (fun _ => rfl) (fun Q' Q => x_callV (as := [mI (v3 + (1 : Int)), mI (41 : Int)]) (rest := []) (k' := k_Sm_isSignAt) (dA d_Sm_countParameters 67 rfl) o_Sm_isSignAt lk_Sm_125 im_Sm_isSignAt se_Sm_isSignAt rfl (L.sh (x := (10, 12)) rfl) (by decide) (Nat.le_of_ble_eq_true rfl) (Nat.le_trans (Nat.le_of_ble_eq_true rfl) hd) (Nat.le_of_ble_eq_true rfl)) (fun x19 h17 e18 p20 => ?_)
    have L21 := L.ext e18
    refine z_go (fun Q hq => x_istore_n (dA d_Sm_countParameters 68 rfl) rfl (by decide) rfl hq) ?_
    refine z_gd (fun g22 => ?_)
    refine z_go (fun Q hq => x_iinc (dA d_Sm_countParameters 69 rfl) rfl (by decide) rfl (x_goto (dA d_Sm_countParameters 70 rfl) rfl hq)) ?_
    refine z_fgt (ls' := [mR 86, mI x19, mI (v2 + (1 : Int)), mI (v3 + (2 : Int)), mN]) ⟨.inr rfl, .inr rfl, .inr rfl, .inr rfl, .inl rfl, trivial⟩ ?_
    exact hG12 x19 (v2 + (1 : Int)) (v3 + (2 : Int)) h17 L21 p20.inR g15 g22
  · refine z_go (fun Q hq => x_aload_n (dA d_Sm_countParameters 42 rfl) rfl rfl (x_aload_n (dA d_Sm_countParameters 43 rfl) rfl rfl (x_getR (dA d_Sm_countParameters 44 rfl) f_Sm_12 (L.sh (x := (10, 12)) rfl) (by decide) (by decide) rfl (L.rf 86 rfl) (x_aload_n (dA d_Sm_countParameters 45 rfl) rfl rfl (x_getR (dA d_Sm_countParameters 46 rfl) f_Sm_52 (L.sh (x := (10, 12)) rfl) (by decide) (by decide) rfl (L.rf 91 rfl) (x_iload (dA d_Sm_countParameters 47 rfl) rfl hq)))))) ?_
    refine z_gd (fun g23 => ?_)
    refine z_go (fun Q hq => x_lald (dA d_Sm_countParameters 48 rfl) (L.sh (x := (103, 400)) rfl) g23.1 g23.2 (by decide) (x_aload_n (dA d_Sm_countParameters 49 rfl) rfl rfl (x_getR (dA d_Sm_countParameters 50 rfl) f_Sm_52 (L.sh (x := (10, 12)) rfl) (by decide) (by decide) rfl (L.rf 91 rfl) (x_iload_n (dA d_Sm_countParameters 51 rfl) rfl rfl hq)))) ?_
    refine z_gd (fun g24 => ?_)
    refine z_go (fun Q hq => x_lald (dA d_Sm_countParameters 52 rfl) (L.sh (x := (103, 400)) rfl) g24.1 g24.2 (by decide) hq) ?_
    refine z_bnd (rest := [mR 86]) (st1 := fun v => mI v :: [mR 86]) (S_To_same (d := 1) (Nat.le_refl _) L ) (fun _ hx => absurd hx List.not_mem_nil) (fun _ => rfl) (fun Q' Q => x_callV (as := [mL (mGl h 103 v4.toNat), mL (mGl h 103 v3.toNat)]) (rest := [mR 86]) (k' := k_To_same) (dA d_Sm_countParameters 53 rfl) o_To_same lk_Sm_242 im_To_same se_To_same rfl (L.sh (x := (11, 3)) rfl) (by decide) (Nat.le_of_ble_eq_true rfl) (Nat.le_trans (Nat.le_of_ble_eq_true rfl) hd) (Nat.le_of_ble_eq_true rfl)) (fun x27 h25 e26 p28 => ?_)
    have L29 := L.ext e26
    refine z_brn (fun Q => x_if_ne (dA d_Sm_countParameters 54 rfl) rfl p28.inR) (fun c30 => ?_) (fun c30 => ?_)
    · refine z_go (fun Q hq => x_iconst (dA d_Sm_countParameters 55 rfl) (x_goto (dA d_Sm_countParameters 56 rfl) rfl hq)) ?_
      exact S_Sm_countParameters_101 hd hG66 L29 rv2 rv3 rv4 (inR_lit (1 : Int) rfl)
    · refine z_go (fun Q hq => x_iconst (dA d_Sm_countParameters 57 rfl) hq) ?_
      exact S_Sm_countParameters_101 hd hG66 L29 rv2 rv3 rv4 (inR_lit (0 : Int) rfl)
noncomputable def F_Sm_countParameters_66 (G12 : Int → Int → Int → MH → RS Int) (v2 : Int) (v3 : Int) (v4 : Int) (h : MH) : RS Int := itr (fun self (q : Int × Int × Int × MH) => F_Sm_countParameters_66_b G12 (fun v2 v3 v4 h => self (v2, v3, v4, h)) q.1 q.2.1 q.2.2.1 q.2.2.2) FU (v2, v3, v4, h)
theorem S_Sm_countParameters_66 {d : Nat} (hd : 3 ≤ d) {G12 : Int → Int → Int → MH → RS Int} (hG12 : ∀ (v1 : Int) (v2 : Int) (v3 : Int) (h : MH), LayC h → inR v1 → inR v2 → inR v3 → OK d k_Sm_countParameters 12 [mR 86, mI v1, mI v2, mI v3, mN] [] h cI inR (G12 v1 v2 v3 h)) {v2 : Int} {v3 : Int} {v4 : Int} {h : MH} (L : LayC h) (rv2 : inR v2) (rv3 : inR v3) (rv4 : inR v4) : OK d k_Sm_countParameters 66 [mR 86, mN, mI v2, mI v3, mI v4] [] h cI inR (F_Sm_countParameters_66 G12 v2 v3 v4 h) := by
  unfold F_Sm_countParameters_66
  refine z_itr (P := fun q : Int × Int × Int × MH => LayC q.2.2.2 ∧ inR q.1 ∧ inR q.2.1 ∧ inR q.2.2.1 ∧ True) (ls := fun q : Int × Int × Int × MH => [mR 86, mN, mI q.1, mI q.2.1, mI q.2.2.1]) (hp := fun q : Int × Int × Int × MH => q.2.2.2) (fun self hs q hq => ?_) FU (v2, v3, v4, h) ⟨L, rv2, rv3, rv4, trivial⟩
  exact S_Sm_countParameters_66_b hd hG12 (fun v2 v3 v4 h L rv2 rv3 rv4 => hs (v2, v3, v4, h) ⟨L, rv2, rv3, rv4, trivial⟩) hq.1 hq.2.1 hq.2.2.1 hq.2.2.2.1
noncomputable def F_Sm_countParameters_60 (G12 : Int → Int → Int → MH → RS Int) (v2 : Int) (v3 : Int) (s1 : Int) (h : MH) : RS Int := gd (p01 s1) (bnd (F_Sm_require s1 h) fun x34 h32 => F_Sm_countParameters_66 G12 v2 v3 (4 : Int) h32)
theorem S_Sm_countParameters_60 {d : Nat} (hd : 3 ≤ d) {G12 : Int → Int → Int → MH → RS Int} (hG12 : ∀ (v1 : Int) (v2 : Int) (v3 : Int) (h : MH), LayC h → inR v1 → inR v2 → inR v3 → OK d k_Sm_countParameters 12 [mR 86, mI v1, mI v2, mI v3, mN] [] h cI inR (G12 v1 v2 v3 h)) {v2 : Int} {v3 : Int} {s1 : Int} {h : MH} (L : LayC h) (rv2 : inR v2) (rv3 : inR v3) (rs1 : inR s1) : OK d k_Sm_countParameters 60 [mR 86, mN, mI v2, mI v3, mN] [mI s1, mR 86] h cI inR (F_Sm_countParameters_60 G12 v2 v3 s1 h) := by
  unfold F_Sm_countParameters_60
  refine z_gd (fun g31 => ?_)
  refine z_bnd (rest := []) (st1 := fun _ => []) (S_Sm_require (d := 1) (Nat.le_refl _) L g31) (fun _ hx => absurd hx List.not_mem_nil) (fun _ => rfl) (fun Q' Q => x_callV (as := [mI s1]) (rest := []) (k' := k_Sm_require) (dA d_Sm_countParameters 36 rfl) o_Sm_require lk_Sm_145 im_Sm_require se_Sm_require rfl (L.sh (x := (10, 12)) rfl) (by decide) (Nat.le_of_ble_eq_true rfl) (Nat.le_trans (Nat.le_of_ble_eq_true rfl) hd) (Nat.le_of_ble_eq_true rfl)) (fun x34 h32 e33 p35 => ?_)
  have L36 := L.ext e33
  refine z_go (fun Q hq => x_iconst (dA d_Sm_countParameters 37 rfl) (x_istore (dA d_Sm_countParameters 38 rfl) (by decide) rfl hq)) ?_
  exact S_Sm_countParameters_66 hd hG12 L36 rv2 rv3 (inR_lit (4 : Int) rfl)
noncomputable def F_Sm_countParameters_59 (G12 : Int → Int → Int → MH → RS Int) (v2 : Int) (v3 : Int) (h : MH) : RS Int := F_Sm_countParameters_60 G12 v2 v3 (0 : Int) h
theorem S_Sm_countParameters_59 {d : Nat} (hd : 3 ≤ d) {G12 : Int → Int → Int → MH → RS Int} (hG12 : ∀ (v1 : Int) (v2 : Int) (v3 : Int) (h : MH), LayC h → inR v1 → inR v2 → inR v3 → OK d k_Sm_countParameters 12 [mR 86, mI v1, mI v2, mI v3, mN] [] h cI inR (G12 v1 v2 v3 h)) {v2 : Int} {v3 : Int} {h : MH} (L : LayC h) (rv2 : inR v2) (rv3 : inR v3) : OK d k_Sm_countParameters 59 [mR 86, mN, mI v2, mI v3, mN] [mR 86] h cI inR (F_Sm_countParameters_59 G12 v2 v3 h) := by
  unfold F_Sm_countParameters_59
  refine z_go (fun Q hq => x_iconst (dA d_Sm_countParameters 35 rfl) hq) ?_
  exact S_Sm_countParameters_60 hd hG12 L rv2 rv3 (inR_lit (0 : Int) rfl)
noncomputable def F_Sm_countParameters_55 (G12 : Int → Int → Int → MH → RS Int) (v2 : Int) (v3 : Int) (h : MH) : RS Int := F_Sm_countParameters_60 G12 v2 v3 (1 : Int) h
theorem S_Sm_countParameters_55 {d : Nat} (hd : 3 ≤ d) {G12 : Int → Int → Int → MH → RS Int} (hG12 : ∀ (v1 : Int) (v2 : Int) (v3 : Int) (h : MH), LayC h → inR v1 → inR v2 → inR v3 → OK d k_Sm_countParameters 12 [mR 86, mI v1, mI v2, mI v3, mN] [] h cI inR (G12 v1 v2 v3 h)) {v2 : Int} {v3 : Int} {h : MH} (L : LayC h) (rv2 : inR v2) (rv3 : inR v3) : OK d k_Sm_countParameters 55 [mR 86, mN, mI v2, mI v3, mN] [mR 86] h cI inR (F_Sm_countParameters_55 G12 v2 v3 h) := by
  unfold F_Sm_countParameters_55
  refine z_go (fun Q hq => x_iconst (dA d_Sm_countParameters 33 rfl) (x_goto (dA d_Sm_countParameters 34 rfl) rfl hq)) ?_
  exact S_Sm_countParameters_60 hd hG12 L rv2 rv3 (inR_lit (1 : Int) rfl)
noncomputable def F_Sm_countParameters_12_b (G12 : Int → Int → Int → MH → RS Int) (v1 : Int) (v2 : Int) (v3 : Int) (h : MH) : RS Int := if v1 = 0 then if (8 : Int) < v3 then F_Sm_countParameters_129 v1 v2 h else bnd (F_Sm_isWordAt v3 h) fun x41 h39 => if x41 = 0 then F_Sm_countParameters_59 G12 v2 v3 h39 else gd (inR (v3 + (1 : Int))) (bnd (F_Sm_isSignAt (v3 + (1 : Int)) (44 : Int) h39) fun x48 h46 => if x48 = 0 then bnd (F_Sm_isSignAt (v3 + (1 : Int)) (41 : Int) h46) fun x54 h52 => if x54 = 0 then F_Sm_countParameters_59 G12 v2 v3 h52 else F_Sm_countParameters_55 G12 v2 v3 h52 else F_Sm_countParameters_55 G12 v2 v3 h46) else F_Sm_countParameters_129 v1 v2 h
theorem S_Sm_countParameters_12_b {d : Nat} (hd : 3 ≤ d) {G12 : Int → Int → Int → MH → RS Int} (hG12 : ∀ (v1 : Int) (v2 : Int) (v3 : Int) (h : MH), LayC h → inR v1 → inR v2 → inR v3 → OK d k_Sm_countParameters 12 [mR 86, mI v1, mI v2, mI v3, mN] [] h cI inR (G12 v1 v2 v3 h)) {v1 : Int} {v2 : Int} {v3 : Int} {h : MH} (L : LayC h) (rv1 : inR v1) (rv2 : inR v2) (rv3 : inR v3) : OK d k_Sm_countParameters 12 [mR 86, mI v1, mI v2, mI v3, mN] [] h cI inR (F_Sm_countParameters_12_b G12 v1 v2 v3 h) := by
  unfold F_Sm_countParameters_12_b
  refine z_go (fun Q hq => x_iload_n (dA d_Sm_countParameters 9 rfl) rfl rfl hq) ?_
  refine z_brn (fun Q => x_if_ne (dA d_Sm_countParameters 10 rfl) rfl rv1) (fun c37 => ?_) (fun c37 => ?_)
  · refine z_go (fun Q hq => x_iload_n (dA d_Sm_countParameters 11 rfl) rfl rfl (x_bipush (dA d_Sm_countParameters 12 rfl) (by decide) hq)) ?_
    refine z_br (fun Q => x_icmp_gt (dA d_Sm_countParameters 13 rfl) rfl rv3 (inR_lit (8 : Int) rfl)) (fun c38 => ?_) (fun c38 => ?_)
    · refine z_fgt (ls' := [mR 86, mI v1, mI v2, mN, mN]) ⟨.inr rfl, .inr rfl, .inr rfl, .inl rfl, .inl rfl, trivial⟩ ?_
      exact S_Sm_countParameters_129 hd  L rv1 rv2
    · refine z_go (fun Q hq => x_aload_n (dA d_Sm_countParameters 14 rfl) rfl rfl (x_aload_n (dA d_Sm_countParameters 15 rfl) rfl rfl (x_iload_n (dA d_Sm_countParameters 16 rfl) rfl rfl hq))) ?_
      refine z_bnd (rest := [mR 86]) (st1 := fun v => mI v :: [mR 86]) (S_Sm_isWordAt (d := 1) (Nat.le_refl _) L rv3) (fun _ hx => absurd hx List.not_mem_nil) (fun _ => rfl) (fun Q' Q => x_callV (as := [mI v3]) (rest := [mR 86]) (k' := k_Sm_isWordAt) (dA d_Sm_countParameters 17 rfl) o_Sm_isWordAt lk_Sm_129 im_Sm_isWordAt se_Sm_isWordAt rfl (L.sh (x := (10, 12)) rfl) (by decide) (Nat.le_of_ble_eq_true rfl) (Nat.le_trans (Nat.le_of_ble_eq_true rfl) hd) (Nat.le_of_ble_eq_true rfl)) (fun x41 h39 e40 p42 => ?_)
      have L43 := L.ext e40
      refine z_br (fun Q => x_if_eq (dA d_Sm_countParameters 18 rfl) rfl p42.inR) (fun c44 => ?_) (fun c44 => ?_)
      · refine z_fgt (ls' := [mR 86, mN, mI v2, mI v3, mN]) ⟨.inr rfl, .inl rfl, .inr rfl, .inr rfl, .inl rfl, trivial⟩ ?_
        exact S_Sm_countParameters_59 hd hG12 L43 rv2 rv3
      · refine z_go (fun Q hq => x_aload_n (dA d_Sm_countParameters 19 rfl) rfl rfl (x_iload_n (dA d_Sm_countParameters 20 rfl) rfl rfl (x_iconst (dA d_Sm_countParameters 21 rfl) hq))) ?_
        refine z_gd (fun g45 => ?_)
        refine z_go (fun Q hq => x_iadd (dA d_Sm_countParameters 22 rfl) (x_bipush (dA d_Sm_countParameters 23 rfl) (by decide) hq)) ?_
        refine z_bnd (rest := [mR 86]) (st1 := fun v => mI v :: [mR 86]) (S_Sm_isSignAt (d := 2) (Nat.le_refl _) L43 g45 (ch_lit (44 : Int) rfl)) (fun _ hx => absurd hx List.not_mem_nil) (fun _ => rfl) (fun Q' Q => x_callV (as := [mI (v3 + (1 : Int)), mI (44 : Int)]) (rest := [mR 86]) (k' := k_Sm_isSignAt) (dA d_Sm_countParameters 24 rfl) o_Sm_isSignAt lk_Sm_125 im_Sm_isSignAt se_Sm_isSignAt rfl (L43.sh (x := (10, 12)) rfl) (by decide) (Nat.le_of_ble_eq_true rfl) (Nat.le_trans (Nat.le_of_ble_eq_true rfl) hd) (Nat.le_of_ble_eq_true rfl)) (fun x48 h46 e47 p49 => ?_)
        have L50 := L43.ext e47
        refine z_brn (fun Q => x_if_ne (dA d_Sm_countParameters 25 rfl) rfl p49.inR) (fun c51 => ?_) (fun c51 => ?_)
        · refine z_go (fun Q hq => x_aload_n (dA d_Sm_countParameters 26 rfl) rfl rfl (x_iload_n (dA d_Sm_countParameters 27 rfl) rfl rfl (x_iconst (dA d_Sm_countParameters 28 rfl) (x_iadd (dA d_Sm_countParameters 29 rfl) (x_bipush (dA d_Sm_countParameters 30 rfl) (by decide) hq))))) ?_
          refine z_bnd (rest := [mR 86]) (st1 := fun v => mI v :: [mR 86]) (S_Sm_isSignAt (d := 2) (Nat.le_refl _) L50 g45 (ch_lit (41 : Int) rfl)) (fun _ hx => absurd hx List.not_mem_nil) (fun _ => rfl) (fun Q' Q => x_callV (as := [mI (v3 + (1 : Int)), mI (41 : Int)]) (rest := [mR 86]) (k' := k_Sm_isSignAt) (dA d_Sm_countParameters 31 rfl) o_Sm_isSignAt lk_Sm_125 im_Sm_isSignAt se_Sm_isSignAt rfl (L50.sh (x := (10, 12)) rfl) (by decide) (Nat.le_of_ble_eq_true rfl) (Nat.le_trans (Nat.le_of_ble_eq_true rfl) hd) (Nat.le_of_ble_eq_true rfl)) (fun x54 h52 e53 p55 => ?_)
          have L56 := L50.ext e53
          refine z_br (fun Q => x_if_eq (dA d_Sm_countParameters 32 rfl) rfl p55.inR) (fun c57 => ?_) (fun c57 => ?_)
          · refine z_fgt (ls' := [mR 86, mN, mI v2, mI v3, mN]) ⟨.inr rfl, .inl rfl, .inr rfl, .inr rfl, .inl rfl, trivial⟩ ?_
            exact S_Sm_countParameters_59 hd hG12 L56 rv2 rv3
          · refine z_fgt (ls' := [mR 86, mN, mI v2, mI v3, mN]) ⟨.inr rfl, .inl rfl, .inr rfl, .inr rfl, .inl rfl, trivial⟩ ?_
            exact S_Sm_countParameters_55 hd hG12 L56 rv2 rv3
        · refine z_fgt (ls' := [mR 86, mN, mI v2, mI v3, mN]) ⟨.inr rfl, .inl rfl, .inr rfl, .inr rfl, .inl rfl, trivial⟩ ?_
          exact S_Sm_countParameters_55 hd hG12 L50 rv2 rv3
  · refine z_fgt (ls' := [mR 86, mI v1, mI v2, mN, mN]) ⟨.inr rfl, .inr rfl, .inr rfl, .inl rfl, .inl rfl, trivial⟩ ?_
    exact S_Sm_countParameters_129 hd  L rv1 rv2
noncomputable def F_Sm_countParameters_12 (v1 : Int) (v2 : Int) (v3 : Int) (h : MH) : RS Int := itr (fun self (q : Int × Int × Int × MH) => F_Sm_countParameters_12_b (fun v1 v2 v3 h => self (v1, v2, v3, h)) q.1 q.2.1 q.2.2.1 q.2.2.2) FU (v1, v2, v3, h)
theorem S_Sm_countParameters_12 {d : Nat} (hd : 3 ≤ d) {v1 : Int} {v2 : Int} {v3 : Int} {h : MH} (L : LayC h) (rv1 : inR v1) (rv2 : inR v2) (rv3 : inR v3) : OK d k_Sm_countParameters 12 [mR 86, mI v1, mI v2, mI v3, mN] [] h cI inR (F_Sm_countParameters_12  v1 v2 v3 h) := by
  unfold F_Sm_countParameters_12
  refine z_itr (P := fun q : Int × Int × Int × MH => LayC q.2.2.2 ∧ inR q.1 ∧ inR q.2.1 ∧ inR q.2.2.1 ∧ True) (ls := fun q : Int × Int × Int × MH => [mR 86, mI q.1, mI q.2.1, mI q.2.2.1, mN]) (hp := fun q : Int × Int × Int × MH => q.2.2.2) (fun self hs q hq => ?_) FU (v1, v2, v3, h) ⟨L, rv1, rv2, rv3, trivial⟩
  exact S_Sm_countParameters_12_b hd (fun v1 v2 v3 h L rv1 rv2 rv3 => hs (v1, v2, v3, h) ⟨L, rv1, rv2, rv3, trivial⟩) hq.1 hq.2.1 hq.2.2.1 hq.2.2.2.1
noncomputable def F_Sm_countParameters (h : MH) : RS Int := bnd (F_Sm_isSignAt (4 : Int) (41 : Int) h) fun x60 h58 => F_Sm_countParameters_12 x60 (0 : Int) (4 : Int) h58
theorem S_Sm_countParameters {d : Nat} (hd : 3 ≤ d) {h : MH} (L : LayC h) : OK d k_Sm_countParameters 0 [mR 86, mN, mN, mN, mN] [] h cI inR (F_Sm_countParameters   h) := by
  unfold F_Sm_countParameters
  refine z_go (fun Q hq => x_aload_n (dA d_Sm_countParameters 0 rfl) rfl rfl (x_iconst (dA d_Sm_countParameters 1 rfl) (x_bipush (dA d_Sm_countParameters 2 rfl) (by decide) hq))) ?_
  refine z_bnd (rest := []) (st1 := fun v => mI v :: []) (S_Sm_isSignAt (d := 2) (Nat.le_refl _) L (inR_lit (4 : Int) rfl) (ch_lit (41 : Int) rfl)) (fun _ hx => absurd hx List.not_mem_nil) (fun _ => rfl) (fun Q' Q => x_callV (as := [mI (4 : Int), mI (41 : Int)]) (rest := []) (k' := k_Sm_isSignAt) (dA d_Sm_countParameters 3 rfl) o_Sm_isSignAt lk_Sm_125 im_Sm_isSignAt se_Sm_isSignAt rfl (L.sh (x := (10, 12)) rfl) (by decide) (Nat.le_of_ble_eq_true rfl) (Nat.le_trans (Nat.le_of_ble_eq_true rfl) hd) (Nat.le_of_ble_eq_true rfl)) (fun x60 h58 e59 p61 => ?_)
  have L62 := L.ext e59
  refine z_go (fun Q hq => x_istore_n (dA d_Sm_countParameters 4 rfl) rfl (by decide) rfl (x_iconst (dA d_Sm_countParameters 5 rfl) (x_istore_n (dA d_Sm_countParameters 6 rfl) rfl (by decide) rfl (x_iconst (dA d_Sm_countParameters 7 rfl) (x_istore_n (dA d_Sm_countParameters 8 rfl) rfl (by decide) rfl hq))))) ?_
  exact S_Sm_countParameters_12 hd  L62 p61.inR (inR_lit (0 : Int) rfl) (inR_lit (4 : Int) rfl)
/-! TwoMills$Names.freePlace()I -/
noncomputable def F_Na_freePlace_2_b (G2 : Int → MH → RS Int) (v1 : Int) (h : MH) : RS Int := if (8 : Int) ≤ v1 then some (.inl (-1 : Int), h) else gd (0 ≤ v1 ∧ v1 < 8) (if (lgI (mGl h 90 v1.toNat) (0 : Int64)) = 0 then some (.inl v1, h) else gd (inR (v1 + (1 : Int))) (G2 (v1 + (1 : Int)) h))
theorem S_Na_freePlace_2_b {d : Nat} (hd : 0 ≤ d) {G2 : Int → MH → RS Int} (hG2 : ∀ (v1 : Int) (h : MH), LayC h → inR v1 → OK d k_Na_freePlace 2 [mR 89, mI v1] [] h cI inR (G2 v1 h)) {v1 : Int} {h : MH} (L : LayC h) (rv1 : inR v1) : OK d k_Na_freePlace 2 [mR 89, mI v1] [] h cI inR (F_Na_freePlace_2_b G2 v1 h) := by
  unfold F_Na_freePlace_2_b
  refine z_go (fun Q hq => x_iload_n (dA d_Na_freePlace 2 rfl) rfl rfl (x_bipush (dA d_Na_freePlace 3 rfl) (by decide) hq)) ?_
  refine z_br (fun Q => x_icmp_ge (dA d_Na_freePlace 4 rfl) rfl rv1 (inR_lit (8 : Int) rfl)) (fun c1 => ?_) (fun c1 => ?_)
  · refine z_go (fun Q hq => x_iconst (dA d_Na_freePlace 16 rfl) hq) ?_
    exact z_reti (dA d_Na_freePlace 17 rfl) rfl (inR_lit (-1 : Int) rfl)
  · refine z_go (fun Q hq => x_aload_n (dA d_Na_freePlace 5 rfl) rfl rfl (x_getR (dA d_Na_freePlace 6 rfl) f_Na_9 (L.sh (x := (8, 5)) rfl) (by decide) (by decide) rfl (L.rf 96 rfl) (x_iload_n (dA d_Na_freePlace 7 rfl) rfl rfl hq))) ?_
    refine z_gd (fun g2 => ?_)
    refine z_go (fun Q hq => x_lald (dA d_Na_freePlace 8 rfl) (L.sh (x := (103, 8)) rfl) g2.1 g2.2 (by decide) (x_lconst (v := 0) (dA d_Na_freePlace 9 rfl) rfl (x_lcmp (dA d_Na_freePlace 10 rfl) hq))) ?_
    refine z_brn (fun Q => x_if_ne (dA d_Na_freePlace 11 rfl) rfl (inR_lgI _ _)) (fun c3 => ?_) (fun c3 => ?_)
    · refine z_go (fun Q hq => x_iload_n (dA d_Na_freePlace 12 rfl) rfl rfl hq) ?_
      exact z_reti (dA d_Na_freePlace 13 rfl) rfl rv1
    · refine z_gd (fun g4 => ?_)
      refine z_go (fun Q hq => x_iinc (dA d_Na_freePlace 14 rfl) rfl (by decide) rfl (x_goto (dA d_Na_freePlace 15 rfl) rfl hq)) ?_
      exact hG2 (v1 + (1 : Int)) h L g4
noncomputable def F_Na_freePlace_2 (v1 : Int) (h : MH) : RS Int := itr (fun self (q : Int × MH) => F_Na_freePlace_2_b (fun v1 h => self (v1, h)) q.1 q.2) FU (v1, h)
theorem S_Na_freePlace_2 {d : Nat} (hd : 0 ≤ d) {v1 : Int} {h : MH} (L : LayC h) (rv1 : inR v1) : OK d k_Na_freePlace 2 [mR 89, mI v1] [] h cI inR (F_Na_freePlace_2  v1 h) := by
  unfold F_Na_freePlace_2
  refine z_itr (P := fun q : Int × MH => LayC q.2 ∧ inR q.1 ∧ True) (ls := fun q : Int × MH => [mR 89, mI q.1]) (hp := fun q : Int × MH => q.2) (fun self hs q hq => ?_) FU (v1, h) ⟨L, rv1, trivial⟩
  exact S_Na_freePlace_2_b hd (fun v1 h L rv1 => hs (v1, h) ⟨L, rv1, trivial⟩) hq.1 hq.2.1
noncomputable def F_Na_freePlace (h : MH) : RS Int := F_Na_freePlace_2 (0 : Int) h
theorem S_Na_freePlace {d : Nat} (hd : 0 ≤ d) {h : MH} (L : LayC h) : OK d k_Na_freePlace 0 [mR 89, mN] [] h cI inR (F_Na_freePlace   h) := by
  unfold F_Na_freePlace
  refine z_go (fun Q hq => x_iconst (dA d_Na_freePlace 0 rfl) (x_istore_n (dA d_Na_freePlace 1 rfl) rfl (by decide) rfl hq)) ?_
  exact S_Na_freePlace_2 hd  L (inR_lit (0 : Int) rfl)
end Fns
