section Fns
/-! TwoMillsModel.latest(J)I -/
noncomputable def F_M_latest_48 (G5 : Int64 → Int → Int → MH → RS Int) (v1 : Int64) (v4 : Int) (s0 : Int) (h : MH) : RS Int := gd (inR (v4 + (1 : Int))) (G5 v1 s0 (v4 + (1 : Int)) h)
theorem S_M_latest_48 {d : Nat} (hd : 0 ≤ d) {G5 : Int64 → Int → Int → MH → RS Int} (hG5 : ∀ (v1 : Int64) (v3 : Int) (v4 : Int) (h : MH), LayC h → inR v3 → inR v4 → OK d k_M_latest 5 [mR 107, mL v1, mN, mI v3, mI v4] [] h cI inR (G5 v1 v3 v4 h)) {v1 : Int64} {v4 : Int} {s0 : Int} {h : MH} (L : LayC h) (rv4 : inR v4) (rs0 : inR s0) : OK d k_M_latest 48 [mR 107, mL v1, mN, mN, mI v4] [mI s0] h cI inR (F_M_latest_48 G5 v1 v4 s0 h) := by
  unfold F_M_latest_48
  refine z_go (fun Q hq => x_istore_n (dA d_M_latest 28 rfl) rfl (by decide) rfl hq) ?_
  refine z_gd (fun g1 => ?_)
  refine z_go (fun Q hq => x_iinc (dA d_M_latest 29 rfl) rfl (by decide) rfl (x_goto (dA d_M_latest 30 rfl) rfl hq)) ?_
  exact hG5 v1 s0 (v4 + (1 : Int)) h L rs0 g1
noncomputable def F_M_latest_47 (G5 : Int64 → Int → Int → MH → RS Int) (v1 : Int64) (v3 : Int) (v4 : Int) (h : MH) : RS Int := F_M_latest_48 G5 v1 v4 v3 h
theorem S_M_latest_47 {d : Nat} (hd : 0 ≤ d) {G5 : Int64 → Int → Int → MH → RS Int} (hG5 : ∀ (v1 : Int64) (v3 : Int) (v4 : Int) (h : MH), LayC h → inR v3 → inR v4 → OK d k_M_latest 5 [mR 107, mL v1, mN, mI v3, mI v4] [] h cI inR (G5 v1 v3 v4 h)) {v1 : Int64} {v3 : Int} {v4 : Int} {h : MH} (L : LayC h) (rv3 : inR v3) (rv4 : inR v4) : OK d k_M_latest 47 [mR 107, mL v1, mN, mI v3, mI v4] [] h cI inR (F_M_latest_47 G5 v1 v3 v4 h) := by
  unfold F_M_latest_47
  refine z_go (fun Q hq => x_iload_n (dA d_M_latest 27 rfl) rfl rfl hq) ?_
  refine z_fgt (ls' := [mR 107, mL v1, mN, mN, mI v4]) ⟨.inr rfl, .inr rfl, .inl rfl, .inl rfl, .inr rfl, trivial⟩ ?_
  exact S_M_latest_48 hd hG5 L rv4 rv3
noncomputable def F_M_latest_5_b (G5 : Int64 → Int → Int → MH → RS Int) (v1 : Int64) (v3 : Int) (v4 : Int) (h : MH) : RS Int := if (mGi h 107 6) ≤ v4 then some (.inl v3, h) else if (lgI v1 (0 : Int64)) = 0 then F_M_latest_47 G5 v1 v3 v4 h else gd (0 ≤ v4 ∧ v4 < 10) (gd (0 ≤ (mGi h 116 v4.toNat) ∧ (mGi h 116 v4.toNat) < 16) (if (lgI (mGl h 114 (mGi h 116 v4.toNat).toNat) v1) = 0 then F_M_latest_48 G5 v1 v4 (mGi h 116 v4.toNat) h else F_M_latest_47 G5 v1 v3 v4 h))
theorem S_M_latest_5_b {d : Nat} (hd : 0 ≤ d) {G5 : Int64 → Int → Int → MH → RS Int} (hG5 : ∀ (v1 : Int64) (v3 : Int) (v4 : Int) (h : MH), LayC h → inR v3 → inR v4 → OK d k_M_latest 5 [mR 107, mL v1, mN, mI v3, mI v4] [] h cI inR (G5 v1 v3 v4 h)) {v1 : Int64} {v3 : Int} {v4 : Int} {h : MH} (L : LayC h) (rv3 : inR v3) (rv4 : inR v4) : OK d k_M_latest 5 [mR 107, mL v1, mN, mI v3, mI v4] [] h cI inR (F_M_latest_5_b G5 v1 v3 v4 h) := by
  unfold F_M_latest_5_b
  refine z_go (fun Q hq => x_iload (dA d_M_latest 4 rfl) rfl (x_aload_n (dA d_M_latest 5 rfl) rfl rfl (x_getI (dA d_M_latest 6 rfl) f_M_205 (L.sh (x := (12, 66)) rfl) (by decide) (by decide) rfl hq))) ?_
  refine z_br (fun Q => x_icmp_ge (dA d_M_latest 7 rfl) rfl rv4 (L.rg _ _)) (fun c2 => ?_) (fun c2 => ?_)
  · refine z_go (fun Q hq => x_iload_n (dA d_M_latest 31 rfl) rfl rfl hq) ?_
    exact z_reti (dA d_M_latest 32 rfl) rfl rv3
  · refine z_go (fun Q hq => x_lload_n (dA d_M_latest 8 rfl) rfl rfl (x_lconst (v := 0) (dA d_M_latest 9 rfl) rfl (x_lcmp (dA d_M_latest 10 rfl) hq))) ?_
    refine z_br (fun Q => x_if_eq (dA d_M_latest 11 rfl) rfl (inR_lgI _ _)) (fun c3 => ?_) (fun c3 => ?_)
    · exact S_M_latest_47 hd hG5 L rv3 rv4
    · refine z_go (fun Q hq => x_aload_n (dA d_M_latest 12 rfl) rfl rfl (x_getR (dA d_M_latest 13 rfl) f_M_28 (L.sh (x := (12, 66)) rfl) (by decide) (by decide) rfl (L.rf 115 rfl) (x_aload_n (dA d_M_latest 14 rfl) rfl rfl (x_getR (dA d_M_latest 15 rfl) f_M_36 (L.sh (x := (12, 66)) rfl) (by decide) (by decide) rfl (L.rf 117 rfl) (x_iload (dA d_M_latest 16 rfl) rfl hq))))) ?_
      refine z_gd (fun g4 => ?_)
      refine z_go (fun Q hq => x_iald (dA d_M_latest 17 rfl) (L.sh (x := (100, 10)) rfl) g4.1 g4.2 (by decide) hq) ?_
      refine z_gd (fun g5 => ?_)
      refine z_go (fun Q hq => x_lald (dA d_M_latest 18 rfl) (L.sh (x := (103, 16)) rfl) g5.1 g5.2 (by decide) (x_lload_n (dA d_M_latest 19 rfl) rfl rfl (x_lcmp (dA d_M_latest 20 rfl) hq))) ?_
      refine z_brn (fun Q => x_if_ne (dA d_M_latest 21 rfl) rfl (inR_lgI _ _)) (fun c6 => ?_) (fun c6 => ?_)
      · refine z_go (fun Q hq => x_aload_n (dA d_M_latest 22 rfl) rfl rfl (x_getR (dA d_M_latest 23 rfl) f_M_36 (L.sh (x := (12, 66)) rfl) (by decide) (by decide) rfl (L.rf 117 rfl) (x_iload (dA d_M_latest 24 rfl) rfl (x_iald (dA d_M_latest 25 rfl) (L.sh (x := (100, 10)) rfl) g4.1 g4.2 (by decide) (x_goto (dA d_M_latest 26 rfl) rfl hq))))) ?_
        refine z_fgt (ls' := [mR 107, mL v1, mN, mN, mI v4]) ⟨.inr rfl, .inr rfl, .inl rfl, .inl rfl, .inr rfl, trivial⟩ ?_
        exact S_M_latest_48 hd hG5 L rv4 (L.rg _ _)
      · exact S_M_latest_47 hd hG5 L rv3 rv4
noncomputable def F_M_latest_5 (v1 : Int64) (v3 : Int) (v4 : Int) (h : MH) : RS Int := itr (fun self (q : Int64 × Int × Int × MH) => F_M_latest_5_b (fun v1 v3 v4 h => self (v1, v3, v4, h)) q.1 q.2.1 q.2.2.1 q.2.2.2) FU (v1, v3, v4, h)
theorem S_M_latest_5 {d : Nat} (hd : 0 ≤ d) {v1 : Int64} {v3 : Int} {v4 : Int} {h : MH} (L : LayC h) (rv3 : inR v3) (rv4 : inR v4) : OK d k_M_latest 5 [mR 107, mL v1, mN, mI v3, mI v4] [] h cI inR (F_M_latest_5  v1 v3 v4 h) := by
  unfold F_M_latest_5
  refine z_itr (P := fun q : Int64 × Int × Int × MH => LayC q.2.2.2 ∧ inR q.2.1 ∧ inR q.2.2.1 ∧ True) (ls := fun q : Int64 × Int × Int × MH => [mR 107, mL q.1, mN, mI q.2.1, mI q.2.2.1]) (hp := fun q : Int64 × Int × Int × MH => q.2.2.2) (fun self hs q hq => ?_) FU (v1, v3, v4, h) ⟨L, rv3, rv4, trivial⟩
  exact S_M_latest_5_b hd (fun v1 v3 v4 h L rv3 rv4 => hs (v1, v3, v4, h) ⟨L, rv3, rv4, trivial⟩) hq.1 hq.2.1 hq.2.2.1
noncomputable def F_M_latest (a1 : Int64) (h : MH) : RS Int := F_M_latest_5 a1 (-1 : Int) (0 : Int) h
theorem S_M_latest {d : Nat} (hd : 0 ≤ d) {a1 : Int64} {h : MH} (L : LayC h) : OK d k_M_latest 0 [mR 107, mL a1, mN, mN, mN] [] h cI inR (F_M_latest  a1 h) := by
  unfold F_M_latest
  refine z_go (fun Q hq => x_iconst (dA d_M_latest 0 rfl) (x_istore_n (dA d_M_latest 1 rfl) rfl (by decide) rfl (x_iconst (dA d_M_latest 2 rfl) (x_istore (dA d_M_latest 3 rfl) (by decide) rfl hq)))) ?_
  exact S_M_latest_5 hd  L (inR_lit (-1 : Int) rfl) (inR_lit (0 : Int) rfl)
/-! TwoMillsModel.isUsed(I)Z -/
noncomputable def F_M_isUsed_67 (G40 : Int → Int → Int → MH → RS Int) (v1 : Int) (v3 : Int) (s0 : Int) (h : MH) : RS Int := gd (inR (v3 + (1 : Int))) (G40 v1 s0 (v3 + (1 : Int)) h)
theorem S_M_isUsed_67 {d : Nat} (hd : 0 ≤ d) {G40 : Int → Int → Int → MH → RS Int} (hG40 : ∀ (v1 : Int) (v2 : Int) (v3 : Int) (h : MH), LayC h → inR v1 → inR v2 → inR v3 → OK d k_M_isUsed 40 [mR 107, mI v1, mI v2, mI v3] [] h cI p01 (G40 v1 v2 v3 h)) {v1 : Int} {v3 : Int} {s0 : Int} {h : MH} (L : LayC h) (rv1 : inR v1) (rv3 : inR v3) (rs0 : inR s0) : OK d k_M_isUsed 67 [mR 107, mI v1, mN, mI v3] [mI s0] h cI p01 (F_M_isUsed_67 G40 v1 v3 s0 h) := by
  unfold F_M_isUsed_67
  refine z_go (fun Q hq => x_istore_n (dA d_M_isUsed 39 rfl) rfl (by decide) rfl hq) ?_
  refine z_gd (fun g1 => ?_)
  refine z_go (fun Q hq => x_iinc (dA d_M_isUsed 40 rfl) rfl (by decide) rfl (x_goto (dA d_M_isUsed 41 rfl) rfl hq)) ?_
  exact hG40 v1 s0 (v3 + (1 : Int)) h L rv1 rs0 g1
noncomputable def F_M_isUsed_62 (G40 : Int → Int → Int → MH → RS Int) (v1 : Int) (v3 : Int) (h : MH) : RS Int := F_M_isUsed_67 G40 v1 v3 (1 : Int) h
theorem S_M_isUsed_62 {d : Nat} (hd : 0 ≤ d) {G40 : Int → Int → Int → MH → RS Int} (hG40 : ∀ (v1 : Int) (v2 : Int) (v3 : Int) (h : MH), LayC h → inR v1 → inR v2 → inR v3 → OK d k_M_isUsed 40 [mR 107, mI v1, mI v2, mI v3] [] h cI p01 (G40 v1 v2 v3 h)) {v1 : Int} {v3 : Int} {h : MH} (L : LayC h) (rv1 : inR v1) (rv3 : inR v3) : OK d k_M_isUsed 62 [mR 107, mI v1, mN, mI v3] [] h cI p01 (F_M_isUsed_62 G40 v1 v3 h) := by
  unfold F_M_isUsed_62
  refine z_go (fun Q hq => x_iconst (dA d_M_isUsed 36 rfl) (x_goto (dA d_M_isUsed 37 rfl) rfl hq)) ?_
  exact S_M_isUsed_67 hd hG40 L rv1 rv3 (inR_lit (1 : Int) rfl)
noncomputable def F_M_isUsed_40_b (G40 : Int → Int → Int → MH → RS Int) (v1 : Int) (v2 : Int) (v3 : Int) (h : MH) : RS Int := if (mGi h 107 7) ≤ v3 then gd (p01 v2) (some (.inl v2, h)) else if v2 = 0 then gd (0 ≤ v3 ∧ v3 < 6) (if (mGi h 117 v3.toNat) = v1 then F_M_isUsed_62 G40 v1 v3 h else F_M_isUsed_67 G40 v1 v3 (0 : Int) h) else F_M_isUsed_62 G40 v1 v3 h
theorem S_M_isUsed_40_b {d : Nat} (hd : 0 ≤ d) {G40 : Int → Int → Int → MH → RS Int} (hG40 : ∀ (v1 : Int) (v2 : Int) (v3 : Int) (h : MH), LayC h → inR v1 → inR v2 → inR v3 → OK d k_M_isUsed 40 [mR 107, mI v1, mI v2, mI v3] [] h cI p01 (G40 v1 v2 v3 h)) {v1 : Int} {v2 : Int} {v3 : Int} {h : MH} (L : LayC h) (rv1 : inR v1) (rv2 : inR v2) (rv3 : inR v3) : OK d k_M_isUsed 40 [mR 107, mI v1, mI v2, mI v3] [] h cI p01 (F_M_isUsed_40_b G40 v1 v2 v3 h) := by
  unfold F_M_isUsed_40_b
  refine z_go (fun Q hq => x_iload_n (dA d_M_isUsed 24 rfl) rfl rfl (x_aload_n (dA d_M_isUsed 25 rfl) rfl rfl (x_getI (dA d_M_isUsed 26 rfl) f_M_172 (L.sh (x := (12, 66)) rfl) (by decide) (by decide) rfl hq))) ?_
  refine z_br (fun Q => x_icmp_ge (dA d_M_isUsed 27 rfl) rfl rv3 (L.rg _ _)) (fun c2 => ?_) (fun c2 => ?_)
  · refine z_go (fun Q hq => x_iload_n (dA d_M_isUsed 42 rfl) rfl rfl hq) ?_
    refine z_gd (fun g3 => ?_)
    exact z_retz (dA d_M_isUsed 43 rfl) rfl g3
  · refine z_go (fun Q hq => x_iload_n (dA d_M_isUsed 28 rfl) rfl rfl hq) ?_
    refine z_brn (fun Q => x_if_ne (dA d_M_isUsed 29 rfl) rfl rv2) (fun c4 => ?_) (fun c4 => ?_)
    · refine z_go (fun Q hq => x_aload_n (dA d_M_isUsed 30 rfl) rfl rfl (x_getR (dA d_M_isUsed 31 rfl) f_M_39 (L.sh (x := (12, 66)) rfl) (by decide) (by decide) rfl (L.rf 118 rfl) (x_iload_n (dA d_M_isUsed 32 rfl) rfl rfl hq))) ?_
      refine z_gd (fun g5 => ?_)
      refine z_go (fun Q hq => x_iald (dA d_M_isUsed 33 rfl) (L.sh (x := (100, 6)) rfl) g5.1 g5.2 (by decide) (x_iload_n (dA d_M_isUsed 34 rfl) rfl rfl hq)) ?_
      refine z_brn (fun Q => x_icmp_ne (dA d_M_isUsed 35 rfl) rfl (L.rg _ _) rv1) (fun c6 => ?_) (fun c6 => ?_)
      · refine z_fgt (ls' := [mR 107, mI v1, mN, mI v3]) ⟨.inr rfl, .inr rfl, .inl rfl, .inr rfl, trivial⟩ ?_
        exact S_M_isUsed_62 hd hG40 L rv1 rv3
      · refine z_go (fun Q hq => x_iconst (dA d_M_isUsed 38 rfl) hq) ?_
        refine z_fgt (ls' := [mR 107, mI v1, mN, mI v3]) ⟨.inr rfl, .inr rfl, .inl rfl, .inr rfl, trivial⟩ ?_
        exact S_M_isUsed_67 hd hG40 L rv1 rv3 (inR_lit (0 : Int) rfl)
    · refine z_fgt (ls' := [mR 107, mI v1, mN, mI v3]) ⟨.inr rfl, .inr rfl, .inl rfl, .inr rfl, trivial⟩ ?_
      exact S_M_isUsed_62 hd hG40 L rv1 rv3
noncomputable def F_M_isUsed_40 (v1 : Int) (v2 : Int) (v3 : Int) (h : MH) : RS Int := itr (fun self (q : Int × Int × Int × MH) => F_M_isUsed_40_b (fun v1 v2 v3 h => self (v1, v2, v3, h)) q.1 q.2.1 q.2.2.1 q.2.2.2) FU (v1, v2, v3, h)
theorem S_M_isUsed_40 {d : Nat} (hd : 0 ≤ d) {v1 : Int} {v2 : Int} {v3 : Int} {h : MH} (L : LayC h) (rv1 : inR v1) (rv2 : inR v2) (rv3 : inR v3) : OK d k_M_isUsed 40 [mR 107, mI v1, mI v2, mI v3] [] h cI p01 (F_M_isUsed_40  v1 v2 v3 h) := by
  unfold F_M_isUsed_40
  refine z_itr (P := fun q : Int × Int × Int × MH => LayC q.2.2.2 ∧ inR q.1 ∧ inR q.2.1 ∧ inR q.2.2.1 ∧ True) (ls := fun q : Int × Int × Int × MH => [mR 107, mI q.1, mI q.2.1, mI q.2.2.1]) (hp := fun q : Int × Int × Int × MH => q.2.2.2) (fun self hs q hq => ?_) FU (v1, v2, v3, h) ⟨L, rv1, rv2, rv3, trivial⟩
  exact S_M_isUsed_40_b hd (fun v1 v2 v3 h L rv1 rv2 rv3 => hs (v1, v2, v3, h) ⟨L, rv1, rv2, rv3, trivial⟩) hq.1 hq.2.1 hq.2.2.1 hq.2.2.2.1
noncomputable def F_M_isUsed_31 (G4 : Int → Int → Int → MH → RS Int) (v1 : Int) (v3 : Int) (s0 : Int) (h : MH) : RS Int := gd (inR (v3 + (1 : Int))) (G4 v1 s0 (v3 + (1 : Int)) h)
theorem S_M_isUsed_31 {d : Nat} (hd : 0 ≤ d) {G4 : Int → Int → Int → MH → RS Int} (hG4 : ∀ (v1 : Int) (v2 : Int) (v3 : Int) (h : MH), LayC h → inR v1 → inR v2 → inR v3 → OK d k_M_isUsed 4 [mR 107, mI v1, mI v2, mI v3] [] h cI p01 (G4 v1 v2 v3 h)) {v1 : Int} {v3 : Int} {s0 : Int} {h : MH} (L : LayC h) (rv1 : inR v1) (rv3 : inR v3) (rs0 : inR s0) : OK d k_M_isUsed 31 [mR 107, mI v1, mN, mI v3] [mI s0] h cI p01 (F_M_isUsed_31 G4 v1 v3 s0 h) := by
  unfold F_M_isUsed_31
  refine z_go (fun Q hq => x_istore_n (dA d_M_isUsed 19 rfl) rfl (by decide) rfl hq) ?_
  refine z_gd (fun g7 => ?_)
  refine z_go (fun Q hq => x_iinc (dA d_M_isUsed 20 rfl) rfl (by decide) rfl (x_goto (dA d_M_isUsed 21 rfl) rfl hq)) ?_
  exact hG4 v1 s0 (v3 + (1 : Int)) h L rv1 rs0 g7
noncomputable def F_M_isUsed_26 (G4 : Int → Int → Int → MH → RS Int) (v1 : Int) (v3 : Int) (h : MH) : RS Int := F_M_isUsed_31 G4 v1 v3 (1 : Int) h
theorem S_M_isUsed_26 {d : Nat} (hd : 0 ≤ d) {G4 : Int → Int → Int → MH → RS Int} (hG4 : ∀ (v1 : Int) (v2 : Int) (v3 : Int) (h : MH), LayC h → inR v1 → inR v2 → inR v3 → OK d k_M_isUsed 4 [mR 107, mI v1, mI v2, mI v3] [] h cI p01 (G4 v1 v2 v3 h)) {v1 : Int} {v3 : Int} {h : MH} (L : LayC h) (rv1 : inR v1) (rv3 : inR v3) : OK d k_M_isUsed 26 [mR 107, mI v1, mN, mI v3] [] h cI p01 (F_M_isUsed_26 G4 v1 v3 h) := by
  unfold F_M_isUsed_26
  refine z_go (fun Q hq => x_iconst (dA d_M_isUsed 16 rfl) (x_goto (dA d_M_isUsed 17 rfl) rfl hq)) ?_
  exact S_M_isUsed_31 hd hG4 L rv1 rv3 (inR_lit (1 : Int) rfl)
noncomputable def F_M_isUsed_4_b (G4 : Int → Int → Int → MH → RS Int) (v1 : Int) (v2 : Int) (v3 : Int) (h : MH) : RS Int := if (mGi h 107 6) ≤ v3 then F_M_isUsed_40 v1 v2 (0 : Int) h else if v2 = 0 then gd (0 ≤ v3 ∧ v3 < 10) (if (mGi h 116 v3.toNat) = v1 then F_M_isUsed_26 G4 v1 v3 h else F_M_isUsed_31 G4 v1 v3 (0 : Int) h) else F_M_isUsed_26 G4 v1 v3 h
theorem S_M_isUsed_4_b {d : Nat} (hd : 0 ≤ d) {G4 : Int → Int → Int → MH → RS Int} (hG4 : ∀ (v1 : Int) (v2 : Int) (v3 : Int) (h : MH), LayC h → inR v1 → inR v2 → inR v3 → OK d k_M_isUsed 4 [mR 107, mI v1, mI v2, mI v3] [] h cI p01 (G4 v1 v2 v3 h)) {v1 : Int} {v2 : Int} {v3 : Int} {h : MH} (L : LayC h) (rv1 : inR v1) (rv2 : inR v2) (rv3 : inR v3) : OK d k_M_isUsed 4 [mR 107, mI v1, mI v2, mI v3] [] h cI p01 (F_M_isUsed_4_b G4 v1 v2 v3 h) := by
  unfold F_M_isUsed_4_b
  refine z_go (fun Q hq => x_iload_n (dA d_M_isUsed 4 rfl) rfl rfl (x_aload_n (dA d_M_isUsed 5 rfl) rfl rfl (x_getI (dA d_M_isUsed 6 rfl) f_M_205 (L.sh (x := (12, 66)) rfl) (by decide) (by decide) rfl hq))) ?_
  refine z_br (fun Q => x_icmp_ge (dA d_M_isUsed 7 rfl) rfl rv3 (L.rg _ _)) (fun c8 => ?_) (fun c8 => ?_)
  · refine z_go (fun Q hq => x_iconst (dA d_M_isUsed 22 rfl) (x_istore_n (dA d_M_isUsed 23 rfl) rfl (by decide) rfl hq)) ?_
    exact S_M_isUsed_40 hd  L rv1 rv2 (inR_lit (0 : Int) rfl)
  · refine z_go (fun Q hq => x_iload_n (dA d_M_isUsed 8 rfl) rfl rfl hq) ?_
    refine z_brn (fun Q => x_if_ne (dA d_M_isUsed 9 rfl) rfl rv2) (fun c9 => ?_) (fun c9 => ?_)
    · refine z_go (fun Q hq => x_aload_n (dA d_M_isUsed 10 rfl) rfl rfl (x_getR (dA d_M_isUsed 11 rfl) f_M_36 (L.sh (x := (12, 66)) rfl) (by decide) (by decide) rfl (L.rf 117 rfl) (x_iload_n (dA d_M_isUsed 12 rfl) rfl rfl hq))) ?_
      refine z_gd (fun g10 => ?_)
      refine z_go (fun Q hq => x_iald (dA d_M_isUsed 13 rfl) (L.sh (x := (100, 10)) rfl) g10.1 g10.2 (by decide) (x_iload_n (dA d_M_isUsed 14 rfl) rfl rfl hq)) ?_
      refine z_brn (fun Q => x_icmp_ne (dA d_M_isUsed 15 rfl) rfl (L.rg _ _) rv1) (fun c11 => ?_) (fun c11 => ?_)
      · refine z_fgt (ls' := [mR 107, mI v1, mN, mI v3]) ⟨.inr rfl, .inr rfl, .inl rfl, .inr rfl, trivial⟩ ?_
        exact S_M_isUsed_26 hd hG4 L rv1 rv3
      · refine z_go (fun Q hq => x_iconst (dA d_M_isUsed 18 rfl) hq) ?_
        refine z_fgt (ls' := [mR 107, mI v1, mN, mI v3]) ⟨.inr rfl, .inr rfl, .inl rfl, .inr rfl, trivial⟩ ?_
        exact S_M_isUsed_31 hd hG4 L rv1 rv3 (inR_lit (0 : Int) rfl)
    · refine z_fgt (ls' := [mR 107, mI v1, mN, mI v3]) ⟨.inr rfl, .inr rfl, .inl rfl, .inr rfl, trivial⟩ ?_
      exact S_M_isUsed_26 hd hG4 L rv1 rv3
noncomputable def F_M_isUsed_4 (v1 : Int) (v2 : Int) (v3 : Int) (h : MH) : RS Int := itr (fun self (q : Int × Int × Int × MH) => F_M_isUsed_4_b (fun v1 v2 v3 h => self (v1, v2, v3, h)) q.1 q.2.1 q.2.2.1 q.2.2.2) FU (v1, v2, v3, h)
theorem S_M_isUsed_4 {d : Nat} (hd : 0 ≤ d) {v1 : Int} {v2 : Int} {v3 : Int} {h : MH} (L : LayC h) (rv1 : inR v1) (rv2 : inR v2) (rv3 : inR v3) : OK d k_M_isUsed 4 [mR 107, mI v1, mI v2, mI v3] [] h cI p01 (F_M_isUsed_4  v1 v2 v3 h) := by
  unfold F_M_isUsed_4
  refine z_itr (P := fun q : Int × Int × Int × MH => LayC q.2.2.2 ∧ inR q.1 ∧ inR q.2.1 ∧ inR q.2.2.1 ∧ True) (ls := fun q : Int × Int × Int × MH => [mR 107, mI q.1, mI q.2.1, mI q.2.2.1]) (hp := fun q : Int × Int × Int × MH => q.2.2.2) (fun self hs q hq => ?_) FU (v1, v2, v3, h) ⟨L, rv1, rv2, rv3, trivial⟩
  exact S_M_isUsed_4_b hd (fun v1 v2 v3 h L rv1 rv2 rv3 => hs (v1, v2, v3, h) ⟨L, rv1, rv2, rv3, trivial⟩) hq.1 hq.2.1 hq.2.2.1 hq.2.2.2.1
noncomputable def F_M_isUsed (a1 : Int) (h : MH) : RS Int := F_M_isUsed_4 a1 (0 : Int) (0 : Int) h
theorem S_M_isUsed {d : Nat} (hd : 0 ≤ d) {a1 : Int} {h : MH} (L : LayC h) (ra1 : inR a1) : OK d k_M_isUsed 0 [mR 107, mI a1, mN, mN] [] h cI p01 (F_M_isUsed  a1 h) := by
  unfold F_M_isUsed
  refine z_go (fun Q hq => x_iconst (dA d_M_isUsed 0 rfl) (x_istore_n (dA d_M_isUsed 1 rfl) rfl (by decide) rfl (x_iconst (dA d_M_isUsed 2 rfl) (x_istore_n (dA d_M_isUsed 3 rfl) rfl (by decide) rfl hq)))) ?_
  exact S_M_isUsed_4 hd  L ra1 (inR_lit (0 : Int) rfl) (inR_lit (0 : Int) rfl)
/-! TwoMillsModel.wordOf(II)J -/
noncomputable def F_M_wordOf_103 (v5 : Int) (v6 : Int64) (h : MH) : RS Int64 := if v5 = 0 then some (.inl (0 : Int64), h) else some (.inl v6, h)
theorem S_M_wordOf_103 {d : Nat} (hd : 2 ≤ d) {v5 : Int} {v6 : Int64} {h : MH} (L : LayC h) (rv5 : inR v5) : OK d k_M_wordOf 103 [mN, mN, mN, mN, mN, mI v5, mL v6, mN, mN] [] h cJ pT (F_M_wordOf_103  v5 v6 h) := by
  unfold F_M_wordOf_103
  refine z_go (fun Q hq => x_iload (dA d_M_wordOf 57 rfl) rfl hq) ?_
  refine z_br (fun Q => x_if_eq (dA d_M_wordOf 58 rfl) rfl rv5) (fun c1 => ?_) (fun c1 => ?_)
  · refine z_go (fun Q hq => x_lconst (v := 0) (dA d_M_wordOf 61 rfl) rfl hq) ?_
    exact z_retj (dA d_M_wordOf 62 rfl) rfl
  · refine z_go (fun Q hq => x_lload (dA d_M_wordOf 59 rfl) rfl (x_goto (dA d_M_wordOf 60 rfl) rfl hq)) ?_
    exact z_retj (dA d_M_wordOf 62 rfl) rfl
noncomputable def F_M_wordOf_55_b (G55 : Int → Int → Int64 → Int → MH → RS Int64) (v3 : Int) (v5 : Int) (v6 : Int64) (v8 : Int) (h : MH) : RS Int64 := if v8 < 0 then F_M_wordOf_103 v5 v6 h else if v5 = 0 then F_M_wordOf_103 v5 v6 h else gd (inR (v3 + v8)) (gd (0 ≤ (v3 + v8) ∧ (v3 + v8) < 200) (bnd (F_M_isPart (mGi h 112 (v3 + v8).toNat) h) fun x8 h6 => gd (inR (v8 + (-1 : Int))) (G55 v3 x8 ((v6 <<< ((Int32.ofInt (8 : Int)).toInt64 &&& 63)) ||| ((Int32.ofInt (mGi h6 112 (v3 + v8).toNat)).toInt64)) (v8 + (-1 : Int)) h6)))
theorem S_M_wordOf_55_b {d : Nat} (hd : 2 ≤ d) {G55 : Int → Int → Int64 → Int → MH → RS Int64} (hG55 : ∀ (v3 : Int) (v5 : Int) (v6 : Int64) (v8 : Int) (h : MH), LayC h → inR v3 → inR v5 → inR v8 → OK d k_M_wordOf 55 [mR 107, mN, mN, mI v3, mN, mI v5, mL v6, mN, mI v8] [] h cJ pT (G55 v3 v5 v6 v8 h)) {v3 : Int} {v5 : Int} {v6 : Int64} {v8 : Int} {h : MH} (L : LayC h) (rv3 : inR v3) (rv5 : inR v5) (rv8 : inR v8) : OK d k_M_wordOf 55 [mR 107, mN, mN, mI v3, mN, mI v5, mL v6, mN, mI v8] [] h cJ pT (F_M_wordOf_55_b G55 v3 v5 v6 v8 h) := by
  unfold F_M_wordOf_55_b
  refine z_go (fun Q hq => x_iload (dA d_M_wordOf 31 rfl) rfl hq) ?_
  refine z_br (fun Q => x_if_lt (dA d_M_wordOf 32 rfl) rfl rv8) (fun c2 => ?_) (fun c2 => ?_)
  · refine z_fgt (ls' := [mN, mN, mN, mN, mN, mI v5, mL v6, mN, mN]) ⟨.inl rfl, .inl rfl, .inl rfl, .inl rfl, .inl rfl, .inr rfl, .inr rfl, .inl rfl, .inl rfl, trivial⟩ ?_
    exact S_M_wordOf_103 hd  L rv5
  · refine z_go (fun Q hq => x_iload (dA d_M_wordOf 33 rfl) rfl hq) ?_
    refine z_br (fun Q => x_if_eq (dA d_M_wordOf 34 rfl) rfl rv5) (fun c3 => ?_) (fun c3 => ?_)
    · refine z_fgt (ls' := [mN, mN, mN, mN, mN, mI v5, mL v6, mN, mN]) ⟨.inl rfl, .inl rfl, .inl rfl, .inl rfl, .inl rfl, .inr rfl, .inr rfl, .inl rfl, .inl rfl, trivial⟩ ?_
      exact S_M_wordOf_103 hd  L rv5
    · refine z_go (fun Q hq => x_aload_n (dA d_M_wordOf 35 rfl) rfl rfl (x_getR (dA d_M_wordOf 36 rfl) f_M_22 (L.sh (x := (12, 66)) rfl) (by decide) (by decide) rfl (L.rf 113 rfl) (x_iload_n (dA d_M_wordOf 37 rfl) rfl rfl (x_iload (dA d_M_wordOf 38 rfl) rfl hq)))) ?_
      refine z_gd (fun g4 => ?_)
      refine z_go (fun Q hq => x_iadd (dA d_M_wordOf 39 rfl) hq) ?_
      refine z_gd (fun g5 => ?_)
      refine z_go (fun Q hq => x_cald (dA d_M_wordOf 40 rfl) (L.sh (x := (101, 200)) rfl) g5.1 g5.2 (by decide) hq) ?_
      refine z_bnd (rest := []) (st1 := fun v => mI v :: []) (S_M_isPart (d := 1) (Nat.le_refl _) L (L.rg _ _)) (fun _ hx => absurd hx List.not_mem_nil) (fun _ => rfl) (fun Q' Q => x_callS (as := [mI (mGi h 112 (v3 + v8).toNat)]) (rest := []) (k' := k_M_isPart) (dA d_M_wordOf 41 rfl) o_M_isPart lk_M_211 st_M_isPart (Nat.le_of_ble_eq_true rfl) (Nat.le_trans (Nat.le_of_ble_eq_true rfl) hd) (Nat.le_of_ble_eq_true rfl)) (fun x8 h6 e7 p9 => ?_)
      have L10 := L.ext e7
      refine z_go (fun Q hq => x_istore (dA d_M_wordOf 42 rfl) (by decide) rfl (x_lload (dA d_M_wordOf 43 rfl) rfl (x_bipush (dA d_M_wordOf 44 rfl) (by decide) (x_lshl (dA d_M_wordOf 45 rfl) (x_aload_n (dA d_M_wordOf 46 rfl) rfl rfl (x_getR (dA d_M_wordOf 47 rfl) f_M_22 (L10.sh (x := (12, 66)) rfl) (by decide) (by decide) rfl (L10.rf 113 rfl) (x_iload_n (dA d_M_wordOf 48 rfl) rfl rfl (x_iload (dA d_M_wordOf 49 rfl) rfl (x_iadd (dA d_M_wordOf 50 rfl) (x_cald (dA d_M_wordOf 51 rfl) (L10.sh (x := (101, 200)) rfl) g5.1 g5.2 (by decide) (x_i2l (dA d_M_wordOf 52 rfl) (x_lor (dA d_M_wordOf 53 rfl) (x_lstore (dA d_M_wordOf 54 rfl) (by decide) rfl hq))))))))))))) ?_
      refine z_gd (fun g11 => ?_)
      refine z_go (fun Q hq => x_iinc (dA d_M_wordOf 55 rfl) rfl (by decide) rfl (x_goto (dA d_M_wordOf 56 rfl) rfl hq)) ?_
      exact hG55 v3 x8 ((v6 <<< ((Int32.ofInt (8 : Int)).toInt64 &&& 63)) ||| ((Int32.ofInt (mGi h6 112 (v3 + v8).toNat)).toInt64)) (v8 + (-1 : Int)) h6 L10 rv3 p9.inR g11
noncomputable def F_M_wordOf_55 (v3 : Int) (v5 : Int) (v6 : Int64) (v8 : Int) (h : MH) : RS Int64 := itr (fun self (q : Int × Int × Int64 × Int × MH) => F_M_wordOf_55_b (fun v3 v5 v6 v8 h => self (v3, v5, v6, v8, h)) q.1 q.2.1 q.2.2.1 q.2.2.2.1 q.2.2.2.2) FU (v3, v5, v6, v8, h)
theorem S_M_wordOf_55 {d : Nat} (hd : 2 ≤ d) {v3 : Int} {v5 : Int} {v6 : Int64} {v8 : Int} {h : MH} (L : LayC h) (rv3 : inR v3) (rv5 : inR v5) (rv8 : inR v8) : OK d k_M_wordOf 55 [mR 107, mN, mN, mI v3, mN, mI v5, mL v6, mN, mI v8] [] h cJ pT (F_M_wordOf_55  v3 v5 v6 v8 h) := by
  unfold F_M_wordOf_55
  refine z_itr (P := fun q : Int × Int × Int64 × Int × MH => LayC q.2.2.2.2 ∧ inR q.1 ∧ inR q.2.1 ∧ inR q.2.2.2.1 ∧ True) (ls := fun q : Int × Int × Int64 × Int × MH => [mR 107, mN, mN, mI q.1, mN, mI q.2.1, mL q.2.2.1, mN, mI q.2.2.2.1]) (hp := fun q : Int × Int × Int64 × Int × MH => q.2.2.2.2) (fun self hs q hq => ?_) FU (v3, v5, v6, v8, h) ⟨L, rv3, rv5, rv8, trivial⟩
  exact S_M_wordOf_55_b hd (fun v3 v5 v6 v8 h L rv3 rv5 rv8 => hs (v3, v5, v6, v8, h) ⟨L, rv3, rv5, rv8, trivial⟩) hq.1 hq.2.1 hq.2.2.1 hq.2.2.2.1
noncomputable def F_M_wordOf_44 (v3 : Int) (v4 : Int) (s0 : Int) (h : MH) : RS Int64 := gd (inR (v4 - (1 : Int))) (F_M_wordOf_55 v3 s0 (0 : Int64) (v4 - (1 : Int)) h)
theorem S_M_wordOf_44 {d : Nat} (hd : 2 ≤ d) {v3 : Int} {v4 : Int} {s0 : Int} {h : MH} (L : LayC h) (rv3 : inR v3) (rv4 : inR v4) (rs0 : inR s0) : OK d k_M_wordOf 44 [mR 107, mN, mN, mI v3, mI v4, mN, mN, mN, mN] [mI s0] h cJ pT (F_M_wordOf_44  v3 v4 s0 h) := by
  unfold F_M_wordOf_44
  refine z_go (fun Q hq => x_istore (dA d_M_wordOf 24 rfl) (by decide) rfl (x_lconst (v := 0) (dA d_M_wordOf 25 rfl) rfl (x_lstore (dA d_M_wordOf 26 rfl) (by decide) rfl (x_iload (dA d_M_wordOf 27 rfl) rfl (x_iconst (dA d_M_wordOf 28 rfl) hq))))) ?_
  refine z_gd (fun g12 => ?_)
  refine z_go (fun Q hq => x_isub (dA d_M_wordOf 29 rfl) (x_istore (dA d_M_wordOf 30 rfl) (by decide) rfl hq)) ?_
  refine z_fgt (ls' := [mR 107, mN, mN, mI v3, mN, mI s0, mL (0 : Int64), mN, mI (v4 - (1 : Int))]) ⟨.inr rfl, .inl rfl, .inl rfl, .inr rfl, .inl rfl, .inr rfl, .inr rfl, .inl rfl, .inr rfl, trivial⟩ ?_
  exact S_M_wordOf_55 hd  L rv3 rs0 g12
noncomputable def F_M_wordOf_43 (v3 : Int) (v4 : Int) (h : MH) : RS Int64 := F_M_wordOf_44 v3 v4 (0 : Int) h
theorem S_M_wordOf_43 {d : Nat} (hd : 2 ≤ d) {v3 : Int} {v4 : Int} {h : MH} (L : LayC h) (rv3 : inR v3) (rv4 : inR v4) : OK d k_M_wordOf 43 [mR 107, mN, mN, mI v3, mI v4, mN, mN, mN, mN] [] h cJ pT (F_M_wordOf_43  v3 v4 h) := by
  unfold F_M_wordOf_43
  refine z_go (fun Q hq => x_iconst (dA d_M_wordOf 23 rfl) hq) ?_
  exact S_M_wordOf_44 hd  L rv3 rv4 (inR_lit (0 : Int) rfl)
noncomputable def F_M_wordOf (a1 : Int) (a2 : Int) (h : MH) : RS Int64 := bnd (F_M_from a1 a2 h) fun x15 h13 => bnd (F_M_size a1 a2 h13) fun x20 h18 => if x20 ≤ 0 then F_M_wordOf_43 x15 x20 h18 else if (9 : Int) ≤ x20 then F_M_wordOf_43 x15 x20 h18 else gd (0 ≤ x15 ∧ x15 < 200) (bnd (F_M_isLetter (mGi h18 112 x15.toNat) h18) fun x28 h26 => if x28 = 0 then F_M_wordOf_43 x15 x20 h26 else F_M_wordOf_44 x15 x20 (1 : Int) h26)
theorem S_M_wordOf {d : Nat} (hd : 2 ≤ d) {a1 : Int} {a2 : Int} {h : MH} (L : LayC h) (ra1 : inR a1) (ra2 : inR a2) : OK d k_M_wordOf 0 [mR 107, mI a1, mI a2, mN, mN, mN, mN, mN, mN] [] h cJ pT (F_M_wordOf  a1 a2 h) := by
  unfold F_M_wordOf
  refine z_go (fun Q hq => x_aload_n (dA d_M_wordOf 0 rfl) rfl rfl (x_iload_n (dA d_M_wordOf 1 rfl) rfl rfl (x_iload_n (dA d_M_wordOf 2 rfl) rfl rfl hq))) ?_
  refine z_bnd (rest := []) (st1 := fun v => mI v :: []) (S_M_from (d := 0) (Nat.le_refl _) L ra1 ra2) (fun _ hx => absurd hx List.not_mem_nil) (fun _ => rfl) (fun Q' Q => x_callV (as := [mI a1, mI a2]) (rest := []) (k' := k_M_from) (dA d_M_wordOf 3 rfl) o_M_from lk_M_202 im_M_from se_M_from rfl (L.sh (x := (12, 66)) rfl) (by decide) (Nat.le_of_ble_eq_true rfl) (Nat.le_trans (Nat.le_of_ble_eq_true rfl) hd) (Nat.le_of_ble_eq_true rfl)) (fun x15 h13 e14 p16 => ?_)
  have L17 := L.ext e14
  refine z_go (fun Q hq => x_istore_n (dA d_M_wordOf 4 rfl) rfl (by decide) rfl (x_aload_n (dA d_M_wordOf 5 rfl) rfl rfl (x_iload_n (dA d_M_wordOf 6 rfl) rfl rfl (x_iload_n (dA d_M_wordOf 7 rfl) rfl rfl hq)))) ?_
  refine z_bnd (rest := []) (st1 := fun v => mI v :: []) (S_M_size (d := 1) (Nat.le_refl _) L17 ra1 ra2) (fun _ hx => absurd hx List.not_mem_nil) (fun _ => rfl) (fun Q' Q => x_callV (as := [mI a1, mI a2]) (rest := []) (k' := k_M_size) (dA d_M_wordOf 8 rfl) o_M_size lk_M_208 im_M_size se_M_size rfl (L17.sh (x := (12, 66)) rfl) (by decide) (Nat.le_of_ble_eq_true rfl) (Nat.le_trans (Nat.le_of_ble_eq_true rfl) hd) (Nat.le_of_ble_eq_true rfl)) (fun x20 h18 e19 p21 => ?_)
  have L22 := L17.ext e19
  refine z_go (fun Q hq => x_istore (dA d_M_wordOf 9 rfl) (by decide) rfl (x_iload (dA d_M_wordOf 10 rfl) rfl hq)) ?_
  refine z_br (fun Q => x_if_le (dA d_M_wordOf 11 rfl) rfl p21) (fun c23 => ?_) (fun c23 => ?_)
  · refine z_fgt (ls' := [mR 107, mN, mN, mI x15, mI x20, mN, mN, mN, mN]) ⟨.inr rfl, .inl rfl, .inl rfl, .inr rfl, .inr rfl, .inl rfl, .inl rfl, .inl rfl, .inl rfl, trivial⟩ ?_
    exact S_M_wordOf_43 hd  L22 p16 p21
  · refine z_go (fun Q hq => x_iload (dA d_M_wordOf 12 rfl) rfl (x_bipush (dA d_M_wordOf 13 rfl) (by decide) hq)) ?_
    refine z_br (fun Q => x_icmp_ge (dA d_M_wordOf 14 rfl) rfl p21 (inR_lit (9 : Int) rfl)) (fun c24 => ?_) (fun c24 => ?_)
    · refine z_fgt (ls' := [mR 107, mN, mN, mI x15, mI x20, mN, mN, mN, mN]) ⟨.inr rfl, .inl rfl, .inl rfl, .inr rfl, .inr rfl, .inl rfl, .inl rfl, .inl rfl, .inl rfl, trivial⟩ ?_
      exact S_M_wordOf_43 hd  L22 p16 p21
    · refine z_go (fun Q hq => x_aload_n (dA d_M_wordOf 15 rfl) rfl rfl (x_getR (dA d_M_wordOf 16 rfl) f_M_22 (L22.sh (x := (12, 66)) rfl) (by decide) (by decide) rfl (L22.rf 113 rfl) (x_iload_n (dA d_M_wordOf 17 rfl) rfl rfl hq))) ?_
      refine z_gd (fun g25 => ?_)
      refine z_go (fun Q hq => x_cald (dA d_M_wordOf 18 rfl) (L22.sh (x := (101, 200)) rfl) g25.1 g25.2 (by decide) hq) ?_
      refine z_bnd (rest := []) (st1 := fun v => mI v :: []) (S_M_isLetter (d := 0) (Nat.le_refl _) L22 (L22.rg _ _)) (fun _ hx => absurd hx List.not_mem_nil) (fun _ => rfl) (fun Q' Q => x_callS (as := [mI (mGi h18 112 x15.toNat)]) (rest := []) (k' := k_M_isLetter) (dA d_M_wordOf 19 rfl) o_M_isLetter lk_M_150 st_M_isLetter (Nat.le_of_ble_eq_true rfl) (Nat.le_trans (Nat.le_of_ble_eq_true rfl) hd) (Nat.le_of_ble_eq_true rfl)) (fun x28 h26 e27 p29 => ?_)
      have L30 := L22.ext e27
      refine z_br (fun Q => x_if_eq (dA d_M_wordOf 20 rfl) rfl p29.inR) (fun c31 => ?_) (fun c31 => ?_)
      · refine z_fgt (ls' := [mR 107, mN, mN, mI x15, mI x20, mN, mN, mN, mN]) ⟨.inr rfl, .inl rfl, .inl rfl, .inr rfl, .inr rfl, .inl rfl, .inl rfl, .inl rfl, .inl rfl, trivial⟩ ?_
        exact S_M_wordOf_43 hd  L30 p16 p21
      · refine z_go (fun Q hq => x_iconst (dA d_M_wordOf 21 rfl) (x_goto (dA d_M_wordOf 22 rfl) rfl hq)) ?_
        refine z_fgt (ls' := [mR 107, mN, mN, mI x15, mI x20, mN, mN, mN, mN]) ⟨.inr rfl, .inl rfl, .inl rfl, .inr rfl, .inr rfl, .inl rfl, .inl rfl, .inl rfl, .inl rfl, trivial⟩ ?_
        exact S_M_wordOf_44 hd  L30 p16 p21 (inR_lit (1 : Int) rfl)
/-! TwoMillsModel.define(IZ)V -/
noncomputable def F_M_define_135_b (G135 : Int → Int → Int → Int → MH → RS Unit) (v1 : Int) (v5 : Int) (v6 : Int) (v7 : Int) (h : MH) : RS Unit := if v5 ≤ v7 then some (.inl (), h) else gd (inR ((40 : Int) * v6)) (gd (inR (((40 : Int) * v6) + v7)) (bnd (F_M_from v1 (1 : Int) h) fun x6 h4 => gd (inR (x6 + v7)) (gd (0 ≤ (x6 + v7) ∧ (x6 + v7) < 200) (gd (0 ≤ (((40 : Int) * v6) + v7) ∧ (((40 : Int) * v6) + v7) < 640) (sto (mPi h4 111 (((40 : Int) * v6) + v7).toNat (mGi h4 112 (x6 + v7).toNat)) fun h12 => gd (inR (v7 + (1 : Int))) (G135 v1 v5 v6 (v7 + (1 : Int)) h12))))))
theorem S_M_define_135_b {d : Nat} (hd : 3 ≤ d) {G135 : Int → Int → Int → Int → MH → RS Unit} (hG135 : ∀ (v1 : Int) (v5 : Int) (v6 : Int) (v7 : Int) (h : MH), LayC h → inR v1 → inR v5 → inR v6 → inR v7 → OK d k_M_define 135 [mR 107, mI v1, mN, mN, mN, mI v5, mI v6, mI v7] [] h cV pT (G135 v1 v5 v6 v7 h)) {v1 : Int} {v5 : Int} {v6 : Int} {v7 : Int} {h : MH} (L : LayC h) (rv1 : inR v1) (rv5 : inR v5) (rv6 : inR v6) (rv7 : inR v7) : OK d k_M_define 135 [mR 107, mI v1, mN, mN, mN, mI v5, mI v6, mI v7] [] h cV pT (F_M_define_135_b G135 v1 v5 v6 v7 h) := by
  unfold F_M_define_135_b
  refine z_go (fun Q hq => x_iload (dA d_M_define 73 rfl) rfl (x_iload (dA d_M_define 74 rfl) rfl hq)) ?_
  refine z_br (fun Q => x_icmp_ge (dA d_M_define 75 rfl) rfl rv7 rv5) (fun c1 => ?_) (fun c1 => ?_)
  · exact z_retv (dA d_M_define 95 rfl) rfl
  · refine z_go (fun Q hq => x_aload_n (dA d_M_define 76 rfl) rfl rfl (x_getR (dA d_M_define 77 rfl) f_M_19 (L.sh (x := (12, 66)) rfl) (by decide) (by decide) rfl (L.rf 112 rfl) (x_bipush (dA d_M_define 78 rfl) (by decide) (x_iload (dA d_M_define 79 rfl) rfl hq)))) ?_
    refine z_gd (fun g2 => ?_)
    refine z_go (fun Q hq => x_imul (dA d_M_define 80 rfl) (x_iload (dA d_M_define 81 rfl) rfl hq)) ?_
    refine z_gd (fun g3 => ?_)
    refine z_go (fun Q hq => x_iadd (dA d_M_define 82 rfl) (x_aload_n (dA d_M_define 83 rfl) rfl rfl (x_getR (dA d_M_define 84 rfl) f_M_22 (L.sh (x := (12, 66)) rfl) (by decide) (by decide) rfl (L.rf 113 rfl) (x_aload_n (dA d_M_define 85 rfl) rfl rfl (x_iload_n (dA d_M_define 86 rfl) rfl rfl (x_iconst (dA d_M_define 87 rfl) hq)))))) ?_
    refine z_bnd (rest := [mR 112, mI (((40 : Int) * v6) + v7), mR 111]) (st1 := fun v => mI v :: [mR 112, mI (((40 : Int) * v6) + v7), mR 111]) (S_M_from (d := 0) (Nat.le_refl _) L rv1 (inR_lit (1 : Int) rfl)) (fun _ hx => absurd hx List.not_mem_nil) (fun _ => rfl) (fun Q' Q => x_callV (as := [mI v1, mI (1 : Int)]) (rest := [mR 112, mI (((40 : Int) * v6) + v7), mR 111]) (k' := k_M_from) (dA d_M_define 88 rfl) o_M_from lk_M_202 im_M_from se_M_from rfl (L.sh (x := (12, 66)) rfl) (by decide) (Nat.le_of_ble_eq_true rfl) (Nat.le_trans (Nat.le_of_ble_eq_true rfl) hd) (Nat.le_of_ble_eq_true rfl)) (fun x6 h4 e5 p7 => ?_)
    have L8 := L.ext e5
    refine z_go (fun Q hq => x_iload (dA d_M_define 89 rfl) rfl hq) ?_
    refine z_gd (fun g9 => ?_)
    refine z_go (fun Q hq => x_iadd (dA d_M_define 90 rfl) hq) ?_
    refine z_gd (fun g10 => ?_)
    refine z_go (fun Q hq => x_cald (dA d_M_define 91 rfl) (L8.sh (x := (101, 200)) rfl) g10.1 g10.2 (by decide) hq) ?_
    refine z_gd (fun g11 => ?_)
    refine z_sto (Ext.pc (L8.ch (L8.sh (x := (101, 200)) rfl) _).1 (L8.ch (L8.sh (x := (101, 200)) rfl) _).2) (fun Q hq => x_cast (dA d_M_define 92 rfl) (L8.sh (x := (101, 640)) rfl) g11.1 g11.2 (by decide) (L8.ch (L8.sh (x := (101, 200)) rfl) _).1 (L8.ch (L8.sh (x := (101, 200)) rfl) _).2 hq) (fun h12 e13 => ?_)
    have L14 := L8.ext e13
    refine z_gd (fun g15 => ?_)
    refine z_go (fun Q hq => x_iinc (dA d_M_define 93 rfl) rfl (by decide) rfl (x_goto (dA d_M_define 94 rfl) rfl hq)) ?_
    exact hG135 v1 v5 v6 (v7 + (1 : Int)) h12 L14 rv1 rv5 rv6 g15
noncomputable def F_M_define_135 (v1 : Int) (v5 : Int) (v6 : Int) (v7 : Int) (h : MH) : RS Unit := itr (fun self (q : Int × Int × Int × Int × MH) => F_M_define_135_b (fun v1 v5 v6 v7 h => self (v1, v5, v6, v7, h)) q.1 q.2.1 q.2.2.1 q.2.2.2.1 q.2.2.2.2) FU (v1, v5, v6, v7, h)
theorem S_M_define_135 {d : Nat} (hd : 3 ≤ d) {v1 : Int} {v5 : Int} {v6 : Int} {v7 : Int} {h : MH} (L : LayC h) (rv1 : inR v1) (rv5 : inR v5) (rv6 : inR v6) (rv7 : inR v7) : OK d k_M_define 135 [mR 107, mI v1, mN, mN, mN, mI v5, mI v6, mI v7] [] h cV pT (F_M_define_135  v1 v5 v6 v7 h) := by
  unfold F_M_define_135
  refine z_itr (P := fun q : Int × Int × Int × Int × MH => LayC q.2.2.2.2 ∧ inR q.1 ∧ inR q.2.1 ∧ inR q.2.2.1 ∧ inR q.2.2.2.1 ∧ True) (ls := fun q : Int × Int × Int × Int × MH => [mR 107, mI q.1, mN, mN, mN, mI q.2.1, mI q.2.2.1, mI q.2.2.2.1]) (hp := fun q : Int × Int × Int × Int × MH => q.2.2.2.2) (fun self hs q hq => ?_) FU (v1, v5, v6, v7, h) ⟨L, rv1, rv5, rv6, rv7, trivial⟩
  exact S_M_define_135_b hd (fun v1 v5 v6 v7 h L rv1 rv5 rv6 rv7 => hs (v1, v5, v6, v7, h) ⟨L, rv1, rv5, rv6, rv7, trivial⟩) hq.1 hq.2.1 hq.2.2.1 hq.2.2.2.1 hq.2.2.2.2.1
noncomputable def F_M_define_123 (v1 : Int) (v5 : Int) (v6 : Int) (h : MH) : RS Unit := gd (0 ≤ v6 ∧ v6 < 16) (sto (mPi h 115 v6.toNat v5) fun h17 => F_M_define_135 v1 v5 v6 (0 : Int) h17)
theorem S_M_define_123 {d : Nat} (hd : 3 ≤ d) {v1 : Int} {v5 : Int} {v6 : Int} {h : MH} (L : LayC h) (rv1 : inR v1) (rv5 : inR v5) (rv6 : inR v6) : OK d k_M_define 123 [mR 107, mI v1, mN, mN, mN, mI v5, mI v6, mN] [] h cV pT (F_M_define_123  v1 v5 v6 h) := by
  unfold F_M_define_123
  refine z_go (fun Q hq => x_aload_n (dA d_M_define 66 rfl) rfl rfl (x_getR (dA d_M_define 67 rfl) f_M_32 (L.sh (x := (12, 66)) rfl) (by decide) (by decide) rfl (L.rf 116 rfl) (x_iload (dA d_M_define 68 rfl) rfl (x_iload (dA d_M_define 69 rfl) rfl hq)))) ?_
  refine z_gd (fun g16 => ?_)
  refine z_sto (Ext.pi (L.sh (x := (100, 16)) rfl) (by decide) rv5) (fun Q hq => x_iast (dA d_M_define 70 rfl) (L.sh (x := (100, 16)) rfl) g16.1 g16.2 (by decide) hq) (fun h17 e18 => ?_)
  have L19 := L.ext e18
  refine z_go (fun Q hq => x_iconst (dA d_M_define 71 rfl) (x_istore (dA d_M_define 72 rfl) (by decide) rfl hq)) ?_
  exact S_M_define_135 hd  L19 rv1 rv5 rv6 (inR_lit (0 : Int) rfl)
noncomputable def F_M_define_79_b (G79 : Int → Int64 → Int → Int → MH → RS Unit) (v1 : Int) (v3 : Int64) (v5 : Int) (v6 : Int) (h : MH) : RS Unit := bnd (F_M_isUsed v6 h) fun x22 h20 => if x22 = 0 then gd (0 ≤ v6 ∧ v6 < 16) (sto (mPl h20 114 v6.toNat v3) fun h27 => gd (0 ≤ (mGi h27 107 6) ∧ (mGi h27 107 6) < 10) (sto (mPi h27 116 (mGi h27 107 6).toNat v6) fun h31 => gd (inR ((mGi h31 107 6) + (1 : Int))) (sto (mPi h31 107 6 ((mGi h31 107 6) + (1 : Int))) fun h35 => F_M_define_123 v1 v5 v6 h35))) else gd (inR (v6 + (1 : Int))) (G79 v1 v3 v5 (v6 + (1 : Int)) h20)
theorem S_M_define_79_b {d : Nat} (hd : 3 ≤ d) {G79 : Int → Int64 → Int → Int → MH → RS Unit} (hG79 : ∀ (v1 : Int) (v3 : Int64) (v5 : Int) (v6 : Int) (h : MH), LayC h → inR v1 → inR v5 → inR v6 → OK d k_M_define 79 [mR 107, mI v1, mN, mL v3, mN, mI v5, mI v6, mN] [] h cV pT (G79 v1 v3 v5 v6 h)) {v1 : Int} {v3 : Int64} {v5 : Int} {v6 : Int} {h : MH} (L : LayC h) (rv1 : inR v1) (rv5 : inR v5) (rv6 : inR v6) : OK d k_M_define 79 [mR 107, mI v1, mN, mL v3, mN, mI v5, mI v6, mN] [] h cV pT (F_M_define_79_b G79 v1 v3 v5 v6 h) := by
  unfold F_M_define_79_b
  refine z_go (fun Q hq => x_aload_n (dA d_M_define 43 rfl) rfl rfl (x_iload (dA d_M_define 44 rfl) rfl hq)) ?_
  refine z_bnd (rest := []) (st1 := fun v => mI v :: []) (S_M_isUsed (d := 0) (Nat.le_refl _) L rv6) (fun _ hx => absurd hx List.not_mem_nil) (fun _ => rfl) (fun Q' Q => x_callV (as := [mI v6]) (rest := []) (k' := k_M_isUsed) (dA d_M_define 45 rfl) o_M_isUsed lk_M_222 im_M_isUsed se_M_isUsed rfl (L.sh (x := (12, 66)) rfl) (by decide) (Nat.le_of_ble_eq_true rfl) (Nat.le_trans (Nat.le_of_ble_eq_true rfl) hd) (Nat.le_of_ble_eq_true rfl)) (fun x22 h20 e21 p23 => ?_)
  have L24 := L.ext e21
  refine z_br (fun Q => x_if_eq (dA d_M_define 46 rfl) rfl p23.inR) (fun c25 => ?_) (fun c25 => ?_)
  · refine z_go (fun Q hq => x_aload_n (dA d_M_define 49 rfl) rfl rfl (x_getR (dA d_M_define 50 rfl) f_M_28 (L24.sh (x := (12, 66)) rfl) (by decide) (by decide) rfl (L24.rf 115 rfl) (x_iload (dA d_M_define 51 rfl) rfl (x_lload_n (dA d_M_define 52 rfl) rfl rfl hq)))) ?_
    refine z_gd (fun g26 => ?_)
    refine z_sto Ext.pl (fun Q hq => x_last (dA d_M_define 53 rfl) (L24.sh (x := (103, 16)) rfl) g26.1 g26.2 (by decide) hq) (fun h27 e28 => ?_)
    have L29 := L24.ext e28
    refine z_go (fun Q hq => x_aload_n (dA d_M_define 54 rfl) rfl rfl (x_getR (dA d_M_define 55 rfl) f_M_36 (L29.sh (x := (12, 66)) rfl) (by decide) (by decide) rfl (L29.rf 117 rfl) (x_aload_n (dA d_M_define 56 rfl) rfl rfl (x_getI (dA d_M_define 57 rfl) f_M_205 (L29.sh (x := (12, 66)) rfl) (by decide) (by decide) rfl (x_iload (dA d_M_define 58 rfl) rfl hq))))) ?_
    refine z_gd (fun g30 => ?_)
    refine z_sto (Ext.pi (L29.sh (x := (100, 10)) rfl) (by decide) rv6) (fun Q hq => x_iast (dA d_M_define 59 rfl) (L29.sh (x := (100, 10)) rfl) g30.1 g30.2 (by decide) hq) (fun h31 e32 => ?_)
    have L33 := L29.ext e32
    refine z_go (fun Q hq => x_aload_n (dA d_M_define 60 rfl) rfl rfl (x_dup (dA d_M_define 61 rfl) rfl (x_getI (dA d_M_define 62 rfl) f_M_205 (L33.sh (x := (12, 66)) rfl) (by decide) (by decide) rfl (x_iconst (dA d_M_define 63 rfl) hq)))) ?_
    refine z_gd (fun g34 => ?_)
    refine z_go (fun Q hq => x_iadd (dA d_M_define 64 rfl) hq) ?_
    refine z_sto (Ext.pi (L33.sh (x := (12, 66)) rfl) (by decide) g34) (fun Q hq => x_putI (dA d_M_define 65 rfl) p_M_205 (L33.sh (x := (12, 66)) rfl) (by decide) cl_M rfl hq) (fun h35 e36 => ?_)
    have L37 := L33.ext e36
    refine z_fgt (ls' := [mR 107, mI v1, mN, mN, mN, mI v5, mI v6, mN]) ⟨.inr rfl, .inr rfl, .inl rfl, .inl rfl, .inl rfl, .inr rfl, .inr rfl, .inl rfl, trivial⟩ ?_
    exact S_M_define_123 hd  L37 rv1 rv5 rv6
  · refine z_gd (fun g38 => ?_)
    refine z_go (fun Q hq => x_iinc (dA d_M_define 47 rfl) rfl (by decide) rfl (x_goto (dA d_M_define 48 rfl) rfl hq)) ?_
    exact hG79 v1 v3 v5 (v6 + (1 : Int)) h20 L24 rv1 rv5 g38
noncomputable def F_M_define_79 (v1 : Int) (v3 : Int64) (v5 : Int) (v6 : Int) (h : MH) : RS Unit := itr (fun self (q : Int × Int64 × Int × Int × MH) => F_M_define_79_b (fun v1 v3 v5 v6 h => self (v1, v3, v5, v6, h)) q.1 q.2.1 q.2.2.1 q.2.2.2.1 q.2.2.2.2) FU (v1, v3, v5, v6, h)
theorem S_M_define_79 {d : Nat} (hd : 3 ≤ d) {v1 : Int} {v3 : Int64} {v5 : Int} {v6 : Int} {h : MH} (L : LayC h) (rv1 : inR v1) (rv5 : inR v5) (rv6 : inR v6) : OK d k_M_define 79 [mR 107, mI v1, mN, mL v3, mN, mI v5, mI v6, mN] [] h cV pT (F_M_define_79  v1 v3 v5 v6 h) := by
  unfold F_M_define_79
  refine z_itr (P := fun q : Int × Int64 × Int × Int × MH => LayC q.2.2.2.2 ∧ inR q.1 ∧ inR q.2.2.1 ∧ inR q.2.2.2.1 ∧ True) (ls := fun q : Int × Int64 × Int × Int × MH => [mR 107, mI q.1, mN, mL q.2.1, mN, mI q.2.2.1, mI q.2.2.2.1, mN]) (hp := fun q : Int × Int64 × Int × Int × MH => q.2.2.2.2) (fun self hs q hq => ?_) FU (v1, v3, v5, v6, h) ⟨L, rv1, rv5, rv6, trivial⟩
  exact S_M_define_79_b hd (fun v1 v3 v5 v6 h L rv1 rv5 rv6 => hs (v1, v3, v5, v6, h) ⟨L, rv1, rv5, rv6, trivial⟩) hq.1 hq.2.1 hq.2.2.1 hq.2.2.2.1
noncomputable def F_M_define_63 (v1 : Int) (v3 : Int64) (v5 : Int) (v6 : Int) (s1 : Int) (h : MH) : RS Unit := gd (p01 s1) (bnd (F_M_need s1 (1 : Int) h) fun x42 h40 => if x42 = 0 then some (.inl (), h40) else if 0 ≤ v6 then F_M_define_123 v1 v5 v6 h40 else F_M_define_79 v1 v3 v5 (0 : Int) h40)
theorem S_M_define_63 {d : Nat} (hd : 3 ≤ d) {v1 : Int} {v3 : Int64} {v5 : Int} {v6 : Int} {s1 : Int} {h : MH} (L : LayC h) (rv1 : inR v1) (rv5 : inR v5) (rv6 : inR v6) (rs1 : inR s1) : OK d k_M_define 63 [mR 107, mI v1, mN, mL v3, mN, mI v5, mI v6, mN] [mI s1, mR 107] h cV pT (F_M_define_63  v1 v3 v5 v6 s1 h) := by
  unfold F_M_define_63
  refine z_go (fun Q hq => x_iconst (dA d_M_define 35 rfl) hq) ?_
  refine z_gd (fun g39 => ?_)
  refine z_bnd (rest := []) (st1 := fun v => mI v :: []) (S_M_need (d := 1) (Nat.le_refl _) L g39 (inR_lit (1 : Int) rfl)) (fun _ hx => absurd hx List.not_mem_nil) (fun _ => rfl) (fun Q' Q => x_callV (as := [mI s1, mI (1 : Int)]) (rest := []) (k' := k_M_need) (dA d_M_define 36 rfl) o_M_need lk_M_181 im_M_need se_M_need rfl (L.sh (x := (12, 66)) rfl) (by decide) (Nat.le_of_ble_eq_true rfl) (Nat.le_trans (Nat.le_of_ble_eq_true rfl) hd) (Nat.le_of_ble_eq_true rfl)) (fun x42 h40 e41 p43 => ?_)
  have L44 := L.ext e41
  refine z_brn (fun Q => x_if_ne (dA d_M_define 37 rfl) rfl p43.inR) (fun c45 => ?_) (fun c45 => ?_)
  · exact z_retv (dA d_M_define 38 rfl) rfl
  · refine z_go (fun Q hq => x_iload (dA d_M_define 39 rfl) rfl hq) ?_
    refine z_br (fun Q => x_if_ge (dA d_M_define 40 rfl) rfl rv6) (fun c46 => ?_) (fun c46 => ?_)
    · refine z_fgt (ls' := [mR 107, mI v1, mN, mN, mN, mI v5, mI v6, mN]) ⟨.inr rfl, .inr rfl, .inl rfl, .inl rfl, .inl rfl, .inr rfl, .inr rfl, .inl rfl, trivial⟩ ?_
      exact S_M_define_123 hd  L44 rv1 rv5 rv6
    · refine z_go (fun Q hq => x_iconst (dA d_M_define 41 rfl) (x_istore (dA d_M_define 42 rfl) (by decide) rfl hq)) ?_
      exact S_M_define_79 hd  L44 rv1 rv5 (inR_lit (0 : Int) rfl)
noncomputable def F_M_define_62 (v1 : Int) (v3 : Int64) (v5 : Int) (v6 : Int) (h : MH) : RS Unit := F_M_define_63 v1 v3 v5 v6 (0 : Int) h
theorem S_M_define_62 {d : Nat} (hd : 3 ≤ d) {v1 : Int} {v3 : Int64} {v5 : Int} {v6 : Int} {h : MH} (L : LayC h) (rv1 : inR v1) (rv5 : inR v5) (rv6 : inR v6) : OK d k_M_define 62 [mR 107, mI v1, mN, mL v3, mN, mI v5, mI v6, mN] [mR 107] h cV pT (F_M_define_62  v1 v3 v5 v6 h) := by
  unfold F_M_define_62
  refine z_go (fun Q hq => x_iconst (dA d_M_define 34 rfl) hq) ?_
  exact S_M_define_63 hd  L rv1 rv5 rv6 (inR_lit (0 : Int) rfl)
noncomputable def F_M_define_58 (v1 : Int) (v3 : Int64) (v5 : Int) (v6 : Int) (h : MH) : RS Unit := F_M_define_63 v1 v3 v5 v6 (1 : Int) h
theorem S_M_define_58 {d : Nat} (hd : 3 ≤ d) {v1 : Int} {v3 : Int64} {v5 : Int} {v6 : Int} {h : MH} (L : LayC h) (rv1 : inR v1) (rv5 : inR v5) (rv6 : inR v6) : OK d k_M_define 58 [mR 107, mI v1, mN, mL v3, mN, mI v5, mI v6, mN] [mR 107] h cV pT (F_M_define_58  v1 v3 v5 v6 h) := by
  unfold F_M_define_58
  refine z_go (fun Q hq => x_iconst (dA d_M_define 32 rfl) (x_goto (dA d_M_define 33 rfl) rfl hq)) ?_
  exact S_M_define_63 hd  L rv1 rv5 rv6 (inR_lit (1 : Int) rfl)
noncomputable def F_M_define_28 (v1 : Int) (v3 : Int64) (v5 : Int) (s0 : Int) (h : MH) : RS Unit := if (lgI v3 (0 : Int64)) = 0 then some (.inl (), h) else if (40 : Int) < v5 then F_M_define_62 v1 v3 v5 s0 h else if 0 ≤ s0 then F_M_define_58 v1 v3 v5 s0 h else if (10 : Int) ≤ (mGi h 107 6) then F_M_define_62 v1 v3 v5 s0 h else F_M_define_58 v1 v3 v5 s0 h
theorem S_M_define_28 {d : Nat} (hd : 3 ≤ d) {v1 : Int} {v3 : Int64} {v5 : Int} {s0 : Int} {h : MH} (L : LayC h) (rv1 : inR v1) (rv5 : inR v5) (rs0 : inR s0) : OK d k_M_define 28 [mR 107, mI v1, mN, mL v3, mN, mI v5, mN, mN] [mI s0] h cV pT (F_M_define_28  v1 v3 v5 s0 h) := by
  unfold F_M_define_28
  refine z_go (fun Q hq => x_istore (dA d_M_define 17 rfl) (by decide) rfl (x_lload_n (dA d_M_define 18 rfl) rfl rfl (x_lconst (v := 0) (dA d_M_define 19 rfl) rfl (x_lcmp (dA d_M_define 20 rfl) hq)))) ?_
  refine z_br (fun Q => x_if_eq (dA d_M_define 21 rfl) rfl (inR_lgI _ _)) (fun c47 => ?_) (fun c47 => ?_)
  · exact z_retv (dA d_M_define 38 rfl) rfl
  · refine z_go (fun Q hq => x_aload_n (dA d_M_define 22 rfl) rfl rfl (x_iload (dA d_M_define 23 rfl) rfl (x_bipush (dA d_M_define 24 rfl) (by decide) hq))) ?_
    refine z_br (fun Q => x_icmp_gt (dA d_M_define 25 rfl) rfl rv5 (inR_lit (40 : Int) rfl)) (fun c48 => ?_) (fun c48 => ?_)
    · exact S_M_define_62 hd  L rv1 rv5 rs0
    · refine z_go (fun Q hq => x_iload (dA d_M_define 26 rfl) rfl hq) ?_
      refine z_br (fun Q => x_if_ge (dA d_M_define 27 rfl) rfl rs0) (fun c49 => ?_) (fun c49 => ?_)
      · exact S_M_define_58 hd  L rv1 rv5 rs0
      · refine z_go (fun Q hq => x_aload_n (dA d_M_define 28 rfl) rfl rfl (x_getI (dA d_M_define 29 rfl) f_M_205 (L.sh (x := (12, 66)) rfl) (by decide) (by decide) rfl (x_bipush (dA d_M_define 30 rfl) (by decide) hq))) ?_
        refine z_br (fun Q => x_icmp_ge (dA d_M_define 31 rfl) rfl (L.rg _ _) (inR_lit (10 : Int) rfl)) (fun c50 => ?_) (fun c50 => ?_)
        · exact S_M_define_62 hd  L rv1 rv5 rs0
        · exact S_M_define_58 hd  L rv1 rv5 rs0
noncomputable def F_M_define (a1 : Int) (a2 : Int) (h : MH) : RS Unit := bnd (F_M_wordOf a1 (0 : Int) h) fun x53 h51 => bnd (F_M_size a1 (1 : Int) h51) fun x58 h56 => if a2 = 0 then bnd (F_M_latest x53 h56) fun x64 h62 => F_M_define_28 a1 x53 x58 x64 h62 else F_M_define_28 a1 x53 x58 (-1 : Int) h56
theorem S_M_define {d : Nat} (hd : 3 ≤ d) {a1 : Int} {a2 : Int} {h : MH} (L : LayC h) (ra1 : inR a1) (ra2 : p01 a2) : OK d k_M_define 0 [mR 107, mI a1, mI a2, mN, mN, mN, mN, mN] [] h cV pT (F_M_define  a1 a2 h) := by
  unfold F_M_define
  refine z_go (fun Q hq => x_aload_n (dA d_M_define 0 rfl) rfl rfl (x_iload_n (dA d_M_define 1 rfl) rfl rfl (x_iconst (dA d_M_define 2 rfl) hq))) ?_
  refine z_bnd (rest := []) (st1 := fun v => mL v :: []) (S_M_wordOf (d := 2) (Nat.le_refl _) L ra1 (inR_lit (0 : Int) rfl)) (fun _ hx => absurd hx List.not_mem_nil) (fun _ => rfl) (fun Q' Q => x_callV (as := [mI a1, mI (0 : Int)]) (rest := []) (k' := k_M_wordOf) (dA d_M_define 3 rfl) o_M_wordOf lk_M_214 im_M_wordOf se_M_wordOf rfl (L.sh (x := (12, 66)) rfl) (by decide) (Nat.le_of_ble_eq_true rfl) (Nat.le_trans (Nat.le_of_ble_eq_true rfl) hd) (Nat.le_of_ble_eq_true rfl)) (fun x53 h51 e52 p54 => ?_)
  have L55 := L.ext e52
  refine z_go (fun Q hq => x_lstore_n (dA d_M_define 4 rfl) rfl (by decide) rfl (x_aload_n (dA d_M_define 5 rfl) rfl rfl (x_iload_n (dA d_M_define 6 rfl) rfl rfl (x_iconst (dA d_M_define 7 rfl) hq)))) ?_
  refine z_bnd (rest := []) (st1 := fun v => mI v :: []) (S_M_size (d := 1) (Nat.le_refl _) L55 ra1 (inR_lit (1 : Int) rfl)) (fun _ hx => absurd hx List.not_mem_nil) (fun _ => rfl) (fun Q' Q => x_callV (as := [mI a1, mI (1 : Int)]) (rest := []) (k' := k_M_size) (dA d_M_define 8 rfl) o_M_size lk_M_208 im_M_size se_M_size rfl (L55.sh (x := (12, 66)) rfl) (by decide) (Nat.le_of_ble_eq_true rfl) (Nat.le_trans (Nat.le_of_ble_eq_true rfl) hd) (Nat.le_of_ble_eq_true rfl)) (fun x58 h56 e57 p59 => ?_)
  have L60 := L55.ext e57
  refine z_go (fun Q hq => x_istore (dA d_M_define 9 rfl) (by decide) rfl (x_iload_n (dA d_M_define 10 rfl) rfl rfl hq)) ?_
  refine z_br (fun Q => x_if_eq (dA d_M_define 11 rfl) rfl ra2.inR) (fun c61 => ?_) (fun c61 => ?_)
  · refine z_go (fun Q hq => x_aload_n (dA d_M_define 14 rfl) rfl rfl (x_lload_n (dA d_M_define 15 rfl) rfl rfl hq)) ?_
    refine z_bnd (rest := []) (st1 := fun v => mI v :: []) (S_M_latest (d := 0) (Nat.le_refl _) L60 ) (fun _ hx => absurd hx List.not_mem_nil) (fun _ => rfl) (fun Q' Q => x_callV (as := [mL x53]) (rest := []) (k' := k_M_latest) (dA d_M_define 16 rfl) o_M_latest lk_M_218 im_M_latest se_M_latest rfl (L60.sh (x := (12, 66)) rfl) (by decide) (Nat.le_of_ble_eq_true rfl) (Nat.le_trans (Nat.le_of_ble_eq_true rfl) hd) (Nat.le_of_ble_eq_true rfl)) (fun x64 h62 e63 p65 => ?_)
    have L66 := L60.ext e63
    refine z_fgt (ls' := [mR 107, mI a1, mN, mL x53, mN, mI x58, mN, mN]) ⟨.inr rfl, .inr rfl, .inl rfl, .inr rfl, .inl rfl, .inr rfl, .inl rfl, .inl rfl, trivial⟩ ?_
    exact S_M_define_28 hd  L66 ra1 p59 p65
  · refine z_go (fun Q hq => x_iconst (dA d_M_define 12 rfl) (x_goto (dA d_M_define 13 rfl) rfl hq)) ?_
    refine z_fgt (ls' := [mR 107, mI a1, mN, mL x53, mN, mI x58, mN, mN]) ⟨.inr rfl, .inr rfl, .inl rfl, .inr rfl, .inl rfl, .inr rfl, .inl rfl, .inl rfl, trivial⟩ ?_
    exact S_M_define_28 hd  L60 ra1 p59 (inR_lit (-1 : Int) rfl)
/-! TwoMillsModel.popDefinition(I)V -/
noncomputable def F_M_popDefinition_40 (G4 : Int → Int → Int → MH → RS Unit) (v1 : Int) (v3 : Int) (s0 : Int) (s1 : Int) (h : MH) : RS Unit := gd (inR (s0 + s1)) (gd (inR (v3 + (1 : Int))) (G4 v1 (s0 + s1) (v3 + (1 : Int)) h))
theorem S_M_popDefinition_40 {d : Nat} (hd : 0 ≤ d) {G4 : Int → Int → Int → MH → RS Unit} (hG4 : ∀ (v1 : Int) (v2 : Int) (v3 : Int) (h : MH), LayC h → inR v1 → inR v2 → inR v3 → OK d k_M_popDefinition 4 [mR 107, mI v1, mI v2, mI v3, mN] [] h cV pT (G4 v1 v2 v3 h)) {v1 : Int} {v3 : Int} {s0 : Int} {s1 : Int} {h : MH} (L : LayC h) (rv1 : inR v1) (rv3 : inR v3) (rs0 : inR s0) (rs1 : inR s1) : OK d k_M_popDefinition 40 [mR 107, mI v1, mN, mI v3, mN] [mI s1, mI s0] h cV pT (F_M_popDefinition_40 G4 v1 v3 s0 s1 h) := by
  unfold F_M_popDefinition_40
  refine z_gd (fun g1 => ?_)
  refine z_go (fun Q hq => x_iadd (dA d_M_popDefinition 25 rfl) (x_istore_n (dA d_M_popDefinition 26 rfl) rfl (by decide) rfl hq)) ?_
  refine z_gd (fun g2 => ?_)
  refine z_go (fun Q hq => x_iinc (dA d_M_popDefinition 27 rfl) rfl (by decide) rfl (x_goto (dA d_M_popDefinition 28 rfl) rfl hq)) ?_
  exact hG4 v1 (s0 + s1) (v3 + (1 : Int)) h L rv1 g1 g2
noncomputable def F_M_popDefinition_4_b (G4 : Int → Int → Int → MH → RS Unit) (v1 : Int) (v2 : Int) (v3 : Int) (h : MH) : RS Unit := if (mGi h 107 6) ≤ v3 then sto (mPi h 107 6 v2) fun h4 => some (.inl (), h4) else gd (0 ≤ v3 ∧ v3 < 10) (gd (0 ≤ v2 ∧ v2 < 10) (sto (mPi h 116 v2.toNat (mGi h 116 v3.toNat)) fun h9 => if (mGi h 116 v3.toNat) = v1 then F_M_popDefinition_40 G4 v1 v3 v2 (0 : Int) h9 else F_M_popDefinition_40 G4 v1 v3 v2 (1 : Int) h9))
theorem S_M_popDefinition_4_b {d : Nat} (hd : 0 ≤ d) {G4 : Int → Int → Int → MH → RS Unit} (hG4 : ∀ (v1 : Int) (v2 : Int) (v3 : Int) (h : MH), LayC h → inR v1 → inR v2 → inR v3 → OK d k_M_popDefinition 4 [mR 107, mI v1, mI v2, mI v3, mN] [] h cV pT (G4 v1 v2 v3 h)) {v1 : Int} {v2 : Int} {v3 : Int} {h : MH} (L : LayC h) (rv1 : inR v1) (rv2 : inR v2) (rv3 : inR v3) : OK d k_M_popDefinition 4 [mR 107, mI v1, mI v2, mI v3, mN] [] h cV pT (F_M_popDefinition_4_b G4 v1 v2 v3 h) := by
  unfold F_M_popDefinition_4_b
  refine z_go (fun Q hq => x_iload_n (dA d_M_popDefinition 4 rfl) rfl rfl (x_aload_n (dA d_M_popDefinition 5 rfl) rfl rfl (x_getI (dA d_M_popDefinition 6 rfl) f_M_205 (L.sh (x := (12, 66)) rfl) (by decide) (by decide) rfl hq))) ?_
  refine z_br (fun Q => x_icmp_ge (dA d_M_popDefinition 7 rfl) rfl rv3 (L.rg _ _)) (fun c3 => ?_) (fun c3 => ?_)
  · refine z_go (fun Q hq => x_aload_n (dA d_M_popDefinition 29 rfl) rfl rfl (x_iload_n (dA d_M_popDefinition 30 rfl) rfl rfl hq)) ?_
    refine z_sto (Ext.pi (L.sh (x := (12, 66)) rfl) (by decide) rv2) (fun Q hq => x_putI (dA d_M_popDefinition 31 rfl) p_M_205 (L.sh (x := (12, 66)) rfl) (by decide) cl_M rfl hq) (fun h4 e5 => ?_)
    have L6 := L.ext e5
    exact z_retv (dA d_M_popDefinition 32 rfl) rfl
  · refine z_go (fun Q hq => x_aload_n (dA d_M_popDefinition 8 rfl) rfl rfl (x_getR (dA d_M_popDefinition 9 rfl) f_M_36 (L.sh (x := (12, 66)) rfl) (by decide) (by decide) rfl (L.rf 117 rfl) (x_iload_n (dA d_M_popDefinition 10 rfl) rfl rfl hq))) ?_
    refine z_gd (fun g7 => ?_)
    refine z_go (fun Q hq => x_iald (dA d_M_popDefinition 11 rfl) (L.sh (x := (100, 10)) rfl) g7.1 g7.2 (by decide) (x_istore (dA d_M_popDefinition 12 rfl) (by decide) rfl (x_aload_n (dA d_M_popDefinition 13 rfl) rfl rfl (x_getR (dA d_M_popDefinition 14 rfl) f_M_36 (L.sh (x := (12, 66)) rfl) (by decide) (by decide) rfl (L.rf 117 rfl) (x_iload_n (dA d_M_popDefinition 15 rfl) rfl rfl (x_iload (dA d_M_popDefinition 16 rfl) rfl hq)))))) ?_
    refine z_gd (fun g8 => ?_)
    refine z_sto (Ext.pi (L.sh (x := (100, 10)) rfl) (by decide) (L.rg _ _)) (fun Q hq => x_iast (dA d_M_popDefinition 17 rfl) (L.sh (x := (100, 10)) rfl) g8.1 g8.2 (by decide) hq) (fun h9 e10 => ?_)
    have L11 := L.ext e10
    refine z_go (fun Q hq => x_iload_n (dA d_M_popDefinition 18 rfl) rfl rfl (x_iload (dA d_M_popDefinition 19 rfl) rfl (x_iload_n (dA d_M_popDefinition 20 rfl) rfl rfl hq))) ?_
    refine z_brn (fun Q => x_icmp_ne (dA d_M_popDefinition 21 rfl) rfl (L.rg _ _) rv1) (fun c12 => ?_) (fun c12 => ?_)
    · refine z_go (fun Q hq => x_iconst (dA d_M_popDefinition 22 rfl) (x_goto (dA d_M_popDefinition 23 rfl) rfl hq)) ?_
      refine z_fgt (ls' := [mR 107, mI v1, mN, mI v3, mN]) ⟨.inr rfl, .inr rfl, .inl rfl, .inr rfl, .inl rfl, trivial⟩ ?_
      exact S_M_popDefinition_40 hd hG4 L11 rv1 rv3 rv2 (inR_lit (0 : Int) rfl)
    · refine z_go (fun Q hq => x_iconst (dA d_M_popDefinition 24 rfl) hq) ?_
      refine z_fgt (ls' := [mR 107, mI v1, mN, mI v3, mN]) ⟨.inr rfl, .inr rfl, .inl rfl, .inr rfl, .inl rfl, trivial⟩ ?_
      exact S_M_popDefinition_40 hd hG4 L11 rv1 rv3 rv2 (inR_lit (1 : Int) rfl)
noncomputable def F_M_popDefinition_4 (v1 : Int) (v2 : Int) (v3 : Int) (h : MH) : RS Unit := itr (fun self (q : Int × Int × Int × MH) => F_M_popDefinition_4_b (fun v1 v2 v3 h => self (v1, v2, v3, h)) q.1 q.2.1 q.2.2.1 q.2.2.2) FU (v1, v2, v3, h)
theorem S_M_popDefinition_4 {d : Nat} (hd : 0 ≤ d) {v1 : Int} {v2 : Int} {v3 : Int} {h : MH} (L : LayC h) (rv1 : inR v1) (rv2 : inR v2) (rv3 : inR v3) : OK d k_M_popDefinition 4 [mR 107, mI v1, mI v2, mI v3, mN] [] h cV pT (F_M_popDefinition_4  v1 v2 v3 h) := by
  unfold F_M_popDefinition_4
  refine z_itr (P := fun q : Int × Int × Int × MH => LayC q.2.2.2 ∧ inR q.1 ∧ inR q.2.1 ∧ inR q.2.2.1 ∧ True) (ls := fun q : Int × Int × Int × MH => [mR 107, mI q.1, mI q.2.1, mI q.2.2.1, mN]) (hp := fun q : Int × Int × Int × MH => q.2.2.2) (fun self hs q hq => ?_) FU (v1, v2, v3, h) ⟨L, rv1, rv2, rv3, trivial⟩
  exact S_M_popDefinition_4_b hd (fun v1 v2 v3 h L rv1 rv2 rv3 => hs (v1, v2, v3, h) ⟨L, rv1, rv2, rv3, trivial⟩) hq.1 hq.2.1 hq.2.2.1 hq.2.2.2.1
noncomputable def F_M_popDefinition (a1 : Int) (h : MH) : RS Unit := F_M_popDefinition_4 a1 (0 : Int) (0 : Int) h
theorem S_M_popDefinition {d : Nat} (hd : 0 ≤ d) {a1 : Int} {h : MH} (L : LayC h) (ra1 : inR a1) : OK d k_M_popDefinition 0 [mR 107, mI a1, mN, mN, mN] [] h cV pT (F_M_popDefinition  a1 h) := by
  unfold F_M_popDefinition
  refine z_go (fun Q hq => x_iconst (dA d_M_popDefinition 0 rfl) (x_istore_n (dA d_M_popDefinition 1 rfl) rfl (by decide) rfl (x_iconst (dA d_M_popDefinition 2 rfl) (x_istore_n (dA d_M_popDefinition 3 rfl) rfl (by decide) rfl hq)))) ?_
  exact S_M_popDefinition_4 hd  L ra1 (inR_lit (0 : Int) rfl) (inR_lit (0 : Int) rfl)
/-! TwoMillsModel.comeName(J)V -/
noncomputable def F_M_comeName_2_b (G2 : Int64 → Int → MH → RS Unit) (v1 : Int64) (v3 : Int) (h : MH) : RS Unit := if (8 : Int) ≤ v3 then some (.inl (), h) else gd (inR ((8 : Int) * v3)) (if (lgI ((v1 >>> ((Int32.ofInt ((8 : Int) * v3)).toInt64 &&& 63)) &&& (255 : Int64)) (0 : Int64)) = 0 then some (.inl (), h) else bnd (F_M_come (((v1 >>> ((Int32.ofInt ((8 : Int) * v3)).toInt64 &&& 63)) &&& (255 : Int64)).toInt32.toInt) h) fun x6 h4 => gd (inR (v3 + (1 : Int))) (G2 v1 (v3 + (1 : Int)) h4))
theorem S_M_comeName_2_b {d : Nat} (hd : 1 ≤ d) {G2 : Int64 → Int → MH → RS Unit} (hG2 : ∀ (v1 : Int64) (v3 : Int) (h : MH), LayC h → inR v3 → OK d k_M_comeName 2 [mR 107, mL v1, mN, mI v3] [] h cV pT (G2 v1 v3 h)) {v1 : Int64} {v3 : Int} {h : MH} (L : LayC h) (rv3 : inR v3) : OK d k_M_comeName 2 [mR 107, mL v1, mN, mI v3] [] h cV pT (F_M_comeName_2_b G2 v1 v3 h) := by
  unfold F_M_comeName_2_b
  refine z_go (fun Q hq => x_iload_n (dA d_M_comeName 2 rfl) rfl rfl (x_bipush (dA d_M_comeName 3 rfl) (by decide) hq)) ?_
  refine z_br (fun Q => x_icmp_ge (dA d_M_comeName 4 rfl) rfl rv3 (inR_lit (8 : Int) rfl)) (fun c1 => ?_) (fun c1 => ?_)
  · exact z_retv (dA d_M_comeName 27 rfl) rfl
  · refine z_go (fun Q hq => x_lload_n (dA d_M_comeName 5 rfl) rfl rfl (x_bipush (dA d_M_comeName 6 rfl) (by decide) (x_iload_n (dA d_M_comeName 7 rfl) rfl rfl hq))) ?_
    refine z_gd (fun g2 => ?_)
    refine z_go (fun Q hq => x_imul (dA d_M_comeName 8 rfl) (x_lshr (dA d_M_comeName 9 rfl) (x_ldc2 (dA d_M_comeName 10 rfl) kl_M_163 (x_land (dA d_M_comeName 11 rfl) (x_lconst (v := 0) (dA d_M_comeName 12 rfl) rfl (x_lcmp (dA d_M_comeName 13 rfl) hq)))))) ?_
    refine z_br (fun Q => x_if_eq (dA d_M_comeName 14 rfl) rfl (inR_lgI _ _)) (fun c3 => ?_) (fun c3 => ?_)
    · exact z_retv (dA d_M_comeName 27 rfl) rfl
    · refine z_go (fun Q hq => x_aload_n (dA d_M_comeName 15 rfl) rfl rfl (x_lload_n (dA d_M_comeName 16 rfl) rfl rfl (x_bipush (dA d_M_comeName 17 rfl) (by decide) (x_iload_n (dA d_M_comeName 18 rfl) rfl rfl (x_imul (dA d_M_comeName 19 rfl) (x_lshr (dA d_M_comeName 20 rfl) (x_ldc2 (dA d_M_comeName 21 rfl) kl_M_163 (x_land (dA d_M_comeName 22 rfl) (x_l2i (dA d_M_comeName 23 rfl) hq))))))))) ?_
      refine z_bnd (rest := []) (st1 := fun _ => []) (S_M_come (d := 0) (Nat.le_refl _) L (inR_32 _)) (fun _ hx => absurd hx List.not_mem_nil) (fun _ => rfl) (fun Q' Q => x_callV (as := [mI (((v1 >>> ((Int32.ofInt ((8 : Int) * v3)).toInt64 &&& 63)) &&& (255 : Int64)).toInt32.toInt)]) (rest := []) (k' := k_M_come) (dA d_M_comeName 24 rfl) o_M_come lk_M_195 im_M_come se_M_come rfl (L.sh (x := (12, 66)) rfl) (by decide) (Nat.le_of_ble_eq_true rfl) (Nat.le_trans (Nat.le_of_ble_eq_true rfl) hd) (Nat.le_of_ble_eq_true rfl)) (fun x6 h4 e5 p7 => ?_)
      have L8 := L.ext e5
      refine z_gd (fun g9 => ?_)
      refine z_go (fun Q hq => x_iinc (dA d_M_comeName 25 rfl) rfl (by decide) rfl (x_goto (dA d_M_comeName 26 rfl) rfl hq)) ?_
      exact hG2 v1 (v3 + (1 : Int)) h4 L8 g9
noncomputable def F_M_comeName_2 (v1 : Int64) (v3 : Int) (h : MH) : RS Unit := itr (fun self (q : Int64 × Int × MH) => F_M_comeName_2_b (fun v1 v3 h => self (v1, v3, h)) q.1 q.2.1 q.2.2) FU (v1, v3, h)
theorem S_M_comeName_2 {d : Nat} (hd : 1 ≤ d) {v1 : Int64} {v3 : Int} {h : MH} (L : LayC h) (rv3 : inR v3) : OK d k_M_comeName 2 [mR 107, mL v1, mN, mI v3] [] h cV pT (F_M_comeName_2  v1 v3 h) := by
  unfold F_M_comeName_2
  refine z_itr (P := fun q : Int64 × Int × MH => LayC q.2.2 ∧ inR q.2.1 ∧ True) (ls := fun q : Int64 × Int × MH => [mR 107, mL q.1, mN, mI q.2.1]) (hp := fun q : Int64 × Int × MH => q.2.2) (fun self hs q hq => ?_) FU (v1, v3, h) ⟨L, rv3, trivial⟩
  exact S_M_comeName_2_b hd (fun v1 v3 h L rv3 => hs (v1, v3, h) ⟨L, rv3, trivial⟩) hq.1 hq.2.1
noncomputable def F_M_comeName (a1 : Int64) (h : MH) : RS Unit := F_M_comeName_2 a1 (0 : Int) h
theorem S_M_comeName {d : Nat} (hd : 1 ≤ d) {a1 : Int64} {h : MH} (L : LayC h) : OK d k_M_comeName 0 [mR 107, mL a1, mN, mN] [] h cV pT (F_M_comeName  a1 h) := by
  unfold F_M_comeName
  refine z_go (fun Q hq => x_iconst (dA d_M_comeName 0 rfl) (x_istore_n (dA d_M_comeName 1 rfl) rfl (by decide) rfl hq)) ?_
  exact S_M_comeName_2 hd  L (inR_lit (0 : Int) rfl)
/-! TwoMillsModel.comeText(III)V -/
noncomputable def F_M_comeText_161 (G3 : Int → Int → Int → Int → MH → RS Unit) (v1 : Int) (v2 : Int) (v3 : Int) (s0 : Int) (s1 : Int) (h : MH) : RS Unit := gd (inR (s0 + s1)) (gd (inR ((s0 + s1) + (1 : Int))) (G3 v1 v2 v3 ((s0 + s1) + (1 : Int)) h))
theorem S_M_comeText_161 {d : Nat} (hd : 2 ≤ d) {G3 : Int → Int → Int → Int → MH → RS Unit} (hG3 : ∀ (v1 : Int) (v2 : Int) (v3 : Int) (v4 : Int) (h : MH), LayC h → inR v1 → inR v2 → inR v3 → inR v4 → OK d k_M_comeText 3 [mR 107, mI v1, mI v2, mI v3, mI v4, mN, mN, mN] [] h cV pT (G3 v1 v2 v3 v4 h)) {v1 : Int} {v2 : Int} {v3 : Int} {s0 : Int} {s1 : Int} {h : MH} (L : LayC h) (rv1 : inR v1) (rv2 : inR v2) (rv3 : inR v3) (rs0 : inR s0) (rs1 : inR s1) : OK d k_M_comeText 161 [mR 107, mI v1, mI v2, mI v3, mN, mN, mN, mN] [mI s1, mI s0] h cV pT (F_M_comeText_161 G3 v1 v2 v3 s0 s1 h) := by
  unfold F_M_comeText_161
  refine z_gd (fun g1 => ?_)
  refine z_go (fun Q hq => x_iadd (dA d_M_comeText 86 rfl) (x_istore (dA d_M_comeText 87 rfl) (by decide) rfl hq)) ?_
  refine z_gd (fun g2 => ?_)
  refine z_go (fun Q hq => x_iinc (dA d_M_comeText 88 rfl) rfl (by decide) rfl (x_goto (dA d_M_comeText 89 rfl) rfl hq)) ?_
  exact hG3 v1 v2 v3 ((s0 + s1) + (1 : Int)) h L rv1 rv2 rv3 g2
noncomputable def F_M_comeText_149 (G3 : Int → Int → Int → Int → MH → RS Unit) (v1 : Int) (v2 : Int) (v3 : Int) (v4 : Int) (v7 : Int) (h : MH) : RS Unit := if v7 = 0 then F_M_comeText_161 G3 v1 v2 v3 v4 (0 : Int) h else F_M_comeText_161 G3 v1 v2 v3 v4 (1 : Int) h
theorem S_M_comeText_149 {d : Nat} (hd : 2 ≤ d) {G3 : Int → Int → Int → Int → MH → RS Unit} (hG3 : ∀ (v1 : Int) (v2 : Int) (v3 : Int) (v4 : Int) (h : MH), LayC h → inR v1 → inR v2 → inR v3 → inR v4 → OK d k_M_comeText 3 [mR 107, mI v1, mI v2, mI v3, mI v4, mN, mN, mN] [] h cV pT (G3 v1 v2 v3 v4 h)) {v1 : Int} {v2 : Int} {v3 : Int} {v4 : Int} {v7 : Int} {h : MH} (L : LayC h) (rv1 : inR v1) (rv2 : inR v2) (rv3 : inR v3) (rv4 : inR v4) (rv7 : inR v7) : OK d k_M_comeText 149 [mR 107, mI v1, mI v2, mI v3, mI v4, mN, mN, mI v7] [] h cV pT (F_M_comeText_149 G3 v1 v2 v3 v4 v7 h) := by
  unfold F_M_comeText_149
  refine z_go (fun Q hq => x_iload (dA d_M_comeText 80 rfl) rfl (x_iload (dA d_M_comeText 81 rfl) rfl hq)) ?_
  refine z_br (fun Q => x_if_eq (dA d_M_comeText 82 rfl) rfl rv7) (fun c3 => ?_) (fun c3 => ?_)
  · refine z_go (fun Q hq => x_iconst (dA d_M_comeText 85 rfl) hq) ?_
    refine z_fgt (ls' := [mR 107, mI v1, mI v2, mI v3, mN, mN, mN, mN]) ⟨.inr rfl, .inr rfl, .inr rfl, .inr rfl, .inl rfl, .inl rfl, .inl rfl, .inl rfl, trivial⟩ ?_
    exact S_M_comeText_161 hd hG3 L rv1 rv2 rv3 rv4 (inR_lit (0 : Int) rfl)
  · refine z_go (fun Q hq => x_iconst (dA d_M_comeText 83 rfl) (x_goto (dA d_M_comeText 84 rfl) rfl hq)) ?_
    refine z_fgt (ls' := [mR 107, mI v1, mI v2, mI v3, mN, mN, mN, mN]) ⟨.inr rfl, .inr rfl, .inr rfl, .inr rfl, .inl rfl, .inl rfl, .inl rfl, .inl rfl, trivial⟩ ?_
    exact S_M_comeText_161 hd hG3 L rv1 rv2 rv3 rv4 (inR_lit (1 : Int) rfl)
noncomputable def F_M_comeText_88 (G3 : Int → Int → Int → Int → MH → RS Unit) (v1 : Int) (v2 : Int) (v3 : Int) (v4 : Int) (v5 : Int) (v6 : Int) (s0 : Int) (h : MH) : RS Unit := if s0 = 0 then bnd (F_M_come v5 h) fun x7 h5 => F_M_comeText_149 G3 v1 v2 v3 v4 s0 h5 else if v6 = (35 : Int) then bnd (F_M_comeNumber v3 h) fun x13 h11 => F_M_comeText_149 G3 v1 v2 v3 v4 s0 h11 else if v6 = (48 : Int) then gd (0 ≤ v1 ∧ v1 < 16) (bnd (F_M_comeName (mGl h 114 v1.toNat) h) fun x20 h18 => F_M_comeText_149 G3 v1 v2 v3 v4 s0 h18) else gd (inR (v6 - (49 : Int))) (bnd (F_M_comeArgument v2 (v6 - (49 : Int)) h) fun x26 h24 => F_M_comeText_149 G3 v1 v2 v3 v4 s0 h24)
theorem S_M_comeText_88 {d : Nat} (hd : 2 ≤ d) {G3 : Int → Int → Int → Int → MH → RS Unit} (hG3 : ∀ (v1 : Int) (v2 : Int) (v3 : Int) (v4 : Int) (h : MH), LayC h → inR v1 → inR v2 → inR v3 → inR v4 → OK d k_M_comeText 3 [mR 107, mI v1, mI v2, mI v3, mI v4, mN, mN, mN] [] h cV pT (G3 v1 v2 v3 v4 h)) {v1 : Int} {v2 : Int} {v3 : Int} {v4 : Int} {v5 : Int} {v6 : Int} {s0 : Int} {h : MH} (L : LayC h) (rv1 : inR v1) (rv2 : inR v2) (rv3 : inR v3) (rv4 : inR v4) (rv5 : inR v5) (rv6 : inR v6) (rs0 : inR s0) : OK d k_M_comeText 88 [mR 107, mI v1, mI v2, mI v3, mI v4, mI v5, mI v6, mN] [mI s0] h cV pT (F_M_comeText_88 G3 v1 v2 v3 v4 v5 v6 s0 h) := by
  unfold F_M_comeText_88
  refine z_go (fun Q hq => x_istore (dA d_M_comeText 50 rfl) (by decide) rfl (x_iload (dA d_M_comeText 51 rfl) rfl hq)) ?_
  refine z_brn (fun Q => x_if_ne (dA d_M_comeText 52 rfl) rfl rs0) (fun c4 => ?_) (fun c4 => ?_)
  · refine z_go (fun Q hq => x_aload_n (dA d_M_comeText 53 rfl) rfl rfl (x_iload (dA d_M_comeText 54 rfl) rfl hq)) ?_
    refine z_bnd (rest := []) (st1 := fun _ => []) (S_M_come (d := 0) (Nat.le_refl _) L rv5) (fun _ hx => absurd hx List.not_mem_nil) (fun _ => rfl) (fun Q' Q => x_callV (as := [mI v5]) (rest := []) (k' := k_M_come) (dA d_M_comeText 55 rfl) o_M_come lk_M_195 im_M_come se_M_come rfl (L.sh (x := (12, 66)) rfl) (by decide) (Nat.le_of_ble_eq_true rfl) (Nat.le_trans (Nat.le_of_ble_eq_true rfl) hd) (Nat.le_of_ble_eq_true rfl)) (fun x7 h5 e6 p8 => ?_)
    have L9 := L.ext e6
    refine z_go (fun Q hq => x_goto (dA d_M_comeText 56 rfl) rfl hq) ?_
    refine z_fgt (ls' := [mR 107, mI v1, mI v2, mI v3, mI v4, mN, mN, mI s0]) ⟨.inr rfl, .inr rfl, .inr rfl, .inr rfl, .inr rfl, .inl rfl, .inl rfl, .inr rfl, trivial⟩ ?_
    exact S_M_comeText_149 hd hG3 L9 rv1 rv2 rv3 rv4 rs0
  · refine z_go (fun Q hq => x_iload (dA d_M_comeText 57 rfl) rfl (x_bipush (dA d_M_comeText 58 rfl) (by decide) hq)) ?_
    refine z_brn (fun Q => x_icmp_ne (dA d_M_comeText 59 rfl) rfl rv6 (inR_lit (35 : Int) rfl)) (fun c10 => ?_) (fun c10 => ?_)
    · refine z_go (fun Q hq => x_aload_n (dA d_M_comeText 60 rfl) rfl rfl (x_iload_n (dA d_M_comeText 61 rfl) rfl rfl hq)) ?_
      refine z_bnd (rest := []) (st1 := fun _ => []) (S_M_comeNumber (d := 1) (Nat.le_refl _) L rv3) (fun _ hx => absurd hx List.not_mem_nil) (fun _ => rfl) (fun Q' Q => x_callV (as := [mI v3]) (rest := []) (k' := k_M_comeNumber) (dA d_M_comeText 62 rfl) o_M_comeNumber lk_M_225 im_M_comeNumber se_M_comeNumber rfl (L.sh (x := (12, 66)) rfl) (by decide) (Nat.le_of_ble_eq_true rfl) (Nat.le_trans (Nat.le_of_ble_eq_true rfl) hd) (Nat.le_of_ble_eq_true rfl)) (fun x13 h11 e12 p14 => ?_)
      have L15 := L.ext e12
      refine z_go (fun Q hq => x_goto (dA d_M_comeText 63 rfl) rfl hq) ?_
      refine z_fgt (ls' := [mR 107, mI v1, mI v2, mI v3, mI v4, mN, mN, mI s0]) ⟨.inr rfl, .inr rfl, .inr rfl, .inr rfl, .inr rfl, .inl rfl, .inl rfl, .inr rfl, trivial⟩ ?_
      exact S_M_comeText_149 hd hG3 L15 rv1 rv2 rv3 rv4 rs0
    · refine z_go (fun Q hq => x_iload (dA d_M_comeText 64 rfl) rfl (x_bipush (dA d_M_comeText 65 rfl) (by decide) hq)) ?_
      refine z_brn (fun Q => x_icmp_ne (dA d_M_comeText 66 rfl) rfl rv6 (inR_lit (48 : Int) rfl)) (fun c16 => ?_) (fun c16 => ?_)
      · refine z_go (fun Q hq => x_aload_n (dA d_M_comeText 67 rfl) rfl rfl (x_aload_n (dA d_M_comeText 68 rfl) rfl rfl (x_getR (dA d_M_comeText 69 rfl) f_M_28 (L.sh (x := (12, 66)) rfl) (by decide) (by decide) rfl (L.rf 115 rfl) (x_iload_n (dA d_M_comeText 70 rfl) rfl rfl hq)))) ?_
        refine z_gd (fun g17 => ?_)
        refine z_go (fun Q hq => x_lald (dA d_M_comeText 71 rfl) (L.sh (x := (103, 16)) rfl) g17.1 g17.2 (by decide) hq) ?_
        refine z_bnd (rest := []) (st1 := fun _ => []) (S_M_comeName (d := 1) (Nat.le_refl _) L ) (fun _ hx => absurd hx List.not_mem_nil) (fun _ => rfl) (fun Q' Q => x_callV (as := [mL (mGl h 114 v1.toNat)]) (rest := []) (k' := k_M_comeName) (dA d_M_comeText 72 rfl) o_M_comeName lk_M_228 im_M_comeName se_M_comeName rfl (L.sh (x := (12, 66)) rfl) (by decide) (Nat.le_of_ble_eq_true rfl) (Nat.le_trans (Nat.le_of_ble_eq_true rfl) hd) (Nat.le_of_ble_eq_true rfl)) (fun x20 h18 e19 p21 => ?_)
        have L22 := L.ext e19
        refine z_go (fun Q hq => x_goto (dA d_M_comeText 73 rfl) rfl hq) ?_
        refine z_fgt (ls' := [mR 107, mI v1, mI v2, mI v3, mI v4, mN, mN, mI s0]) ⟨.inr rfl, .inr rfl, .inr rfl, .inr rfl, .inr rfl, .inl rfl, .inl rfl, .inr rfl, trivial⟩ ?_
        exact S_M_comeText_149 hd hG3 L22 rv1 rv2 rv3 rv4 rs0
      · refine z_go (fun Q hq => x_aload_n (dA d_M_comeText 74 rfl) rfl rfl (x_iload_n (dA d_M_comeText 75 rfl) rfl rfl (x_iload (dA d_M_comeText 76 rfl) rfl (x_bipush (dA d_M_comeText 77 rfl) (by decide) hq)))) ?_
        refine z_gd (fun g23 => ?_)
        refine z_go (fun Q hq => x_isub (dA d_M_comeText 78 rfl) hq) ?_
        refine z_bnd (rest := []) (st1 := fun _ => []) (S_M_comeArgument (d := 1) (Nat.le_refl _) L rv2 g23) (fun _ hx => absurd hx List.not_mem_nil) (fun _ => rfl) (fun Q' Q => x_callV (as := [mI v2, mI (v6 - (49 : Int))]) (rest := []) (k' := k_M_comeArgument) (dA d_M_comeText 79 rfl) o_M_comeArgument lk_M_232 im_M_comeArgument se_M_comeArgument rfl (L.sh (x := (12, 66)) rfl) (by decide) (Nat.le_of_ble_eq_true rfl) (Nat.le_trans (Nat.le_of_ble_eq_true rfl) hd) (Nat.le_of_ble_eq_true rfl)) (fun x26 h24 e25 p27 => ?_)
        have L28 := L.ext e25
        refine z_fgt (ls' := [mR 107, mI v1, mI v2, mI v3, mI v4, mN, mN, mI s0]) ⟨.inr rfl, .inr rfl, .inr rfl, .inr rfl, .inr rfl, .inl rfl, .inl rfl, .inr rfl, trivial⟩ ?_
        exact S_M_comeText_149 hd hG3 L28 rv1 rv2 rv3 rv4 rs0
noncomputable def F_M_comeText_87 (G3 : Int → Int → Int → Int → MH → RS Unit) (v1 : Int) (v2 : Int) (v3 : Int) (v4 : Int) (v5 : Int) (v6 : Int) (h : MH) : RS Unit := F_M_comeText_88 G3 v1 v2 v3 v4 v5 v6 (0 : Int) h
theorem S_M_comeText_87 {d : Nat} (hd : 2 ≤ d) {G3 : Int → Int → Int → Int → MH → RS Unit} (hG3 : ∀ (v1 : Int) (v2 : Int) (v3 : Int) (v4 : Int) (h : MH), LayC h → inR v1 → inR v2 → inR v3 → inR v4 → OK d k_M_comeText 3 [mR 107, mI v1, mI v2, mI v3, mI v4, mN, mN, mN] [] h cV pT (G3 v1 v2 v3 v4 h)) {v1 : Int} {v2 : Int} {v3 : Int} {v4 : Int} {v5 : Int} {v6 : Int} {h : MH} (L : LayC h) (rv1 : inR v1) (rv2 : inR v2) (rv3 : inR v3) (rv4 : inR v4) (rv5 : inR v5) (rv6 : inR v6) : OK d k_M_comeText 87 [mR 107, mI v1, mI v2, mI v3, mI v4, mI v5, mI v6, mN] [] h cV pT (F_M_comeText_87 G3 v1 v2 v3 v4 v5 v6 h) := by
  unfold F_M_comeText_87
  refine z_go (fun Q hq => x_iconst (dA d_M_comeText 49 rfl) hq) ?_
  exact S_M_comeText_88 hd hG3 L rv1 rv2 rv3 rv4 rv5 rv6 (inR_lit (0 : Int) rfl)
noncomputable def F_M_comeText_83 (G3 : Int → Int → Int → Int → MH → RS Unit) (v1 : Int) (v2 : Int) (v3 : Int) (v4 : Int) (v5 : Int) (v6 : Int) (h : MH) : RS Unit := F_M_comeText_88 G3 v1 v2 v3 v4 v5 v6 (1 : Int) h
theorem S_M_comeText_83 {d : Nat} (hd : 2 ≤ d) {G3 : Int → Int → Int → Int → MH → RS Unit} (hG3 : ∀ (v1 : Int) (v2 : Int) (v3 : Int) (v4 : Int) (h : MH), LayC h → inR v1 → inR v2 → inR v3 → inR v4 → OK d k_M_comeText 3 [mR 107, mI v1, mI v2, mI v3, mI v4, mN, mN, mN] [] h cV pT (G3 v1 v2 v3 v4 h)) {v1 : Int} {v2 : Int} {v3 : Int} {v4 : Int} {v5 : Int} {v6 : Int} {h : MH} (L : LayC h) (rv1 : inR v1) (rv2 : inR v2) (rv3 : inR v3) (rv4 : inR v4) (rv5 : inR v5) (rv6 : inR v6) : OK d k_M_comeText 83 [mR 107, mI v1, mI v2, mI v3, mI v4, mI v5, mI v6, mN] [] h cV pT (F_M_comeText_83 G3 v1 v2 v3 v4 v5 v6 h) := by
  unfold F_M_comeText_83
  refine z_go (fun Q hq => x_iconst (dA d_M_comeText 47 rfl) (x_goto (dA d_M_comeText 48 rfl) rfl hq)) ?_
  exact S_M_comeText_88 hd hG3 L rv1 rv2 rv3 rv4 rv5 rv6 (inR_lit (1 : Int) rfl)
noncomputable def F_M_comeText_59 (G3 : Int → Int → Int → Int → MH → RS Unit) (v1 : Int) (v2 : Int) (v3 : Int) (v4 : Int) (v5 : Int) (s0 : Int) (h : MH) : RS Unit := if v5 = (36 : Int) then bnd (F_M_isDigit s0 h) fun x32 h30 => if x32 = 0 then if s0 = (35 : Int) then F_M_comeText_83 G3 v1 v2 v3 v4 v5 s0 h30 else F_M_comeText_87 G3 v1 v2 v3 v4 v5 s0 h30 else F_M_comeText_83 G3 v1 v2 v3 v4 v5 s0 h30 else F_M_comeText_87 G3 v1 v2 v3 v4 v5 s0 h
theorem S_M_comeText_59 {d : Nat} (hd : 2 ≤ d) {G3 : Int → Int → Int → Int → MH → RS Unit} (hG3 : ∀ (v1 : Int) (v2 : Int) (v3 : Int) (v4 : Int) (h : MH), LayC h → inR v1 → inR v2 → inR v3 → inR v4 → OK d k_M_comeText 3 [mR 107, mI v1, mI v2, mI v3, mI v4, mN, mN, mN] [] h cV pT (G3 v1 v2 v3 v4 h)) {v1 : Int} {v2 : Int} {v3 : Int} {v4 : Int} {v5 : Int} {s0 : Int} {h : MH} (L : LayC h) (rv1 : inR v1) (rv2 : inR v2) (rv3 : inR v3) (rv4 : inR v4) (rv5 : inR v5) (rs0 : inR s0) : OK d k_M_comeText 59 [mR 107, mI v1, mI v2, mI v3, mI v4, mI v5, mN, mN] [mI s0] h cV pT (F_M_comeText_59 G3 v1 v2 v3 v4 v5 s0 h) := by
  unfold F_M_comeText_59
  refine z_go (fun Q hq => x_istore (dA d_M_comeText 37 rfl) (by decide) rfl (x_iload (dA d_M_comeText 38 rfl) rfl (x_bipush (dA d_M_comeText 39 rfl) (by decide) hq))) ?_
  refine z_brn (fun Q => x_icmp_ne (dA d_M_comeText 40 rfl) rfl rv5 (inR_lit (36 : Int) rfl)) (fun c29 => ?_) (fun c29 => ?_)
  · refine z_go (fun Q hq => x_iload (dA d_M_comeText 41 rfl) rfl hq) ?_
    refine z_bnd (rest := []) (st1 := fun v => mI v :: []) (S_M_isDigit (d := 0) (Nat.le_refl _) L rs0) (fun _ hx => absurd hx List.not_mem_nil) (fun _ => rfl) (fun Q' Q => x_callS (as := [mI s0]) (rest := []) (k' := k_M_isDigit) (dA d_M_comeText 42 rfl) o_M_isDigit lk_M_154 st_M_isDigit (Nat.le_of_ble_eq_true rfl) (Nat.le_trans (Nat.le_of_ble_eq_true rfl) hd) (Nat.le_of_ble_eq_true rfl)) (fun x32 h30 e31 p33 => ?_)
    have L34 := L.ext e31
    refine z_brn (fun Q => x_if_ne (dA d_M_comeText 43 rfl) rfl p33.inR) (fun c35 => ?_) (fun c35 => ?_)
    · refine z_go (fun Q hq => x_iload (dA d_M_comeText 44 rfl) rfl (x_bipush (dA d_M_comeText 45 rfl) (by decide) hq)) ?_
      refine z_brn (fun Q => x_icmp_ne (dA d_M_comeText 46 rfl) rfl rs0 (inR_lit (35 : Int) rfl)) (fun c36 => ?_) (fun c36 => ?_)
      · exact S_M_comeText_83 hd hG3 L34 rv1 rv2 rv3 rv4 rv5 rs0
      · exact S_M_comeText_87 hd hG3 L34 rv1 rv2 rv3 rv4 rv5 rs0
    · exact S_M_comeText_83 hd hG3 L34 rv1 rv2 rv3 rv4 rv5 rs0
  · exact S_M_comeText_87 hd hG3 L rv1 rv2 rv3 rv4 rv5 rs0
noncomputable def F_M_comeText_3_b (G3 : Int → Int → Int → Int → MH → RS Unit) (v1 : Int) (v2 : Int) (v3 : Int) (v4 : Int) (h : MH) : RS Unit := gd (0 ≤ v1 ∧ v1 < 16) (if (mGi h 115 v1.toNat) ≤ v4 then some (.inl (), h) else gd (inR ((40 : Int) * v1)) (gd (inR (((40 : Int) * v1) + v4)) (gd (0 ≤ (((40 : Int) * v1) + v4) ∧ (((40 : Int) * v1) + v4) < 640) (gd (inR (v4 + (1 : Int))) (if (mGi h 115 v1.toNat) ≤ (v4 + (1 : Int)) then F_M_comeText_59 G3 v1 v2 v3 v4 (mGi h 111 (((40 : Int) * v1) + v4).toNat) (0 : Int) h else gd (inR ((((40 : Int) * v1) + v4) + (1 : Int))) (gd (0 ≤ ((((40 : Int) * v1) + v4) + (1 : Int)) ∧ ((((40 : Int) * v1) + v4) + (1 : Int)) < 640) (F_M_comeText_59 G3 v1 v2 v3 v4 (mGi h 111 (((40 : Int) * v1) + v4).toNat) (mGi h 111 ((((40 : Int) * v1) + v4) + (1 : Int)).toNat) h)))))))
theorem S_M_comeText_3_b {d : Nat} (hd : 2 ≤ d) {G3 : Int → Int → Int → Int → MH → RS Unit} (hG3 : ∀ (v1 : Int) (v2 : Int) (v3 : Int) (v4 : Int) (h : MH), LayC h → inR v1 → inR v2 → inR v3 → inR v4 → OK d k_M_comeText 3 [mR 107, mI v1, mI v2, mI v3, mI v4, mN, mN, mN] [] h cV pT (G3 v1 v2 v3 v4 h)) {v1 : Int} {v2 : Int} {v3 : Int} {v4 : Int} {h : MH} (L : LayC h) (rv1 : inR v1) (rv2 : inR v2) (rv3 : inR v3) (rv4 : inR v4) : OK d k_M_comeText 3 [mR 107, mI v1, mI v2, mI v3, mI v4, mN, mN, mN] [] h cV pT (F_M_comeText_3_b G3 v1 v2 v3 v4 h) := by
  unfold F_M_comeText_3_b
  refine z_go (fun Q hq => x_iload (dA d_M_comeText 2 rfl) rfl (x_aload_n (dA d_M_comeText 3 rfl) rfl rfl (x_getR (dA d_M_comeText 4 rfl) f_M_32 (L.sh (x := (12, 66)) rfl) (by decide) (by decide) rfl (L.rf 116 rfl) (x_iload_n (dA d_M_comeText 5 rfl) rfl rfl hq)))) ?_
  refine z_gd (fun g37 => ?_)
  refine z_go (fun Q hq => x_iald (dA d_M_comeText 6 rfl) (L.sh (x := (100, 16)) rfl) g37.1 g37.2 (by decide) hq) ?_
  refine z_br (fun Q => x_icmp_ge (dA d_M_comeText 7 rfl) rfl rv4 (L.rg _ _)) (fun c38 => ?_) (fun c38 => ?_)
  · exact z_retv (dA d_M_comeText 90 rfl) rfl
  · refine z_go (fun Q hq => x_aload_n (dA d_M_comeText 8 rfl) rfl rfl (x_getR (dA d_M_comeText 9 rfl) f_M_19 (L.sh (x := (12, 66)) rfl) (by decide) (by decide) rfl (L.rf 112 rfl) (x_bipush (dA d_M_comeText 10 rfl) (by decide) (x_iload_n (dA d_M_comeText 11 rfl) rfl rfl hq)))) ?_
    refine z_gd (fun g39 => ?_)
    refine z_go (fun Q hq => x_imul (dA d_M_comeText 12 rfl) (x_iload (dA d_M_comeText 13 rfl) rfl hq)) ?_
    refine z_gd (fun g40 => ?_)
    refine z_go (fun Q hq => x_iadd (dA d_M_comeText 14 rfl) hq) ?_
    refine z_gd (fun g41 => ?_)
    refine z_go (fun Q hq => x_cald (dA d_M_comeText 15 rfl) (L.sh (x := (101, 640)) rfl) g41.1 g41.2 (by decide) (x_istore (dA d_M_comeText 16 rfl) (by decide) rfl (x_iload (dA d_M_comeText 17 rfl) rfl (x_iconst (dA d_M_comeText 18 rfl) hq)))) ?_
    refine z_gd (fun g42 => ?_)
    refine z_go (fun Q hq => x_iadd (dA d_M_comeText 19 rfl) (x_aload_n (dA d_M_comeText 20 rfl) rfl rfl (x_getR (dA d_M_comeText 21 rfl) f_M_32 (L.sh (x := (12, 66)) rfl) (by decide) (by decide) rfl (L.rf 116 rfl) (x_iload_n (dA d_M_comeText 22 rfl) rfl rfl (x_iald (dA d_M_comeText 23 rfl) (L.sh (x := (100, 16)) rfl) g37.1 g37.2 (by decide) hq))))) ?_
    refine z_br (fun Q => x_icmp_ge (dA d_M_comeText 24 rfl) rfl g42 (L.rg _ _)) (fun c43 => ?_) (fun c43 => ?_)
    · refine z_go (fun Q hq => x_iconst (dA d_M_comeText 36 rfl) hq) ?_
      exact S_M_comeText_59 hd hG3 L rv1 rv2 rv3 rv4 (L.rg _ _) (inR_lit (0 : Int) rfl)
    · refine z_go (fun Q hq => x_aload_n (dA d_M_comeText 25 rfl) rfl rfl (x_getR (dA d_M_comeText 26 rfl) f_M_19 (L.sh (x := (12, 66)) rfl) (by decide) (by decide) rfl (L.rf 112 rfl) (x_bipush (dA d_M_comeText 27 rfl) (by decide) (x_iload_n (dA d_M_comeText 28 rfl) rfl rfl (x_imul (dA d_M_comeText 29 rfl) (x_iload (dA d_M_comeText 30 rfl) rfl (x_iadd (dA d_M_comeText 31 rfl) (x_iconst (dA d_M_comeText 32 rfl) hq)))))))) ?_
      refine z_gd (fun g44 => ?_)
      refine z_go (fun Q hq => x_iadd (dA d_M_comeText 33 rfl) hq) ?_
      refine z_gd (fun g45 => ?_)
      refine z_go (fun Q hq => x_cald (dA d_M_comeText 34 rfl) (L.sh (x := (101, 640)) rfl) g45.1 g45.2 (by decide) (x_goto (dA d_M_comeText 35 rfl) rfl hq)) ?_
      exact S_M_comeText_59 hd hG3 L rv1 rv2 rv3 rv4 (L.rg _ _) (L.rg _ _)
noncomputable def F_M_comeText_3 (v1 : Int) (v2 : Int) (v3 : Int) (v4 : Int) (h : MH) : RS Unit := itr (fun self (q : Int × Int × Int × Int × MH) => F_M_comeText_3_b (fun v1 v2 v3 v4 h => self (v1, v2, v3, v4, h)) q.1 q.2.1 q.2.2.1 q.2.2.2.1 q.2.2.2.2) FU (v1, v2, v3, v4, h)
theorem S_M_comeText_3 {d : Nat} (hd : 2 ≤ d) {v1 : Int} {v2 : Int} {v3 : Int} {v4 : Int} {h : MH} (L : LayC h) (rv1 : inR v1) (rv2 : inR v2) (rv3 : inR v3) (rv4 : inR v4) : OK d k_M_comeText 3 [mR 107, mI v1, mI v2, mI v3, mI v4, mN, mN, mN] [] h cV pT (F_M_comeText_3  v1 v2 v3 v4 h) := by
  unfold F_M_comeText_3
  refine z_itr (P := fun q : Int × Int × Int × Int × MH => LayC q.2.2.2.2 ∧ inR q.1 ∧ inR q.2.1 ∧ inR q.2.2.1 ∧ inR q.2.2.2.1 ∧ True) (ls := fun q : Int × Int × Int × Int × MH => [mR 107, mI q.1, mI q.2.1, mI q.2.2.1, mI q.2.2.2.1, mN, mN, mN]) (hp := fun q : Int × Int × Int × Int × MH => q.2.2.2.2) (fun self hs q hq => ?_) FU (v1, v2, v3, v4, h) ⟨L, rv1, rv2, rv3, rv4, trivial⟩
  exact S_M_comeText_3_b hd (fun v1 v2 v3 v4 h L rv1 rv2 rv3 rv4 => hs (v1, v2, v3, v4, h) ⟨L, rv1, rv2, rv3, rv4, trivial⟩) hq.1 hq.2.1 hq.2.2.1 hq.2.2.2.1 hq.2.2.2.2.1
noncomputable def F_M_comeText (a1 : Int) (a2 : Int) (a3 : Int) (h : MH) : RS Unit := F_M_comeText_3 a1 a2 a3 (0 : Int) h
theorem S_M_comeText {d : Nat} (hd : 2 ≤ d) {a1 : Int} {a2 : Int} {a3 : Int} {h : MH} (L : LayC h) (ra1 : inR a1) (ra2 : inR a2) (ra3 : inR a3) : OK d k_M_comeText 0 [mR 107, mI a1, mI a2, mI a3, mN, mN, mN, mN] [] h cV pT (F_M_comeText  a1 a2 a3 h) := by
  unfold F_M_comeText
  refine z_go (fun Q hq => x_iconst (dA d_M_comeText 0 rfl) (x_istore (dA d_M_comeText 1 rfl) (by decide) rfl hq)) ?_
  exact S_M_comeText_3 hd  L ra1 ra2 ra3 (inR_lit (0 : Int) rfl)
/-! TwoMillsModel.areAlike(I)Z -/
noncomputable def F_M_areAlike_72 (G26 : Int → Int → Int → Int → MH → RS Int) (v1 : Int) (v2 : Int) (v4 : Int) (s0 : Int) (h : MH) : RS Int := gd (inR (v4 + (1 : Int))) (G26 v1 v2 s0 (v4 + (1 : Int)) h)
theorem S_M_areAlike_72 {d : Nat} (hd : 2 ≤ d) {G26 : Int → Int → Int → Int → MH → RS Int} (hG26 : ∀ (v1 : Int) (v2 : Int) (v3 : Int) (v4 : Int) (h : MH), LayC h → inR v1 → inR v2 → inR v3 → inR v4 → OK d k_M_areAlike 26 [mR 107, mI v1, mI v2, mI v3, mI v4] [] h cI p01 (G26 v1 v2 v3 v4 h)) {v1 : Int} {v2 : Int} {v4 : Int} {s0 : Int} {h : MH} (L : LayC h) (rv1 : inR v1) (rv2 : inR v2) (rv4 : inR v4) (rs0 : inR s0) : OK d k_M_areAlike 72 [mR 107, mI v1, mI v2, mN, mI v4] [mI s0] h cI p01 (F_M_areAlike_72 G26 v1 v2 v4 s0 h) := by
  unfold F_M_areAlike_72
  refine z_go (fun Q hq => x_istore_n (dA d_M_areAlike 44 rfl) rfl (by decide) rfl hq) ?_
  refine z_gd (fun g1 => ?_)
  refine z_go (fun Q hq => x_iinc (dA d_M_areAlike 45 rfl) rfl (by decide) rfl (x_goto (dA d_M_areAlike 46 rfl) rfl hq)) ?_
  exact hG26 v1 v2 s0 (v4 + (1 : Int)) h L rv1 rv2 rs0 g1
noncomputable def F_M_areAlike_26_b (G26 : Int → Int → Int → Int → MH → RS Int) (v1 : Int) (v2 : Int) (v3 : Int) (v4 : Int) (h : MH) : RS Int := if v2 ≤ v4 then gd (p01 v3) (some (.inl v3, h)) else if v3 = 0 then gd (p01 v3) (some (.inl v3, h)) else bnd (F_M_from v1 (0 : Int) h) fun x8 h6 => gd (inR (x8 + v4)) (gd (0 ≤ (x8 + v4) ∧ (x8 + v4) < 200) (bnd (F_M_from v1 (1 : Int) h6) fun x15 h13 => gd (inR (x15 + v4)) (gd (0 ≤ (x15 + v4) ∧ (x15 + v4) < 200) (if (mGi h6 112 (x8 + v4).toNat) = (mGi h13 112 (x15 + v4).toNat) then F_M_areAlike_72 G26 v1 v2 v4 (1 : Int) h13 else F_M_areAlike_72 G26 v1 v2 v4 (0 : Int) h13))))
theorem S_M_areAlike_26_b {d : Nat} (hd : 2 ≤ d) {G26 : Int → Int → Int → Int → MH → RS Int} (hG26 : ∀ (v1 : Int) (v2 : Int) (v3 : Int) (v4 : Int) (h : MH), LayC h → inR v1 → inR v2 → inR v3 → inR v4 → OK d k_M_areAlike 26 [mR 107, mI v1, mI v2, mI v3, mI v4] [] h cI p01 (G26 v1 v2 v3 v4 h)) {v1 : Int} {v2 : Int} {v3 : Int} {v4 : Int} {h : MH} (L : LayC h) (rv1 : inR v1) (rv2 : inR v2) (rv3 : inR v3) (rv4 : inR v4) : OK d k_M_areAlike 26 [mR 107, mI v1, mI v2, mI v3, mI v4] [] h cI p01 (F_M_areAlike_26_b G26 v1 v2 v3 v4 h) := by
  unfold F_M_areAlike_26_b
  refine z_go (fun Q hq => x_iload (dA d_M_areAlike 17 rfl) rfl (x_iload_n (dA d_M_areAlike 18 rfl) rfl rfl hq)) ?_
  refine z_br (fun Q => x_icmp_ge (dA d_M_areAlike 19 rfl) rfl rv4 rv2) (fun c2 => ?_) (fun c2 => ?_)
  · refine z_go (fun Q hq => x_iload_n (dA d_M_areAlike 47 rfl) rfl rfl hq) ?_
    refine z_gd (fun g3 => ?_)
    exact z_retz (dA d_M_areAlike 48 rfl) rfl g3
  · refine z_go (fun Q hq => x_iload_n (dA d_M_areAlike 20 rfl) rfl rfl hq) ?_
    refine z_br (fun Q => x_if_eq (dA d_M_areAlike 21 rfl) rfl rv3) (fun c4 => ?_) (fun c4 => ?_)
    · refine z_go (fun Q hq => x_iload_n (dA d_M_areAlike 47 rfl) rfl rfl hq) ?_
      refine z_gd (fun g5 => ?_)
      exact z_retz (dA d_M_areAlike 48 rfl) rfl g5
    · refine z_go (fun Q hq => x_aload_n (dA d_M_areAlike 22 rfl) rfl rfl (x_getR (dA d_M_areAlike 23 rfl) f_M_22 (L.sh (x := (12, 66)) rfl) (by decide) (by decide) rfl (L.rf 113 rfl) (x_aload_n (dA d_M_areAlike 24 rfl) rfl rfl (x_iload_n (dA d_M_areAlike 25 rfl) rfl rfl (x_iconst (dA d_M_areAlike 26 rfl) hq))))) ?_
      refine z_bnd (rest := [mR 112]) (st1 := fun v => mI v :: [mR 112]) (S_M_from (d := 0) (Nat.le_refl _) L rv1 (inR_lit (0 : Int) rfl)) (fun _ hx => absurd hx List.not_mem_nil) (fun _ => rfl) (fun Q' Q => x_callV (as := [mI v1, mI (0 : Int)]) (rest := [mR 112]) (k' := k_M_from) (dA d_M_areAlike 27 rfl) o_M_from lk_M_202 im_M_from se_M_from rfl (L.sh (x := (12, 66)) rfl) (by decide) (Nat.le_of_ble_eq_true rfl) (Nat.le_trans (Nat.le_of_ble_eq_true rfl) hd) (Nat.le_of_ble_eq_true rfl)) (fun x8 h6 e7 p9 => ?_)
      have L10 := L.ext e7
      refine z_go (fun Q hq => x_iload (dA d_M_areAlike 28 rfl) rfl hq) ?_
      refine z_gd (fun g11 => ?_)
      refine z_go (fun Q hq => x_iadd (dA d_M_areAlike 29 rfl) hq) ?_
      refine z_gd (fun g12 => ?_)
      refine z_go (fun Q hq => x_cald (dA d_M_areAlike 30 rfl) (L10.sh (x := (101, 200)) rfl) g12.1 g12.2 (by decide) (x_aload_n (dA d_M_areAlike 31 rfl) rfl rfl (x_getR (dA d_M_areAlike 32 rfl) f_M_22 (L10.sh (x := (12, 66)) rfl) (by decide) (by decide) rfl (L10.rf 113 rfl) (x_aload_n (dA d_M_areAlike 33 rfl) rfl rfl (x_iload_n (dA d_M_areAlike 34 rfl) rfl rfl (x_iconst (dA d_M_areAlike 35 rfl) hq)))))) ?_
      refine z_bnd (rest := [mR 112, mI (mGi h6 112 (x8 + v4).toNat)]) (st1 := fun v => mI v :: [mR 112, mI (mGi h6 112 (x8 + v4).toNat)]) (S_M_from (d := 0) (Nat.le_refl _) L10 rv1 (inR_lit (1 : Int) rfl)) (fun _ hx => absurd hx List.not_mem_nil) (fun _ => rfl) (fun Q' Q => x_callV (as := [mI v1, mI (1 : Int)]) (rest := [mR 112, mI (mGi h6 112 (x8 + v4).toNat)]) (k' := k_M_from) (dA d_M_areAlike 36 rfl) o_M_from lk_M_202 im_M_from se_M_from rfl (L10.sh (x := (12, 66)) rfl) (by decide) (Nat.le_of_ble_eq_true rfl) (Nat.le_trans (Nat.le_of_ble_eq_true rfl) hd) (Nat.le_of_ble_eq_true rfl)) (fun x15 h13 e14 p16 => ?_)
      have L17 := L10.ext e14
      refine z_go (fun Q hq => x_iload (dA d_M_areAlike 37 rfl) rfl hq) ?_
      refine z_gd (fun g18 => ?_)
      refine z_go (fun Q hq => x_iadd (dA d_M_areAlike 38 rfl) hq) ?_
      refine z_gd (fun g19 => ?_)
      refine z_go (fun Q hq => x_cald (dA d_M_areAlike 39 rfl) (L17.sh (x := (101, 200)) rfl) g19.1 g19.2 (by decide) hq) ?_
      refine z_brn (fun Q => x_icmp_ne (dA d_M_areAlike 40 rfl) rfl (L10.rg _ _) (L17.rg _ _)) (fun c20 => ?_) (fun c20 => ?_)
      · refine z_go (fun Q hq => x_iconst (dA d_M_areAlike 41 rfl) (x_goto (dA d_M_areAlike 42 rfl) rfl hq)) ?_
        refine z_fgt (ls' := [mR 107, mI v1, mI v2, mN, mI v4]) ⟨.inr rfl, .inr rfl, .inr rfl, .inl rfl, .inr rfl, trivial⟩ ?_
        exact S_M_areAlike_72 hd hG26 L17 rv1 rv2 rv4 (inR_lit (1 : Int) rfl)
      · refine z_go (fun Q hq => x_iconst (dA d_M_areAlike 43 rfl) hq) ?_
        refine z_fgt (ls' := [mR 107, mI v1, mI v2, mN, mI v4]) ⟨.inr rfl, .inr rfl, .inr rfl, .inl rfl, .inr rfl, trivial⟩ ?_
        exact S_M_areAlike_72 hd hG26 L17 rv1 rv2 rv4 (inR_lit (0 : Int) rfl)
noncomputable def F_M_areAlike_26 (v1 : Int) (v2 : Int) (v3 : Int) (v4 : Int) (h : MH) : RS Int := itr (fun self (q : Int × Int × Int × Int × MH) => F_M_areAlike_26_b (fun v1 v2 v3 v4 h => self (v1, v2, v3, v4, h)) q.1 q.2.1 q.2.2.1 q.2.2.2.1 q.2.2.2.2) FU (v1, v2, v3, v4, h)
theorem S_M_areAlike_26 {d : Nat} (hd : 2 ≤ d) {v1 : Int} {v2 : Int} {v3 : Int} {v4 : Int} {h : MH} (L : LayC h) (rv1 : inR v1) (rv2 : inR v2) (rv3 : inR v3) (rv4 : inR v4) : OK d k_M_areAlike 26 [mR 107, mI v1, mI v2, mI v3, mI v4] [] h cI p01 (F_M_areAlike_26  v1 v2 v3 v4 h) := by
  unfold F_M_areAlike_26
  refine z_itr (P := fun q : Int × Int × Int × Int × MH => LayC q.2.2.2.2 ∧ inR q.1 ∧ inR q.2.1 ∧ inR q.2.2.1 ∧ inR q.2.2.2.1 ∧ True) (ls := fun q : Int × Int × Int × Int × MH => [mR 107, mI q.1, mI q.2.1, mI q.2.2.1, mI q.2.2.2.1]) (hp := fun q : Int × Int × Int × Int × MH => q.2.2.2.2) (fun self hs q hq => ?_) FU (v1, v2, v3, v4, h) ⟨L, rv1, rv2, rv3, rv4, trivial⟩
  exact S_M_areAlike_26_b hd (fun v1 v2 v3 v4 h L rv1 rv2 rv3 rv4 => hs (v1, v2, v3, v4, h) ⟨L, rv1, rv2, rv3, rv4, trivial⟩) hq.1 hq.2.1 hq.2.2.1 hq.2.2.2.1 hq.2.2.2.2.1
noncomputable def F_M_areAlike_22 (v1 : Int) (v2 : Int) (s0 : Int) (h : MH) : RS Int := F_M_areAlike_26 v1 v2 s0 (0 : Int) h
theorem S_M_areAlike_22 {d : Nat} (hd : 2 ≤ d) {v1 : Int} {v2 : Int} {s0 : Int} {h : MH} (L : LayC h) (rv1 : inR v1) (rv2 : inR v2) (rs0 : inR s0) : OK d k_M_areAlike 22 [mR 107, mI v1, mI v2, mN, mN] [mI s0] h cI p01 (F_M_areAlike_22  v1 v2 s0 h) := by
  unfold F_M_areAlike_22
  refine z_go (fun Q hq => x_istore_n (dA d_M_areAlike 14 rfl) rfl (by decide) rfl (x_iconst (dA d_M_areAlike 15 rfl) (x_istore (dA d_M_areAlike 16 rfl) (by decide) rfl hq))) ?_
  exact S_M_areAlike_26 hd  L rv1 rv2 rs0 (inR_lit (0 : Int) rfl)
noncomputable def F_M_areAlike (a1 : Int) (h : MH) : RS Int := bnd (F_M_size a1 (0 : Int) h) fun x23 h21 => bnd (F_M_size a1 (1 : Int) h21) fun x28 h26 => if x23 = x28 then F_M_areAlike_22 a1 x23 (1 : Int) h26 else F_M_areAlike_22 a1 x23 (0 : Int) h26
theorem S_M_areAlike {d : Nat} (hd : 2 ≤ d) {a1 : Int} {h : MH} (L : LayC h) (ra1 : inR a1) : OK d k_M_areAlike 0 [mR 107, mI a1, mN, mN, mN] [] h cI p01 (F_M_areAlike  a1 h) := by
  unfold F_M_areAlike
  refine z_go (fun Q hq => x_aload_n (dA d_M_areAlike 0 rfl) rfl rfl (x_iload_n (dA d_M_areAlike 1 rfl) rfl rfl (x_iconst (dA d_M_areAlike 2 rfl) hq))) ?_
  refine z_bnd (rest := []) (st1 := fun v => mI v :: []) (S_M_size (d := 1) (Nat.le_refl _) L ra1 (inR_lit (0 : Int) rfl)) (fun _ hx => absurd hx List.not_mem_nil) (fun _ => rfl) (fun Q' Q => x_callV (as := [mI a1, mI (0 : Int)]) (rest := []) (k' := k_M_size) (dA d_M_areAlike 3 rfl) o_M_size lk_M_208 im_M_size se_M_size rfl (L.sh (x := (12, 66)) rfl) (by decide) (Nat.le_of_ble_eq_true rfl) (Nat.le_trans (Nat.le_of_ble_eq_true rfl) hd) (Nat.le_of_ble_eq_true rfl)) (fun x23 h21 e22 p24 => ?_)
  have L25 := L.ext e22
  refine z_go (fun Q hq => x_istore_n (dA d_M_areAlike 4 rfl) rfl (by decide) rfl (x_iload_n (dA d_M_areAlike 5 rfl) rfl rfl (x_aload_n (dA d_M_areAlike 6 rfl) rfl rfl (x_iload_n (dA d_M_areAlike 7 rfl) rfl rfl (x_iconst (dA d_M_areAlike 8 rfl) hq))))) ?_
  refine z_bnd (rest := [mI x23]) (st1 := fun v => mI v :: [mI x23]) (S_M_size (d := 1) (Nat.le_refl _) L25 ra1 (inR_lit (1 : Int) rfl)) (fun _ hx => absurd hx List.not_mem_nil) (fun _ => rfl) (fun Q' Q => x_callV (as := [mI a1, mI (1 : Int)]) (rest := [mI x23]) (k' := k_M_size) (dA d_M_areAlike 9 rfl) o_M_size lk_M_208 im_M_size se_M_size rfl (L25.sh (x := (12, 66)) rfl) (by decide) (Nat.le_of_ble_eq_true rfl) (Nat.le_trans (Nat.le_of_ble_eq_true rfl) hd) (Nat.le_of_ble_eq_true rfl)) (fun x28 h26 e27 p29 => ?_)
  have L30 := L25.ext e27
  refine z_brn (fun Q => x_icmp_ne (dA d_M_areAlike 10 rfl) rfl p24 p29) (fun c31 => ?_) (fun c31 => ?_)
  · refine z_go (fun Q hq => x_iconst (dA d_M_areAlike 11 rfl) (x_goto (dA d_M_areAlike 12 rfl) rfl hq)) ?_
    exact S_M_areAlike_22 hd  L30 ra1 p24 (inR_lit (1 : Int) rfl)
  · refine z_go (fun Q hq => x_iconst (dA d_M_areAlike 13 rfl) hq) ?_
    exact S_M_areAlike_22 hd  L30 ra1 p24 (inR_lit (0 : Int) rfl)
/-! TwoMillsModel.increase(I)V -/
noncomputable def F_M_increase_156 (s1 : Int) (h : MH) : RS Unit := gd (inR (s1 + (1 : Int))) (bnd (F_M_comeNumber (s1 + (1 : Int)) h) fun x4 h2 => some (.inl (), h2))
theorem S_M_increase_156 {d : Nat} (hd : 2 ≤ d) {s1 : Int} {h : MH} (L : LayC h) (rs1 : inR s1) : OK d k_M_increase 156 [mN, mN, mN, mN, mN, mN, mN, mN] [mI s1, mR 107] h cV pT (F_M_increase_156  s1 h) := by
  unfold F_M_increase_156
  refine z_go (fun Q hq => x_iconst (dA d_M_increase 89 rfl) hq) ?_
  refine z_gd (fun g1 => ?_)
  refine z_go (fun Q hq => x_iadd (dA d_M_increase 90 rfl) hq) ?_
  refine z_bnd (rest := []) (st1 := fun _ => []) (S_M_comeNumber (d := 1) (Nat.le_refl _) L g1) (fun _ hx => absurd hx List.not_mem_nil) (fun _ => rfl) (fun Q' Q => x_callV (as := [mI (s1 + (1 : Int))]) (rest := []) (k' := k_M_comeNumber) (dA d_M_increase 91 rfl) o_M_comeNumber lk_M_225 im_M_comeNumber se_M_comeNumber rfl (L.sh (x := (12, 66)) rfl) (by decide) (Nat.le_of_ble_eq_true rfl) (Nat.le_trans (Nat.le_of_ble_eq_true rfl) hd) (Nat.le_of_ble_eq_true rfl)) (fun x4 h2 e3 p5 => ?_)
  have L6 := L.ext e3
  exact z_retv (dA d_M_increase 92 rfl) rfl
noncomputable def F_M_increase_133 (v3 : Int) (v5 : Int) (v6 : Int) (h : MH) : RS Unit := gd (p01 v5) (bnd (F_M_need v5 (5 : Int) h) fun x10 h8 => if x10 = 0 then some (.inl (), h8) else if v3 = 0 then F_M_increase_156 v6 h8 else gd (inR (-v6)) (F_M_increase_156 (-v6) h8))
theorem S_M_increase_133 {d : Nat} (hd : 2 ≤ d) {v3 : Int} {v5 : Int} {v6 : Int} {h : MH} (L : LayC h) (rv3 : inR v3) (rv5 : inR v5) (rv6 : inR v6) : OK d k_M_increase 133 [mR 107, mN, mN, mI v3, mN, mI v5, mI v6, mN] [] h cV pT (F_M_increase_133  v3 v5 v6 h) := by
  unfold F_M_increase_133
  refine z_go (fun Q hq => x_aload_n (dA d_M_increase 77 rfl) rfl rfl (x_iload (dA d_M_increase 78 rfl) rfl (x_iconst (dA d_M_increase 79 rfl) hq))) ?_
  refine z_gd (fun g7 => ?_)
  refine z_bnd (rest := []) (st1 := fun v => mI v :: []) (S_M_need (d := 1) (Nat.le_refl _) L g7 (inR_lit (5 : Int) rfl)) (fun _ hx => absurd hx List.not_mem_nil) (fun _ => rfl) (fun Q' Q => x_callV (as := [mI v5, mI (5 : Int)]) (rest := []) (k' := k_M_need) (dA d_M_increase 80 rfl) o_M_need lk_M_181 im_M_need se_M_need rfl (L.sh (x := (12, 66)) rfl) (by decide) (Nat.le_of_ble_eq_true rfl) (Nat.le_trans (Nat.le_of_ble_eq_true rfl) hd) (Nat.le_of_ble_eq_true rfl)) (fun x10 h8 e9 p11 => ?_)
  have L12 := L.ext e9
  refine z_br (fun Q => x_if_eq (dA d_M_increase 81 rfl) rfl p11.inR) (fun c13 => ?_) (fun c13 => ?_)
  · exact z_retv (dA d_M_increase 92 rfl) rfl
  · refine z_go (fun Q hq => x_aload_n (dA d_M_increase 82 rfl) rfl rfl (x_iload_n (dA d_M_increase 83 rfl) rfl rfl hq)) ?_
    refine z_br (fun Q => x_if_eq (dA d_M_increase 84 rfl) rfl rv3) (fun c14 => ?_) (fun c14 => ?_)
    · refine z_go (fun Q hq => x_iload (dA d_M_increase 88 rfl) rfl hq) ?_
      refine z_fgt (ls' := [mN, mN, mN, mN, mN, mN, mN, mN]) ⟨.inl rfl, .inl rfl, .inl rfl, .inl rfl, .inl rfl, .inl rfl, .inl rfl, .inl rfl, trivial⟩ ?_
      exact S_M_increase_156 hd  L12 rv6
    · refine z_go (fun Q hq => x_iload (dA d_M_increase 85 rfl) rfl hq) ?_
      refine z_gd (fun g15 => ?_)
      refine z_go (fun Q hq => x_ineg (dA d_M_increase 86 rfl) (x_goto (dA d_M_increase 87 rfl) rfl hq)) ?_
      refine z_fgt (ls' := [mN, mN, mN, mN, mN, mN, mN, mN]) ⟨.inl rfl, .inl rfl, .inl rfl, .inl rfl, .inl rfl, .inl rfl, .inl rfl, .inl rfl, trivial⟩ ?_
      exact S_M_increase_156 hd  L12 g15
noncomputable def F_M_increase_81_b (G81 : Int → Int → Int → Int → Int → Int → MH → RS Unit) (v2 : Int) (v3 : Int) (v4 : Int) (v5 : Int) (v6 : Int) (v7 : Int) (h : MH) : RS Unit := if v4 ≤ v7 then F_M_increase_133 v3 v5 v6 h else if v5 = 0 then F_M_increase_133 v3 v5 v6 h else gd (inR (v2 + v7)) (gd (0 ≤ (v2 + v7) ∧ (v2 + v7) < 200) (bnd (F_M_isDigit (mGi h 112 (v2 + v7).toNat) h) fun x22 h20 => gd (inR (v6 * (10 : Int))) (gd (inR ((v6 * (10 : Int)) + (mGi h20 112 (v2 + v7).toNat))) (gd (inR (((v6 * (10 : Int)) + (mGi h20 112 (v2 + v7).toNat)) - (48 : Int))) (gd (inR (v7 + (1 : Int))) (G81 v2 v3 v4 x22 (((v6 * (10 : Int)) + (mGi h20 112 (v2 + v7).toNat)) - (48 : Int)) (v7 + (1 : Int)) h20))))))
theorem S_M_increase_81_b {d : Nat} (hd : 2 ≤ d) {G81 : Int → Int → Int → Int → Int → Int → MH → RS Unit} (hG81 : ∀ (v2 : Int) (v3 : Int) (v4 : Int) (v5 : Int) (v6 : Int) (v7 : Int) (h : MH), LayC h → inR v2 → inR v3 → inR v4 → inR v5 → inR v6 → inR v7 → OK d k_M_increase 81 [mR 107, mN, mI v2, mI v3, mI v4, mI v5, mI v6, mI v7] [] h cV pT (G81 v2 v3 v4 v5 v6 v7 h)) {v2 : Int} {v3 : Int} {v4 : Int} {v5 : Int} {v6 : Int} {v7 : Int} {h : MH} (L : LayC h) (rv2 : inR v2) (rv3 : inR v3) (rv4 : inR v4) (rv5 : inR v5) (rv6 : inR v6) (rv7 : inR v7) : OK d k_M_increase 81 [mR 107, mN, mI v2, mI v3, mI v4, mI v5, mI v6, mI v7] [] h cV pT (F_M_increase_81_b G81 v2 v3 v4 v5 v6 v7 h) := by
  unfold F_M_increase_81_b
  refine z_go (fun Q hq => x_iload (dA d_M_increase 49 rfl) rfl (x_iload (dA d_M_increase 50 rfl) rfl hq)) ?_
  refine z_br (fun Q => x_icmp_ge (dA d_M_increase 51 rfl) rfl rv7 rv4) (fun c16 => ?_) (fun c16 => ?_)
  · refine z_fgt (ls' := [mR 107, mN, mN, mI v3, mN, mI v5, mI v6, mN]) ⟨.inr rfl, .inl rfl, .inl rfl, .inr rfl, .inl rfl, .inr rfl, .inr rfl, .inl rfl, trivial⟩ ?_
    exact S_M_increase_133 hd  L rv3 rv5 rv6
  · refine z_go (fun Q hq => x_iload (dA d_M_increase 52 rfl) rfl hq) ?_
    refine z_br (fun Q => x_if_eq (dA d_M_increase 53 rfl) rfl rv5) (fun c17 => ?_) (fun c17 => ?_)
    · refine z_fgt (ls' := [mR 107, mN, mN, mI v3, mN, mI v5, mI v6, mN]) ⟨.inr rfl, .inl rfl, .inl rfl, .inr rfl, .inl rfl, .inr rfl, .inr rfl, .inl rfl, trivial⟩ ?_
      exact S_M_increase_133 hd  L rv3 rv5 rv6
    · refine z_go (fun Q hq => x_aload_n (dA d_M_increase 54 rfl) rfl rfl (x_getR (dA d_M_increase 55 rfl) f_M_22 (L.sh (x := (12, 66)) rfl) (by decide) (by decide) rfl (L.rf 113 rfl) (x_iload_n (dA d_M_increase 56 rfl) rfl rfl (x_iload (dA d_M_increase 57 rfl) rfl hq)))) ?_
      refine z_gd (fun g18 => ?_)
      refine z_go (fun Q hq => x_iadd (dA d_M_increase 58 rfl) hq) ?_
      refine z_gd (fun g19 => ?_)
      refine z_go (fun Q hq => x_cald (dA d_M_increase 59 rfl) (L.sh (x := (101, 200)) rfl) g19.1 g19.2 (by decide) hq) ?_
      refine z_bnd (rest := []) (st1 := fun v => mI v :: []) (S_M_isDigit (d := 0) (Nat.le_refl _) L (L.rg _ _)) (fun _ hx => absurd hx List.not_mem_nil) (fun _ => rfl) (fun Q' Q => x_callS (as := [mI (mGi h 112 (v2 + v7).toNat)]) (rest := []) (k' := k_M_isDigit) (dA d_M_increase 60 rfl) o_M_isDigit lk_M_154 st_M_isDigit (Nat.le_of_ble_eq_true rfl) (Nat.le_trans (Nat.le_of_ble_eq_true rfl) hd) (Nat.le_of_ble_eq_true rfl)) (fun x22 h20 e21 p23 => ?_)
      have L24 := L.ext e21
      refine z_go (fun Q hq => x_istore (dA d_M_increase 61 rfl) (by decide) rfl (x_iload (dA d_M_increase 62 rfl) rfl (x_bipush (dA d_M_increase 63 rfl) (by decide) hq))) ?_
      refine z_gd (fun g25 => ?_)
      refine z_go (fun Q hq => x_imul (dA d_M_increase 64 rfl) (x_aload_n (dA d_M_increase 65 rfl) rfl rfl (x_getR (dA d_M_increase 66 rfl) f_M_22 (L24.sh (x := (12, 66)) rfl) (by decide) (by decide) rfl (L24.rf 113 rfl) (x_iload_n (dA d_M_increase 67 rfl) rfl rfl (x_iload (dA d_M_increase 68 rfl) rfl (x_iadd (dA d_M_increase 69 rfl) (x_cald (dA d_M_increase 70 rfl) (L24.sh (x := (101, 200)) rfl) g19.1 g19.2 (by decide) hq))))))) ?_
      refine z_gd (fun g26 => ?_)
      refine z_go (fun Q hq => x_iadd (dA d_M_increase 71 rfl) (x_bipush (dA d_M_increase 72 rfl) (by decide) hq)) ?_
      refine z_gd (fun g27 => ?_)
      refine z_go (fun Q hq => x_isub (dA d_M_increase 73 rfl) (x_istore (dA d_M_increase 74 rfl) (by decide) rfl hq)) ?_
      refine z_gd (fun g28 => ?_)
      refine z_go (fun Q hq => x_iinc (dA d_M_increase 75 rfl) rfl (by decide) rfl (x_goto (dA d_M_increase 76 rfl) rfl hq)) ?_
      exact hG81 v2 v3 v4 x22 (((v6 * (10 : Int)) + (mGi h20 112 (v2 + v7).toNat)) - (48 : Int)) (v7 + (1 : Int)) h20 L24 rv2 rv3 rv4 p23.inR g27 g28
noncomputable def F_M_increase_81 (v2 : Int) (v3 : Int) (v4 : Int) (v5 : Int) (v6 : Int) (v7 : Int) (h : MH) : RS Unit := itr (fun self (q : Int × Int × Int × Int × Int × Int × MH) => F_M_increase_81_b (fun v2 v3 v4 v5 v6 v7 h => self (v2, v3, v4, v5, v6, v7, h)) q.1 q.2.1 q.2.2.1 q.2.2.2.1 q.2.2.2.2.1 q.2.2.2.2.2.1 q.2.2.2.2.2.2) FU (v2, v3, v4, v5, v6, v7, h)
theorem S_M_increase_81 {d : Nat} (hd : 2 ≤ d) {v2 : Int} {v3 : Int} {v4 : Int} {v5 : Int} {v6 : Int} {v7 : Int} {h : MH} (L : LayC h) (rv2 : inR v2) (rv3 : inR v3) (rv4 : inR v4) (rv5 : inR v5) (rv6 : inR v6) (rv7 : inR v7) : OK d k_M_increase 81 [mR 107, mN, mI v2, mI v3, mI v4, mI v5, mI v6, mI v7] [] h cV pT (F_M_increase_81  v2 v3 v4 v5 v6 v7 h) := by
  unfold F_M_increase_81
  refine z_itr (P := fun q : Int × Int × Int × Int × Int × Int × MH => LayC q.2.2.2.2.2.2 ∧ inR q.1 ∧ inR q.2.1 ∧ inR q.2.2.1 ∧ inR q.2.2.2.1 ∧ inR q.2.2.2.2.1 ∧ inR q.2.2.2.2.2.1 ∧ True) (ls := fun q : Int × Int × Int × Int × Int × Int × MH => [mR 107, mN, mI q.1, mI q.2.1, mI q.2.2.1, mI q.2.2.2.1, mI q.2.2.2.2.1, mI q.2.2.2.2.2.1]) (hp := fun q : Int × Int × Int × Int × Int × Int × MH => q.2.2.2.2.2.2) (fun self hs q hq => ?_) FU (v2, v3, v4, v5, v6, v7, h) ⟨L, rv2, rv3, rv4, rv5, rv6, rv7, trivial⟩
  exact S_M_increase_81_b hd (fun v2 v3 v4 v5 v6 v7 h L rv2 rv3 rv4 rv5 rv6 rv7 => hs (v2, v3, v4, v5, v6, v7, h) ⟨L, rv2, rv3, rv4, rv5, rv6, rv7, trivial⟩) hq.1 hq.2.1 hq.2.2.1 hq.2.2.2.1 hq.2.2.2.2.1 hq.2.2.2.2.2.1 hq.2.2.2.2.2.2.1
noncomputable def F_M_increase_73 (v2 : Int) (v3 : Int) (v4 : Int) (s0 : Int) (h : MH) : RS Unit := F_M_increase_81 v2 v3 v4 s0 (0 : Int) (0 : Int) h
theorem S_M_increase_73 {d : Nat} (hd : 2 ≤ d) {v2 : Int} {v3 : Int} {v4 : Int} {s0 : Int} {h : MH} (L : LayC h) (rv2 : inR v2) (rv3 : inR v3) (rv4 : inR v4) (rs0 : inR s0) : OK d k_M_increase 73 [mR 107, mN, mI v2, mI v3, mI v4, mN, mN, mN] [mI s0] h cV pT (F_M_increase_73  v2 v3 v4 s0 h) := by
  unfold F_M_increase_73
  refine z_go (fun Q hq => x_istore (dA d_M_increase 44 rfl) (by decide) rfl (x_iconst (dA d_M_increase 45 rfl) (x_istore (dA d_M_increase 46 rfl) (by decide) rfl (x_iconst (dA d_M_increase 47 rfl) (x_istore (dA d_M_increase 48 rfl) (by decide) rfl hq))))) ?_
  exact S_M_increase_81 hd  L rv2 rv3 rv4 rs0 (inR_lit (0 : Int) rfl) (inR_lit (0 : Int) rfl)
noncomputable def F_M_increase_72 (v2 : Int) (v3 : Int) (v4 : Int) (h : MH) : RS Unit := F_M_increase_73 v2 v3 v4 (0 : Int) h
theorem S_M_increase_72 {d : Nat} (hd : 2 ≤ d) {v2 : Int} {v3 : Int} {v4 : Int} {h : MH} (L : LayC h) (rv2 : inR v2) (rv3 : inR v3) (rv4 : inR v4) : OK d k_M_increase 72 [mR 107, mN, mI v2, mI v3, mI v4, mN, mN, mN] [] h cV pT (F_M_increase_72  v2 v3 v4 h) := by
  unfold F_M_increase_72
  refine z_go (fun Q hq => x_iconst (dA d_M_increase 43 rfl) hq) ?_
  exact S_M_increase_73 hd  L rv2 rv3 rv4 (inR_lit (0 : Int) rfl)
noncomputable def F_M_increase_43 (v1 : Int) (v3 : Int) (s0 : Int) (s1 : Int) (h : MH) : RS Unit := gd (inR (s0 + s1)) (bnd (F_M_to v1 (0 : Int) h) fun x32 h30 => gd (inR (x32 - (s0 + s1))) (if (x32 - (s0 + s1)) < (1 : Int) then F_M_increase_72 (s0 + s1) v3 (x32 - (s0 + s1)) h30 else if (9 : Int) < (x32 - (s0 + s1)) then F_M_increase_72 (s0 + s1) v3 (x32 - (s0 + s1)) h30 else F_M_increase_73 (s0 + s1) v3 (x32 - (s0 + s1)) (1 : Int) h30))
theorem S_M_increase_43 {d : Nat} (hd : 2 ≤ d) {v1 : Int} {v3 : Int} {s0 : Int} {s1 : Int} {h : MH} (L : LayC h) (rv1 : inR v1) (rv3 : inR v3) (rs0 : inR s0) (rs1 : inR s1) : OK d k_M_increase 43 [mR 107, mI v1, mN, mI v3, mN, mN, mN, mN] [mI s1, mI s0] h cV pT (F_M_increase_43  v1 v3 s0 s1 h) := by
  unfold F_M_increase_43
  refine z_gd (fun g29 => ?_)
  refine z_go (fun Q hq => x_iadd (dA d_M_increase 26 rfl) (x_istore_n (dA d_M_increase 27 rfl) rfl (by decide) rfl (x_aload_n (dA d_M_increase 28 rfl) rfl rfl (x_iload_n (dA d_M_increase 29 rfl) rfl rfl (x_iconst (dA d_M_increase 30 rfl) hq))))) ?_
  refine z_bnd (rest := []) (st1 := fun v => mI v :: []) (S_M_to (d := 0) (Nat.le_refl _) L rv1 (inR_lit (0 : Int) rfl)) (fun _ hx => absurd hx List.not_mem_nil) (fun _ => rfl) (fun Q' Q => x_callV (as := [mI v1, mI (0 : Int)]) (rest := []) (k' := k_M_to) (dA d_M_increase 31 rfl) o_M_to lk_M_198 im_M_to se_M_to rfl (L.sh (x := (12, 66)) rfl) (by decide) (Nat.le_of_ble_eq_true rfl) (Nat.le_trans (Nat.le_of_ble_eq_true rfl) hd) (Nat.le_of_ble_eq_true rfl)) (fun x32 h30 e31 p33 => ?_)
  have L34 := L.ext e31
  refine z_go (fun Q hq => x_iload_n (dA d_M_increase 32 rfl) rfl rfl hq) ?_
  refine z_gd (fun g35 => ?_)
  refine z_go (fun Q hq => x_isub (dA d_M_increase 33 rfl) (x_istore (dA d_M_increase 34 rfl) (by decide) rfl (x_iload (dA d_M_increase 35 rfl) rfl (x_iconst (dA d_M_increase 36 rfl) hq)))) ?_
  refine z_br (fun Q => x_icmp_lt (dA d_M_increase 37 rfl) rfl g35 (inR_lit (1 : Int) rfl)) (fun c36 => ?_) (fun c36 => ?_)
  · refine z_fgt (ls' := [mR 107, mN, mI (s0 + s1), mI v3, mI (x32 - (s0 + s1)), mN, mN, mN]) ⟨.inr rfl, .inl rfl, .inr rfl, .inr rfl, .inr rfl, .inl rfl, .inl rfl, .inl rfl, trivial⟩ ?_
    exact S_M_increase_72 hd  L34 g29 rv3 g35
  · refine z_go (fun Q hq => x_iload (dA d_M_increase 38 rfl) rfl (x_bipush (dA d_M_increase 39 rfl) (by decide) hq)) ?_
    refine z_br (fun Q => x_icmp_gt (dA d_M_increase 40 rfl) rfl g35 (inR_lit (9 : Int) rfl)) (fun c37 => ?_) (fun c37 => ?_)
    · refine z_fgt (ls' := [mR 107, mN, mI (s0 + s1), mI v3, mI (x32 - (s0 + s1)), mN, mN, mN]) ⟨.inr rfl, .inl rfl, .inr rfl, .inr rfl, .inr rfl, .inl rfl, .inl rfl, .inl rfl, trivial⟩ ?_
      exact S_M_increase_72 hd  L34 g29 rv3 g35
    · refine z_go (fun Q hq => x_iconst (dA d_M_increase 41 rfl) (x_goto (dA d_M_increase 42 rfl) rfl hq)) ?_
      refine z_fgt (ls' := [mR 107, mN, mI (s0 + s1), mI v3, mI (x32 - (s0 + s1)), mN, mN, mN]) ⟨.inr rfl, .inl rfl, .inr rfl, .inr rfl, .inr rfl, .inl rfl, .inl rfl, .inl rfl, trivial⟩ ?_
      exact S_M_increase_73 hd  L34 g29 rv3 g35 (inR_lit (1 : Int) rfl)
noncomputable def F_M_increase_32 (v1 : Int) (v2 : Int) (s0 : Int) (h : MH) : RS Unit := if s0 = 0 then F_M_increase_43 v1 s0 v2 (0 : Int) h else F_M_increase_43 v1 s0 v2 (1 : Int) h
theorem S_M_increase_32 {d : Nat} (hd : 2 ≤ d) {v1 : Int} {v2 : Int} {s0 : Int} {h : MH} (L : LayC h) (rv1 : inR v1) (rv2 : inR v2) (rs0 : inR s0) : OK d k_M_increase 32 [mR 107, mI v1, mI v2, mN, mN, mN, mN, mN] [mI s0] h cV pT (F_M_increase_32  v1 v2 s0 h) := by
  unfold F_M_increase_32
  refine z_go (fun Q hq => x_istore_n (dA d_M_increase 19 rfl) rfl (by decide) rfl (x_iload_n (dA d_M_increase 20 rfl) rfl rfl (x_iload_n (dA d_M_increase 21 rfl) rfl rfl hq))) ?_
  refine z_br (fun Q => x_if_eq (dA d_M_increase 22 rfl) rfl rs0) (fun c38 => ?_) (fun c38 => ?_)
  · refine z_go (fun Q hq => x_iconst (dA d_M_increase 25 rfl) hq) ?_
    refine z_fgt (ls' := [mR 107, mI v1, mN, mI s0, mN, mN, mN, mN]) ⟨.inr rfl, .inr rfl, .inl rfl, .inr rfl, .inl rfl, .inl rfl, .inl rfl, .inl rfl, trivial⟩ ?_
    exact S_M_increase_43 hd  L rv1 rs0 rv2 (inR_lit (0 : Int) rfl)
  · refine z_go (fun Q hq => x_iconst (dA d_M_increase 23 rfl) (x_goto (dA d_M_increase 24 rfl) rfl hq)) ?_
    refine z_fgt (ls' := [mR 107, mI v1, mN, mI s0, mN, mN, mN, mN]) ⟨.inr rfl, .inr rfl, .inl rfl, .inr rfl, .inl rfl, .inl rfl, .inl rfl, .inl rfl, trivial⟩ ?_
    exact S_M_increase_43 hd  L rv1 rs0 rv2 (inR_lit (1 : Int) rfl)
noncomputable def F_M_increase_31 (v1 : Int) (v2 : Int) (h : MH) : RS Unit := F_M_increase_32 v1 v2 (0 : Int) h
theorem S_M_increase_31 {d : Nat} (hd : 2 ≤ d) {v1 : Int} {v2 : Int} {h : MH} (L : LayC h) (rv1 : inR v1) (rv2 : inR v2) : OK d k_M_increase 31 [mR 107, mI v1, mI v2, mN, mN, mN, mN, mN] [] h cV pT (F_M_increase_31  v1 v2 h) := by
  unfold F_M_increase_31
  refine z_go (fun Q hq => x_iconst (dA d_M_increase 18 rfl) hq) ?_
  exact S_M_increase_32 hd  L rv1 rv2 (inR_lit (0 : Int) rfl)
noncomputable def F_M_increase (a1 : Int) (h : MH) : RS Unit := bnd (F_M_from a1 (0 : Int) h) fun x41 h39 => bnd (F_M_size a1 (0 : Int) h39) fun x46 h44 => if x46 ≤ 0 then F_M_increase_31 a1 x41 h44 else gd (0 ≤ x41 ∧ x41 < 200) (if (mGi h44 112 x41.toNat) = (45 : Int) then F_M_increase_32 a1 x41 (1 : Int) h44 else F_M_increase_31 a1 x41 h44)
theorem S_M_increase {d : Nat} (hd : 2 ≤ d) {a1 : Int} {h : MH} (L : LayC h) (ra1 : inR a1) : OK d k_M_increase 0 [mR 107, mI a1, mN, mN, mN, mN, mN, mN] [] h cV pT (F_M_increase  a1 h) := by
  unfold F_M_increase
  refine z_go (fun Q hq => x_aload_n (dA d_M_increase 0 rfl) rfl rfl (x_iload_n (dA d_M_increase 1 rfl) rfl rfl (x_iconst (dA d_M_increase 2 rfl) hq))) ?_
  refine z_bnd (rest := []) (st1 := fun v => mI v :: []) (S_M_from (d := 0) (Nat.le_refl _) L ra1 (inR_lit (0 : Int) rfl)) (fun _ hx => absurd hx List.not_mem_nil) (fun _ => rfl) (fun Q' Q => x_callV (as := [mI a1, mI (0 : Int)]) (rest := []) (k' := k_M_from) (dA d_M_increase 3 rfl) o_M_from lk_M_202 im_M_from se_M_from rfl (L.sh (x := (12, 66)) rfl) (by decide) (Nat.le_of_ble_eq_true rfl) (Nat.le_trans (Nat.le_of_ble_eq_true rfl) hd) (Nat.le_of_ble_eq_true rfl)) (fun x41 h39 e40 p42 => ?_)
  have L43 := L.ext e40
  refine z_go (fun Q hq => x_istore_n (dA d_M_increase 4 rfl) rfl (by decide) rfl (x_aload_n (dA d_M_increase 5 rfl) rfl rfl (x_iload_n (dA d_M_increase 6 rfl) rfl rfl (x_iconst (dA d_M_increase 7 rfl) hq)))) ?_
  refine z_bnd (rest := []) (st1 := fun v => mI v :: []) (S_M_size (d := 1) (Nat.le_refl _) L43 ra1 (inR_lit (0 : Int) rfl)) (fun _ hx => absurd hx List.not_mem_nil) (fun _ => rfl) (fun Q' Q => x_callV (as := [mI a1, mI (0 : Int)]) (rest := []) (k' := k_M_size) (dA d_M_increase 8 rfl) o_M_size lk_M_208 im_M_size se_M_size rfl (L43.sh (x := (12, 66)) rfl) (by decide) (Nat.le_of_ble_eq_true rfl) (Nat.le_trans (Nat.le_of_ble_eq_true rfl) hd) (Nat.le_of_ble_eq_true rfl)) (fun x46 h44 e45 p47 => ?_)
  have L48 := L43.ext e45
  refine z_br (fun Q => x_if_le (dA d_M_increase 9 rfl) rfl p47) (fun c49 => ?_) (fun c49 => ?_)
  · exact S_M_increase_31 hd  L48 ra1 p42
  · refine z_go (fun Q hq => x_aload_n (dA d_M_increase 10 rfl) rfl rfl (x_getR (dA d_M_increase 11 rfl) f_M_22 (L48.sh (x := (12, 66)) rfl) (by decide) (by decide) rfl (L48.rf 113 rfl) (x_iload_n (dA d_M_increase 12 rfl) rfl rfl hq))) ?_
    refine z_gd (fun g50 => ?_)
    refine z_go (fun Q hq => x_cald (dA d_M_increase 13 rfl) (L48.sh (x := (101, 200)) rfl) g50.1 g50.2 (by decide) (x_bipush (dA d_M_increase 14 rfl) (by decide) hq)) ?_
    refine z_brn (fun Q => x_icmp_ne (dA d_M_increase 15 rfl) rfl (L48.rg _ _) (inR_lit (45 : Int) rfl)) (fun c51 => ?_) (fun c51 => ?_)
    · refine z_go (fun Q hq => x_iconst (dA d_M_increase 16 rfl) (x_goto (dA d_M_increase 17 rfl) rfl hq)) ?_
      exact S_M_increase_32 hd  L48 ra1 p42 (inR_lit (1 : Int) rfl)
    · exact S_M_increase_31 hd  L48 ra1 p42
/-! TwoMillsModel.shift(II)V -/
noncomputable def F_M_shift_18 (G2 : Int → Int → Int → MH → RS Unit) (v1 : Int) (v2 : Int) (v3 : Int) (h : MH) : RS Unit := bnd (F_M_come (96 : Int) h) fun x3 h1 => bnd (F_M_comeArgument v1 v3 h1) fun x8 h6 => bnd (F_M_come (39 : Int) h6) fun x13 h11 => gd (inR (v3 + (1 : Int))) (G2 v1 v2 (v3 + (1 : Int)) h11)
theorem S_M_shift_18 {d : Nat} (hd : 2 ≤ d) {G2 : Int → Int → Int → MH → RS Unit} (hG2 : ∀ (v1 : Int) (v2 : Int) (v3 : Int) (h : MH), LayC h → inR v1 → inR v2 → inR v3 → OK d k_M_shift 2 [mR 107, mI v1, mI v2, mI v3] [] h cV pT (G2 v1 v2 v3 h)) {v1 : Int} {v2 : Int} {v3 : Int} {h : MH} (L : LayC h) (rv1 : inR v1) (rv2 : inR v2) (rv3 : inR v3) : OK d k_M_shift 18 [mR 107, mI v1, mI v2, mI v3] [] h cV pT (F_M_shift_18 G2 v1 v2 v3 h) := by
  unfold F_M_shift_18
  refine z_go (fun Q hq => x_aload_n (dA d_M_shift 11 rfl) rfl rfl (x_bipush (dA d_M_shift 12 rfl) (by decide) hq)) ?_
  refine z_bnd (rest := []) (st1 := fun _ => []) (S_M_come (d := 0) (Nat.le_refl _) L (inR_lit (96 : Int) rfl)) (fun _ hx => absurd hx List.not_mem_nil) (fun _ => rfl) (fun Q' Q => x_callV (as := [mI (96 : Int)]) (rest := []) (k' := k_M_come) (dA d_M_shift 13 rfl) o_M_come lk_M_195 im_M_come se_M_come rfl (L.sh (x := (12, 66)) rfl) (by decide) (Nat.le_of_ble_eq_true rfl) (Nat.le_trans (Nat.le_of_ble_eq_true rfl) hd) (Nat.le_of_ble_eq_true rfl)) (fun x3 h1 e2 p4 => ?_)
  have L5 := L.ext e2
  refine z_go (fun Q hq => x_aload_n (dA d_M_shift 14 rfl) rfl rfl (x_iload_n (dA d_M_shift 15 rfl) rfl rfl (x_iload_n (dA d_M_shift 16 rfl) rfl rfl hq))) ?_
  refine z_bnd (rest := []) (st1 := fun _ => []) (S_M_comeArgument (d := 1) (Nat.le_refl _) L5 rv1 rv3) (fun _ hx => absurd hx List.not_mem_nil) (fun _ => rfl) (fun Q' Q => x_callV (as := [mI v1, mI v3]) (rest := []) (k' := k_M_comeArgument) (dA d_M_shift 17 rfl) o_M_comeArgument lk_M_232 im_M_comeArgument se_M_comeArgument rfl (L5.sh (x := (12, 66)) rfl) (by decide) (Nat.le_of_ble_eq_true rfl) (Nat.le_trans (Nat.le_of_ble_eq_true rfl) hd) (Nat.le_of_ble_eq_true rfl)) (fun x8 h6 e7 p9 => ?_)
  have L10 := L5.ext e7
  refine z_go (fun Q hq => x_aload_n (dA d_M_shift 18 rfl) rfl rfl (x_bipush (dA d_M_shift 19 rfl) (by decide) hq)) ?_
  refine z_bnd (rest := []) (st1 := fun _ => []) (S_M_come (d := 0) (Nat.le_refl _) L10 (inR_lit (39 : Int) rfl)) (fun _ hx => absurd hx List.not_mem_nil) (fun _ => rfl) (fun Q' Q => x_callV (as := [mI (39 : Int)]) (rest := []) (k' := k_M_come) (dA d_M_shift 20 rfl) o_M_come lk_M_195 im_M_come se_M_come rfl (L10.sh (x := (12, 66)) rfl) (by decide) (Nat.le_of_ble_eq_true rfl) (Nat.le_trans (Nat.le_of_ble_eq_true rfl) hd) (Nat.le_of_ble_eq_true rfl)) (fun x13 h11 e12 p14 => ?_)
  have L15 := L10.ext e12
  refine z_gd (fun g16 => ?_)
  refine z_go (fun Q hq => x_iinc (dA d_M_shift 21 rfl) rfl (by decide) rfl (x_goto (dA d_M_shift 22 rfl) rfl hq)) ?_
  exact hG2 v1 v2 (v3 + (1 : Int)) h11 L15 rv1 rv2 g16
noncomputable def F_M_shift_2_b (G2 : Int → Int → Int → MH → RS Unit) (v1 : Int) (v2 : Int) (v3 : Int) (h : MH) : RS Unit := if v2 ≤ v3 then some (.inl (), h) else if v3 ≤ (1 : Int) then F_M_shift_18 G2 v1 v2 v3 h else bnd (F_M_come (44 : Int) h) fun x21 h19 => F_M_shift_18 G2 v1 v2 v3 h19
theorem S_M_shift_2_b {d : Nat} (hd : 2 ≤ d) {G2 : Int → Int → Int → MH → RS Unit} (hG2 : ∀ (v1 : Int) (v2 : Int) (v3 : Int) (h : MH), LayC h → inR v1 → inR v2 → inR v3 → OK d k_M_shift 2 [mR 107, mI v1, mI v2, mI v3] [] h cV pT (G2 v1 v2 v3 h)) {v1 : Int} {v2 : Int} {v3 : Int} {h : MH} (L : LayC h) (rv1 : inR v1) (rv2 : inR v2) (rv3 : inR v3) : OK d k_M_shift 2 [mR 107, mI v1, mI v2, mI v3] [] h cV pT (F_M_shift_2_b G2 v1 v2 v3 h) := by
  unfold F_M_shift_2_b
  refine z_go (fun Q hq => x_iload_n (dA d_M_shift 2 rfl) rfl rfl (x_iload_n (dA d_M_shift 3 rfl) rfl rfl hq)) ?_
  refine z_br (fun Q => x_icmp_ge (dA d_M_shift 4 rfl) rfl rv3 rv2) (fun c17 => ?_) (fun c17 => ?_)
  · exact z_retv (dA d_M_shift 23 rfl) rfl
  · refine z_go (fun Q hq => x_iload_n (dA d_M_shift 5 rfl) rfl rfl (x_iconst (dA d_M_shift 6 rfl) hq)) ?_
    refine z_br (fun Q => x_icmp_le (dA d_M_shift 7 rfl) rfl rv3 (inR_lit (1 : Int) rfl)) (fun c18 => ?_) (fun c18 => ?_)
    · exact S_M_shift_18 hd hG2 L rv1 rv2 rv3
    · refine z_go (fun Q hq => x_aload_n (dA d_M_shift 8 rfl) rfl rfl (x_bipush (dA d_M_shift 9 rfl) (by decide) hq)) ?_
      refine z_bnd (rest := []) (st1 := fun _ => []) (S_M_come (d := 0) (Nat.le_refl _) L (inR_lit (44 : Int) rfl)) (fun _ hx => absurd hx List.not_mem_nil) (fun _ => rfl) (fun Q' Q => x_callV (as := [mI (44 : Int)]) (rest := []) (k' := k_M_come) (dA d_M_shift 10 rfl) o_M_come lk_M_195 im_M_come se_M_come rfl (L.sh (x := (12, 66)) rfl) (by decide) (Nat.le_of_ble_eq_true rfl) (Nat.le_trans (Nat.le_of_ble_eq_true rfl) hd) (Nat.le_of_ble_eq_true rfl)) (fun x21 h19 e20 p22 => ?_)
      have L23 := L.ext e20
      exact S_M_shift_18 hd hG2 L23 rv1 rv2 rv3
noncomputable def F_M_shift_2 (v1 : Int) (v2 : Int) (v3 : Int) (h : MH) : RS Unit := itr (fun self (q : Int × Int × Int × MH) => F_M_shift_2_b (fun v1 v2 v3 h => self (v1, v2, v3, h)) q.1 q.2.1 q.2.2.1 q.2.2.2) FU (v1, v2, v3, h)
theorem S_M_shift_2 {d : Nat} (hd : 2 ≤ d) {v1 : Int} {v2 : Int} {v3 : Int} {h : MH} (L : LayC h) (rv1 : inR v1) (rv2 : inR v2) (rv3 : inR v3) : OK d k_M_shift 2 [mR 107, mI v1, mI v2, mI v3] [] h cV pT (F_M_shift_2  v1 v2 v3 h) := by
  unfold F_M_shift_2
  refine z_itr (P := fun q : Int × Int × Int × MH => LayC q.2.2.2 ∧ inR q.1 ∧ inR q.2.1 ∧ inR q.2.2.1 ∧ True) (ls := fun q : Int × Int × Int × MH => [mR 107, mI q.1, mI q.2.1, mI q.2.2.1]) (hp := fun q : Int × Int × Int × MH => q.2.2.2) (fun self hs q hq => ?_) FU (v1, v2, v3, h) ⟨L, rv1, rv2, rv3, trivial⟩
  exact S_M_shift_2_b hd (fun v1 v2 v3 h L rv1 rv2 rv3 => hs (v1, v2, v3, h) ⟨L, rv1, rv2, rv3, trivial⟩) hq.1 hq.2.1 hq.2.2.1 hq.2.2.2.1
noncomputable def F_M_shift (a1 : Int) (a2 : Int) (h : MH) : RS Unit := F_M_shift_2 a1 a2 (1 : Int) h
theorem S_M_shift {d : Nat} (hd : 2 ≤ d) {a1 : Int} {a2 : Int} {h : MH} (L : LayC h) (ra1 : inR a1) (ra2 : inR a2) : OK d k_M_shift 0 [mR 107, mI a1, mI a2, mN] [] h cV pT (F_M_shift  a1 a2 h) := by
  unfold F_M_shift
  refine z_go (fun Q hq => x_iconst (dA d_M_shift 0 rfl) (x_istore_n (dA d_M_shift 1 rfl) rfl (by decide) rfl hq)) ?_
  exact S_M_shift_2 hd  L ra1 ra2 (inR_lit (1 : Int) rfl)
/-! TwoMillsModel.dropLine()V -/
noncomputable def F_M_dropLine_53 (G13 : Int → MH → RS Unit) (s0 : Int) (h : MH) : RS Unit := G13 s0 h
theorem S_M_dropLine_53 {d : Nat} (hd : 0 ≤ d) {G13 : Int → MH → RS Unit} (hG13 : ∀ (v1 : Int) (h : MH), LayC h → inR v1 → OK d k_M_dropLine 13 [mR 107, mI v1] [] h cV pT (G13 v1 h)) {s0 : Int} {h : MH} (L : LayC h) (rs0 : inR s0) : OK d k_M_dropLine 53 [mR 107, mN] [mI s0] h cV pT (F_M_dropLine_53 G13 s0 h) := by
  unfold F_M_dropLine_53
  refine z_go (fun Q hq => x_istore_n (dA d_M_dropLine 28 rfl) rfl (by decide) rfl (x_goto (dA d_M_dropLine 29 rfl) rfl hq)) ?_
  exact hG13 s0 h L rs0
noncomputable def F_M_dropLine_52 (G13 : Int → MH → RS Unit) (h : MH) : RS Unit := F_M_dropLine_53 G13 (0 : Int) h
theorem S_M_dropLine_52 {d : Nat} (hd : 0 ≤ d) {G13 : Int → MH → RS Unit} (hG13 : ∀ (v1 : Int) (h : MH), LayC h → inR v1 → OK d k_M_dropLine 13 [mR 107, mI v1] [] h cV pT (G13 v1 h)) {h : MH} (L : LayC h) : OK d k_M_dropLine 52 [mR 107, mN] [] h cV pT (F_M_dropLine_52 G13  h) := by
  unfold F_M_dropLine_52
  refine z_go (fun Q hq => x_iconst (dA d_M_dropLine 27 rfl) hq) ?_
  exact S_M_dropLine_53 hd hG13 L (inR_lit (0 : Int) rfl)
noncomputable def F_M_dropLine_13_b (G13 : Int → MH → RS Unit) (v1 : Int) (h : MH) : RS Unit := if v1 = 0 then some (.inl (), h) else gd (inR ((mGi h 107 3) - (1 : Int))) (sto (mPi h 107 3 ((mGi h 107 3) - (1 : Int))) fun h3 => if (mGi h3 107 3) ≤ 0 then F_M_dropLine_52 G13 h3 else gd (0 ≤ (mGi h3 107 3) ∧ (mGi h3 107 3) < 500) (if (mGi h3 109 (mGi h3 107 3).toNat) = (10 : Int) then F_M_dropLine_52 G13 h3 else F_M_dropLine_53 G13 (1 : Int) h3))
theorem S_M_dropLine_13_b {d : Nat} (hd : 0 ≤ d) {G13 : Int → MH → RS Unit} (hG13 : ∀ (v1 : Int) (h : MH), LayC h → inR v1 → OK d k_M_dropLine 13 [mR 107, mI v1] [] h cV pT (G13 v1 h)) {v1 : Int} {h : MH} (L : LayC h) (rv1 : inR v1) : OK d k_M_dropLine 13 [mR 107, mI v1] [] h cV pT (F_M_dropLine_13_b G13 v1 h) := by
  unfold F_M_dropLine_13_b
  refine z_go (fun Q hq => x_iload_n (dA d_M_dropLine 7 rfl) rfl rfl hq) ?_
  refine z_br (fun Q => x_if_eq (dA d_M_dropLine 8 rfl) rfl rv1) (fun c1 => ?_) (fun c1 => ?_)
  · exact z_retv (dA d_M_dropLine 30 rfl) rfl
  · refine z_go (fun Q hq => x_aload_n (dA d_M_dropLine 9 rfl) rfl rfl (x_dup (dA d_M_dropLine 10 rfl) rfl (x_getI (dA d_M_dropLine 11 rfl) f_M_192 (L.sh (x := (12, 66)) rfl) (by decide) (by decide) rfl (x_iconst (dA d_M_dropLine 12 rfl) hq)))) ?_
    refine z_gd (fun g2 => ?_)
    refine z_go (fun Q hq => x_isub (dA d_M_dropLine 13 rfl) hq) ?_
    refine z_sto (Ext.pi (L.sh (x := (12, 66)) rfl) (by decide) g2) (fun Q hq => x_putI (dA d_M_dropLine 14 rfl) p_M_192 (L.sh (x := (12, 66)) rfl) (by decide) cl_M rfl hq) (fun h3 e4 => ?_)
    have L5 := L.ext e4
    refine z_go (fun Q hq => x_aload_n (dA d_M_dropLine 15 rfl) rfl rfl (x_getI (dA d_M_dropLine 16 rfl) f_M_192 (L5.sh (x := (12, 66)) rfl) (by decide) (by decide) rfl hq)) ?_
    refine z_br (fun Q => x_if_le (dA d_M_dropLine 17 rfl) rfl (L5.rg _ _)) (fun c6 => ?_) (fun c6 => ?_)
    · refine z_fgt (ls' := [mR 107, mN]) ⟨.inr rfl, .inl rfl, trivial⟩ ?_
      exact S_M_dropLine_52 hd hG13 L5 
    · refine z_go (fun Q hq => x_aload_n (dA d_M_dropLine 18 rfl) rfl rfl (x_getR (dA d_M_dropLine 19 rfl) f_M_13 (L5.sh (x := (12, 66)) rfl) (by decide) (by decide) rfl (L5.rf 110 rfl) (x_aload_n (dA d_M_dropLine 20 rfl) rfl rfl (x_getI (dA d_M_dropLine 21 rfl) f_M_192 (L5.sh (x := (12, 66)) rfl) (by decide) (by decide) rfl hq)))) ?_
      refine z_gd (fun g7 => ?_)
      refine z_go (fun Q hq => x_cald (dA d_M_dropLine 22 rfl) (L5.sh (x := (101, 500)) rfl) g7.1 g7.2 (by decide) (x_bipush (dA d_M_dropLine 23 rfl) (by decide) hq)) ?_
      refine z_br (fun Q => x_icmp_eq (dA d_M_dropLine 24 rfl) rfl (L5.rg _ _) (inR_lit (10 : Int) rfl)) (fun c8 => ?_) (fun c8 => ?_)
      · refine z_fgt (ls' := [mR 107, mN]) ⟨.inr rfl, .inl rfl, trivial⟩ ?_
        exact S_M_dropLine_52 hd hG13 L5 
      · refine z_go (fun Q hq => x_iconst (dA d_M_dropLine 25 rfl) (x_goto (dA d_M_dropLine 26 rfl) rfl hq)) ?_
        refine z_fgt (ls' := [mR 107, mN]) ⟨.inr rfl, .inl rfl, trivial⟩ ?_
        exact S_M_dropLine_53 hd hG13 L5 (inR_lit (1 : Int) rfl)
noncomputable def F_M_dropLine_13 (v1 : Int) (h : MH) : RS Unit := itr (fun self (q : Int × MH) => F_M_dropLine_13_b (fun v1 h => self (v1, h)) q.1 q.2) FU (v1, h)
theorem S_M_dropLine_13 {d : Nat} (hd : 0 ≤ d) {v1 : Int} {h : MH} (L : LayC h) (rv1 : inR v1) : OK d k_M_dropLine 13 [mR 107, mI v1] [] h cV pT (F_M_dropLine_13  v1 h) := by
  unfold F_M_dropLine_13
  refine z_itr (P := fun q : Int × MH => LayC q.2 ∧ inR q.1 ∧ True) (ls := fun q : Int × MH => [mR 107, mI q.1]) (hp := fun q : Int × MH => q.2) (fun self hs q hq => ?_) FU (v1, h) ⟨L, rv1, trivial⟩
  exact S_M_dropLine_13_b hd (fun v1 h L rv1 => hs (v1, h) ⟨L, rv1, trivial⟩) hq.1 hq.2.1
noncomputable def F_M_dropLine_12 (s0 : Int) (h : MH) : RS Unit := F_M_dropLine_13 s0 h
theorem S_M_dropLine_12 {d : Nat} (hd : 0 ≤ d) {s0 : Int} {h : MH} (L : LayC h) (rs0 : inR s0) : OK d k_M_dropLine 12 [mR 107, mN] [mI s0] h cV pT (F_M_dropLine_12  s0 h) := by
  unfold F_M_dropLine_12
  refine z_go (fun Q hq => x_istore_n (dA d_M_dropLine 6 rfl) rfl (by decide) rfl hq) ?_
  exact S_M_dropLine_13 hd  L rs0
noncomputable def F_M_dropLine (h : MH) : RS Unit := if (mGi h 107 3) ≤ 0 then F_M_dropLine_12 (0 : Int) h else F_M_dropLine_12 (1 : Int) h
theorem S_M_dropLine {d : Nat} (hd : 0 ≤ d) {h : MH} (L : LayC h) : OK d k_M_dropLine 0 [mR 107, mN] [] h cV pT (F_M_dropLine   h) := by
  unfold F_M_dropLine
  refine z_go (fun Q hq => x_aload_n (dA d_M_dropLine 0 rfl) rfl rfl (x_getI (dA d_M_dropLine 1 rfl) f_M_192 (L.sh (x := (12, 66)) rfl) (by decide) (by decide) rfl hq)) ?_
  refine z_br (fun Q => x_if_le (dA d_M_dropLine 2 rfl) rfl (L.rg _ _)) (fun c9 => ?_) (fun c9 => ?_)
  · refine z_go (fun Q hq => x_iconst (dA d_M_dropLine 5 rfl) hq) ?_
    exact S_M_dropLine_12 hd  L (inR_lit (0 : Int) rfl)
  · refine z_go (fun Q hq => x_iconst (dA d_M_dropLine 3 rfl) (x_goto (dA d_M_dropLine 4 rfl) rfl hq)) ?_
    exact S_M_dropLine_12 hd  L (inR_lit (1 : Int) rfl)
/-! TwoMillsModel.callBuiltIn(III)V -/
noncomputable def F_M_callBuiltIn_124 (s1 : Int) (s2 : Int) (h : MH) : RS Unit := bnd (F_M_comeArgument s1 s2 h) fun x3 h1 => some (.inl (), h1)
theorem S_M_callBuiltIn_124 {d : Nat} (hd : 4 ≤ d) {s1 : Int} {s2 : Int} {h : MH} (L : LayC h) (rs1 : inR s1) (rs2 : inR s2) : OK d k_M_callBuiltIn 124 [mN, mN, mN, mN] [mI s2, mI s1, mR 107] h cV pT (F_M_callBuiltIn_124  s1 s2 h) := by
  unfold F_M_callBuiltIn_124
  refine z_bnd (rest := []) (st1 := fun _ => []) (S_M_comeArgument (d := 1) (Nat.le_refl _) L rs1 rs2) (fun _ hx => absurd hx List.not_mem_nil) (fun _ => rfl) (fun Q' Q => x_callV (as := [mI s1, mI s2]) (rest := []) (k' := k_M_comeArgument) (dA d_M_callBuiltIn 44 rfl) o_M_comeArgument lk_M_232 im_M_comeArgument se_M_comeArgument rfl (L.sh (x := (12, 66)) rfl) (by decide) (Nat.le_of_ble_eq_true rfl) (Nat.le_trans (Nat.le_of_ble_eq_true rfl) hd) (Nat.le_of_ble_eq_true rfl)) (fun x3 h1 e2 p4 => ?_)
  have L5 := L.ext e2
  refine z_go (fun Q hq => x_goto (dA d_M_callBuiltIn 45 rfl) rfl hq) ?_
  exact z_retv (dA d_M_callBuiltIn 64 rfl) rfl
noncomputable def F_M_callBuiltIn_103 (s1 : Int) (s2 : Int) (h : MH) : RS Unit := bnd (F_M_comeArgument s1 s2 h) fun x8 h6 => some (.inl (), h6)
theorem S_M_callBuiltIn_103 {d : Nat} (hd : 4 ≤ d) {s1 : Int} {s2 : Int} {h : MH} (L : LayC h) (rs1 : inR s1) (rs2 : inR s2) : OK d k_M_callBuiltIn 103 [mN, mN, mN, mN] [mI s2, mI s1, mR 107] h cV pT (F_M_callBuiltIn_103  s1 s2 h) := by
  unfold F_M_callBuiltIn_103
  refine z_bnd (rest := []) (st1 := fun _ => []) (S_M_comeArgument (d := 1) (Nat.le_refl _) L rs1 rs2) (fun _ hx => absurd hx List.not_mem_nil) (fun _ => rfl) (fun Q' Q => x_callV (as := [mI s1, mI s2]) (rest := []) (k' := k_M_comeArgument) (dA d_M_callBuiltIn 33 rfl) o_M_comeArgument lk_M_232 im_M_comeArgument se_M_comeArgument rfl (L.sh (x := (12, 66)) rfl) (by decide) (Nat.le_of_ble_eq_true rfl) (Nat.le_trans (Nat.le_of_ble_eq_true rfl) hd) (Nat.le_of_ble_eq_true rfl)) (fun x8 h6 e7 p9 => ?_)
  have L10 := L.ext e7
  refine z_go (fun Q hq => x_goto (dA d_M_callBuiltIn 34 rfl) rfl hq) ?_
  exact z_retv (dA d_M_callBuiltIn 64 rfl) rfl
noncomputable def F_M_callBuiltIn (a1 : Int) (a2 : Int) (a3 : Int) (h : MH) : RS Unit := if a1 = (0 : Int) then bnd (F_M_define a2 (0 : Int) h) fun x14 h12 => some (.inl (), h12) else if a1 = (1 : Int) then bnd (F_M_define a2 (1 : Int) h) fun x20 h18 => some (.inl (), h18) else if a1 = (2 : Int) then bnd (F_M_wordOf a2 (0 : Int) h) fun x26 h24 => bnd (F_M_latest x26 h24) fun x31 h29 => bnd (F_M_popDefinition x31 h29) fun x36 h34 => some (.inl (), h34) else if a1 = (3 : Int) then bnd (F_M_wordOf a2 (0 : Int) h) fun x42 h40 => bnd (F_M_latest x42 h40) fun x47 h45 => if x47 < 0 then F_M_callBuiltIn_103 a2 (2 : Int) h45 else F_M_callBuiltIn_103 a2 (1 : Int) h45 else if a1 = (4 : Int) then bnd (F_M_areAlike a2 h) fun x54 h52 => if x54 = 0 then F_M_callBuiltIn_124 a2 (3 : Int) h52 else F_M_callBuiltIn_124 a2 (2 : Int) h52 else if a1 = (5 : Int) then bnd (F_M_increase a2 h) fun x61 h59 => some (.inl (), h59) else if a1 = (6 : Int) then bnd (F_M_size a2 (0 : Int) h) fun x67 h65 => bnd (F_M_comeNumber x67 h65) fun x72 h70 => some (.inl (), h70) else if a1 = (7 : Int) then bnd (F_M_shift a2 a3 h) fun x78 h76 => some (.inl (), h76) else bnd (F_M_dropLine h) fun x83 h81 => some (.inl (), h81)
theorem S_M_callBuiltIn {d : Nat} (hd : 4 ≤ d) {a1 : Int} {a2 : Int} {a3 : Int} {h : MH} (L : LayC h) (ra1 : inR a1) (ra2 : inR a2) (ra3 : inR a3) : OK d k_M_callBuiltIn 0 [mR 107, mI a1, mI a2, mI a3] [] h cV pT (F_M_callBuiltIn  a1 a2 a3 h) := by
  unfold F_M_callBuiltIn
  refine z_go (fun Q hq => x_iload_n (dA d_M_callBuiltIn 0 rfl) rfl rfl hq) ?_
  refine z_ite (fun c11 => ?_) (fun c11 => ?_)
  · refine z_go (fun Q hq => x_tableIn (dA d_M_callBuiltIn 1 rfl) ra1 (by rw [c11] <;> decide) (by rw [c11] <;> decide) (by rw [c11] <;> rfl) rfl hq) ?_
    refine z_go (fun Q hq => x_aload_n (dA d_M_callBuiltIn 2 rfl) rfl rfl (x_iload_n (dA d_M_callBuiltIn 3 rfl) rfl rfl (x_iconst (dA d_M_callBuiltIn 4 rfl) hq))) ?_
    refine z_bnd (rest := []) (st1 := fun _ => []) (S_M_define (d := 3) (Nat.le_refl _) L ra2 (.inl rfl)) (fun _ hx => absurd hx List.not_mem_nil) (fun _ => rfl) (fun Q' Q => x_callV (as := [mI a2, mI (0 : Int)]) (rest := []) (k' := k_M_define) (dA d_M_callBuiltIn 5 rfl) o_M_define lk_M_236 im_M_define se_M_define rfl (L.sh (x := (12, 66)) rfl) (by decide) (Nat.le_of_ble_eq_true rfl) (Nat.le_trans (Nat.le_of_ble_eq_true rfl) hd) (Nat.le_of_ble_eq_true rfl)) (fun x14 h12 e13 p15 => ?_)
    have L16 := L.ext e13
    refine z_go (fun Q hq => x_goto (dA d_M_callBuiltIn 6 rfl) rfl hq) ?_
    exact z_retv (dA d_M_callBuiltIn 64 rfl) rfl
  refine z_ite (fun c17 => ?_) (fun c17 => ?_)
  · refine z_go (fun Q hq => x_tableIn (dA d_M_callBuiltIn 1 rfl) ra1 (by rw [c17] <;> decide) (by rw [c17] <;> decide) (by rw [c17] <;> rfl) rfl hq) ?_
    refine z_go (fun Q hq => x_aload_n (dA d_M_callBuiltIn 7 rfl) rfl rfl (x_iload_n (dA d_M_callBuiltIn 8 rfl) rfl rfl (x_iconst (dA d_M_callBuiltIn 9 rfl) hq))) ?_
    refine z_bnd (rest := []) (st1 := fun _ => []) (S_M_define (d := 3) (Nat.le_refl _) L ra2 (.inr rfl)) (fun _ hx => absurd hx List.not_mem_nil) (fun _ => rfl) (fun Q' Q => x_callV (as := [mI a2, mI (1 : Int)]) (rest := []) (k' := k_M_define) (dA d_M_callBuiltIn 10 rfl) o_M_define lk_M_236 im_M_define se_M_define rfl (L.sh (x := (12, 66)) rfl) (by decide) (Nat.le_of_ble_eq_true rfl) (Nat.le_trans (Nat.le_of_ble_eq_true rfl) hd) (Nat.le_of_ble_eq_true rfl)) (fun x20 h18 e19 p21 => ?_)
    have L22 := L.ext e19
    refine z_go (fun Q hq => x_goto (dA d_M_callBuiltIn 11 rfl) rfl hq) ?_
    exact z_retv (dA d_M_callBuiltIn 64 rfl) rfl
  refine z_ite (fun c23 => ?_) (fun c23 => ?_)
  · refine z_go (fun Q hq => x_tableIn (dA d_M_callBuiltIn 1 rfl) ra1 (by rw [c23] <;> decide) (by rw [c23] <;> decide) (by rw [c23] <;> rfl) rfl hq) ?_
    refine z_go (fun Q hq => x_aload_n (dA d_M_callBuiltIn 12 rfl) rfl rfl (x_aload_n (dA d_M_callBuiltIn 13 rfl) rfl rfl (x_aload_n (dA d_M_callBuiltIn 14 rfl) rfl rfl (x_iload_n (dA d_M_callBuiltIn 15 rfl) rfl rfl (x_iconst (dA d_M_callBuiltIn 16 rfl) hq))))) ?_
    refine z_bnd (rest := [mR 107, mR 107]) (st1 := fun v => mL v :: [mR 107, mR 107]) (S_M_wordOf (d := 2) (Nat.le_refl _) L ra2 (inR_lit (0 : Int) rfl)) (fun _ hx => absurd hx List.not_mem_nil) (fun _ => rfl) (fun Q' Q => x_callV (as := [mI a2, mI (0 : Int)]) (rest := [mR 107, mR 107]) (k' := k_M_wordOf) (dA d_M_callBuiltIn 17 rfl) o_M_wordOf lk_M_214 im_M_wordOf se_M_wordOf rfl (L.sh (x := (12, 66)) rfl) (by decide) (Nat.le_of_ble_eq_true rfl) (Nat.le_trans (Nat.le_of_ble_eq_true rfl) hd) (Nat.le_of_ble_eq_true rfl)) (fun x26 h24 e25 p27 => ?_)
    have L28 := L.ext e25
    refine z_bnd (rest := [mR 107]) (st1 := fun v => mI v :: [mR 107]) (S_M_latest (d := 0) (Nat.le_refl _) L28 ) (fun _ hx => absurd hx List.not_mem_nil) (fun _ => rfl) (fun Q' Q => x_callV (as := [mL x26]) (rest := [mR 107]) (k' := k_M_latest) (dA d_M_callBuiltIn 18 rfl) o_M_latest lk_M_218 im_M_latest se_M_latest rfl (L28.sh (x := (12, 66)) rfl) (by decide) (Nat.le_of_ble_eq_true rfl) (Nat.le_trans (Nat.le_of_ble_eq_true rfl) hd) (Nat.le_of_ble_eq_true rfl)) (fun x31 h29 e30 p32 => ?_)
    have L33 := L28.ext e30
    refine z_bnd (rest := []) (st1 := fun _ => []) (S_M_popDefinition (d := 0) (Nat.le_refl _) L33 p32) (fun _ hx => absurd hx List.not_mem_nil) (fun _ => rfl) (fun Q' Q => x_callV (as := [mI x31]) (rest := []) (k' := k_M_popDefinition) (dA d_M_callBuiltIn 19 rfl) o_M_popDefinition lk_M_240 im_M_popDefinition se_M_popDefinition rfl (L33.sh (x := (12, 66)) rfl) (by decide) (Nat.le_of_ble_eq_true rfl) (Nat.le_trans (Nat.le_of_ble_eq_true rfl) hd) (Nat.le_of_ble_eq_true rfl)) (fun x36 h34 e35 p37 => ?_)
    have L38 := L33.ext e35
    refine z_go (fun Q hq => x_goto (dA d_M_callBuiltIn 20 rfl) rfl hq) ?_
    exact z_retv (dA d_M_callBuiltIn 64 rfl) rfl
  refine z_ite (fun c39 => ?_) (fun c39 => ?_)
  · refine z_go (fun Q hq => x_tableIn (dA d_M_callBuiltIn 1 rfl) ra1 (by rw [c39] <;> decide) (by rw [c39] <;> decide) (by rw [c39] <;> rfl) rfl hq) ?_
    refine z_go (fun Q hq => x_aload_n (dA d_M_callBuiltIn 21 rfl) rfl rfl (x_iload_n (dA d_M_callBuiltIn 22 rfl) rfl rfl (x_aload_n (dA d_M_callBuiltIn 23 rfl) rfl rfl (x_aload_n (dA d_M_callBuiltIn 24 rfl) rfl rfl (x_iload_n (dA d_M_callBuiltIn 25 rfl) rfl rfl (x_iconst (dA d_M_callBuiltIn 26 rfl) hq)))))) ?_
    refine z_bnd (rest := [mR 107, mI a2, mR 107]) (st1 := fun v => mL v :: [mR 107, mI a2, mR 107]) (S_M_wordOf (d := 2) (Nat.le_refl _) L ra2 (inR_lit (0 : Int) rfl)) (fun _ hx => absurd hx List.not_mem_nil) (fun _ => rfl) (fun Q' Q => x_callV (as := [mI a2, mI (0 : Int)]) (rest := [mR 107, mI a2, mR 107]) (k' := k_M_wordOf) (dA d_M_callBuiltIn 27 rfl) o_M_wordOf lk_M_214 im_M_wordOf se_M_wordOf rfl (L.sh (x := (12, 66)) rfl) (by decide) (Nat.le_of_ble_eq_true rfl) (Nat.le_trans (Nat.le_of_ble_eq_true rfl) hd) (Nat.le_of_ble_eq_true rfl)) (fun x42 h40 e41 p43 => ?_)
    have L44 := L.ext e41
    refine z_bnd (rest := [mI a2, mR 107]) (st1 := fun v => mI v :: [mI a2, mR 107]) (S_M_latest (d := 0) (Nat.le_refl _) L44 ) (fun _ hx => absurd hx List.not_mem_nil) (fun _ => rfl) (fun Q' Q => x_callV (as := [mL x42]) (rest := [mI a2, mR 107]) (k' := k_M_latest) (dA d_M_callBuiltIn 28 rfl) o_M_latest lk_M_218 im_M_latest se_M_latest rfl (L44.sh (x := (12, 66)) rfl) (by decide) (Nat.le_of_ble_eq_true rfl) (Nat.le_trans (Nat.le_of_ble_eq_true rfl) hd) (Nat.le_of_ble_eq_true rfl)) (fun x47 h45 e46 p48 => ?_)
    have L49 := L44.ext e46
    refine z_br (fun Q => x_if_lt (dA d_M_callBuiltIn 29 rfl) rfl p48) (fun c50 => ?_) (fun c50 => ?_)
    · refine z_go (fun Q hq => x_iconst (dA d_M_callBuiltIn 32 rfl) hq) ?_
      refine z_fgt (ls' := [mN, mN, mN, mN]) ⟨.inl rfl, .inl rfl, .inl rfl, .inl rfl, trivial⟩ ?_
      exact S_M_callBuiltIn_103 hd  L49 ra2 (inR_lit (2 : Int) rfl)
    · refine z_go (fun Q hq => x_iconst (dA d_M_callBuiltIn 30 rfl) (x_goto (dA d_M_callBuiltIn 31 rfl) rfl hq)) ?_
      refine z_fgt (ls' := [mN, mN, mN, mN]) ⟨.inl rfl, .inl rfl, .inl rfl, .inl rfl, trivial⟩ ?_
      exact S_M_callBuiltIn_103 hd  L49 ra2 (inR_lit (1 : Int) rfl)
  refine z_ite (fun c51 => ?_) (fun c51 => ?_)
  · refine z_go (fun Q hq => x_tableIn (dA d_M_callBuiltIn 1 rfl) ra1 (by rw [c51] <;> decide) (by rw [c51] <;> decide) (by rw [c51] <;> rfl) rfl hq) ?_
    refine z_go (fun Q hq => x_aload_n (dA d_M_callBuiltIn 35 rfl) rfl rfl (x_iload_n (dA d_M_callBuiltIn 36 rfl) rfl rfl (x_aload_n (dA d_M_callBuiltIn 37 rfl) rfl rfl (x_iload_n (dA d_M_callBuiltIn 38 rfl) rfl rfl hq)))) ?_
    refine z_bnd (rest := [mI a2, mR 107]) (st1 := fun v => mI v :: [mI a2, mR 107]) (S_M_areAlike (d := 2) (Nat.le_refl _) L ra2) (fun _ hx => absurd hx List.not_mem_nil) (fun _ => rfl) (fun Q' Q => x_callV (as := [mI a2]) (rest := [mI a2, mR 107]) (k' := k_M_areAlike) (dA d_M_callBuiltIn 39 rfl) o_M_areAlike lk_M_243 im_M_areAlike se_M_areAlike rfl (L.sh (x := (12, 66)) rfl) (by decide) (Nat.le_of_ble_eq_true rfl) (Nat.le_trans (Nat.le_of_ble_eq_true rfl) hd) (Nat.le_of_ble_eq_true rfl)) (fun x54 h52 e53 p55 => ?_)
    have L56 := L.ext e53
    refine z_br (fun Q => x_if_eq (dA d_M_callBuiltIn 40 rfl) rfl p55.inR) (fun c57 => ?_) (fun c57 => ?_)
    · refine z_go (fun Q hq => x_iconst (dA d_M_callBuiltIn 43 rfl) hq) ?_
      refine z_fgt (ls' := [mN, mN, mN, mN]) ⟨.inl rfl, .inl rfl, .inl rfl, .inl rfl, trivial⟩ ?_
      exact S_M_callBuiltIn_124 hd  L56 ra2 (inR_lit (3 : Int) rfl)
    · refine z_go (fun Q hq => x_iconst (dA d_M_callBuiltIn 41 rfl) (x_goto (dA d_M_callBuiltIn 42 rfl) rfl hq)) ?_
      refine z_fgt (ls' := [mN, mN, mN, mN]) ⟨.inl rfl, .inl rfl, .inl rfl, .inl rfl, trivial⟩ ?_
      exact S_M_callBuiltIn_124 hd  L56 ra2 (inR_lit (2 : Int) rfl)
  refine z_ite (fun c58 => ?_) (fun c58 => ?_)
  · refine z_go (fun Q hq => x_tableIn (dA d_M_callBuiltIn 1 rfl) ra1 (by rw [c58] <;> decide) (by rw [c58] <;> decide) (by rw [c58] <;> rfl) rfl hq) ?_
    refine z_go (fun Q hq => x_aload_n (dA d_M_callBuiltIn 46 rfl) rfl rfl (x_iload_n (dA d_M_callBuiltIn 47 rfl) rfl rfl hq)) ?_
    refine z_bnd (rest := []) (st1 := fun _ => []) (S_M_increase (d := 2) (Nat.le_refl _) L ra2) (fun _ hx => absurd hx List.not_mem_nil) (fun _ => rfl) (fun Q' Q => x_callV (as := [mI a2]) (rest := []) (k' := k_M_increase) (dA d_M_callBuiltIn 48 rfl) o_M_increase lk_M_246 im_M_increase se_M_increase rfl (L.sh (x := (12, 66)) rfl) (by decide) (Nat.le_of_ble_eq_true rfl) (Nat.le_trans (Nat.le_of_ble_eq_true rfl) hd) (Nat.le_of_ble_eq_true rfl)) (fun x61 h59 e60 p62 => ?_)
    have L63 := L.ext e60
    refine z_go (fun Q hq => x_goto (dA d_M_callBuiltIn 49 rfl) rfl hq) ?_
    exact z_retv (dA d_M_callBuiltIn 64 rfl) rfl
  refine z_ite (fun c64 => ?_) (fun c64 => ?_)
  · refine z_go (fun Q hq => x_tableIn (dA d_M_callBuiltIn 1 rfl) ra1 (by rw [c64] <;> decide) (by rw [c64] <;> decide) (by rw [c64] <;> rfl) rfl hq) ?_
    refine z_go (fun Q hq => x_aload_n (dA d_M_callBuiltIn 50 rfl) rfl rfl (x_aload_n (dA d_M_callBuiltIn 51 rfl) rfl rfl (x_iload_n (dA d_M_callBuiltIn 52 rfl) rfl rfl (x_iconst (dA d_M_callBuiltIn 53 rfl) hq)))) ?_
    refine z_bnd (rest := [mR 107]) (st1 := fun v => mI v :: [mR 107]) (S_M_size (d := 1) (Nat.le_refl _) L ra2 (inR_lit (0 : Int) rfl)) (fun _ hx => absurd hx List.not_mem_nil) (fun _ => rfl) (fun Q' Q => x_callV (as := [mI a2, mI (0 : Int)]) (rest := [mR 107]) (k' := k_M_size) (dA d_M_callBuiltIn 54 rfl) o_M_size lk_M_208 im_M_size se_M_size rfl (L.sh (x := (12, 66)) rfl) (by decide) (Nat.le_of_ble_eq_true rfl) (Nat.le_trans (Nat.le_of_ble_eq_true rfl) hd) (Nat.le_of_ble_eq_true rfl)) (fun x67 h65 e66 p68 => ?_)
    have L69 := L.ext e66
    refine z_bnd (rest := []) (st1 := fun _ => []) (S_M_comeNumber (d := 1) (Nat.le_refl _) L69 p68) (fun _ hx => absurd hx List.not_mem_nil) (fun _ => rfl) (fun Q' Q => x_callV (as := [mI x67]) (rest := []) (k' := k_M_comeNumber) (dA d_M_callBuiltIn 55 rfl) o_M_comeNumber lk_M_225 im_M_comeNumber se_M_comeNumber rfl (L69.sh (x := (12, 66)) rfl) (by decide) (Nat.le_of_ble_eq_true rfl) (Nat.le_trans (Nat.le_of_ble_eq_true rfl) hd) (Nat.le_of_ble_eq_true rfl)) (fun x72 h70 e71 p73 => ?_)
    have L74 := L69.ext e71
    refine z_go (fun Q hq => x_goto (dA d_M_callBuiltIn 56 rfl) rfl hq) ?_
    exact z_retv (dA d_M_callBuiltIn 64 rfl) rfl
  refine z_ite (fun c75 => ?_) (fun c75 => ?_)
  · refine z_go (fun Q hq => x_tableIn (dA d_M_callBuiltIn 1 rfl) ra1 (by rw [c75] <;> decide) (by rw [c75] <;> decide) (by rw [c75] <;> rfl) rfl hq) ?_
    refine z_go (fun Q hq => x_aload_n (dA d_M_callBuiltIn 57 rfl) rfl rfl (x_iload_n (dA d_M_callBuiltIn 58 rfl) rfl rfl (x_iload_n (dA d_M_callBuiltIn 59 rfl) rfl rfl hq))) ?_
    refine z_bnd (rest := []) (st1 := fun _ => []) (S_M_shift (d := 2) (Nat.le_refl _) L ra2 ra3) (fun _ hx => absurd hx List.not_mem_nil) (fun _ => rfl) (fun Q' Q => x_callV (as := [mI a2, mI a3]) (rest := []) (k' := k_M_shift) (dA d_M_callBuiltIn 60 rfl) o_M_shift lk_M_249 im_M_shift se_M_shift rfl (L.sh (x := (12, 66)) rfl) (by decide) (Nat.le_of_ble_eq_true rfl) (Nat.le_trans (Nat.le_of_ble_eq_true rfl) hd) (Nat.le_of_ble_eq_true rfl)) (fun x78 h76 e77 p79 => ?_)
    have L80 := L.ext e77
    refine z_go (fun Q hq => x_goto (dA d_M_callBuiltIn 61 rfl) rfl hq) ?_
    exact z_retv (dA d_M_callBuiltIn 64 rfl) rfl
  refine z_go (fun Q hq => x_tableOut (dA d_M_callBuiltIn 1 rfl) ra1 (by omega) rfl hq) ?_
  refine z_go (fun Q hq => x_aload_n (dA d_M_callBuiltIn 62 rfl) rfl rfl hq) ?_
  refine z_bnd (rest := []) (st1 := fun _ => []) (S_M_dropLine (d := 0) (Nat.le_refl _) L ) (fun _ hx => absurd hx List.not_mem_nil) (fun _ => rfl) (fun Q' Q => x_callV (as := []) (rest := []) (k' := k_M_dropLine) (dA d_M_callBuiltIn 63 rfl) o_M_dropLine lk_M_252 im_M_dropLine se_M_dropLine rfl (L.sh (x := (12, 66)) rfl) (by decide) (Nat.le_of_ble_eq_true rfl) (Nat.le_trans (Nat.le_of_ble_eq_true rfl) hd) (Nat.le_of_ble_eq_true rfl)) (fun x83 h81 e82 p84 => ?_)
  have L85 := L.ext e82
  exact z_retv (dA d_M_callBuiltIn 64 rfl) rfl
/-! TwoMillsModel.call(II)V -/
noncomputable def F_M_call_113_b (G113 : Int → MH → RS Unit) (v4 : Int) (h : MH) : RS Unit := if (mGi h 107 9) ≤ v4 then gd (inR ((mGi h 107 3) + (mGi h 107 9))) (sto (mPi h 107 3 ((mGi h 107 3) + (mGi h 107 9))) fun h3 => some (.inl (), h3)) else gd (inR ((mGi h 107 3) + (mGi h 107 9))) (gd (inR (((mGi h 107 3) + (mGi h 107 9)) - (1 : Int))) (gd (inR ((((mGi h 107 3) + (mGi h 107 9)) - (1 : Int)) - v4)) (gd (0 ≤ v4 ∧ v4 < 500) (gd (0 ≤ ((((mGi h 107 3) + (mGi h 107 9)) - (1 : Int)) - v4) ∧ ((((mGi h 107 3) + (mGi h 107 9)) - (1 : Int)) - v4) < 500) (sto (mPi h 109 ((((mGi h 107 3) + (mGi h 107 9)) - (1 : Int)) - v4).toNat (mGi h 113 v4.toNat)) fun h11 => gd (inR (v4 + (1 : Int))) (G113 (v4 + (1 : Int)) h11))))))
theorem S_M_call_113_b {d : Nat} (hd : 5 ≤ d) {G113 : Int → MH → RS Unit} (hG113 : ∀ (v4 : Int) (h : MH), LayC h → inR v4 → OK d k_M_call 113 [mR 107, mN, mN, mN, mI v4] [] h cV pT (G113 v4 h)) {v4 : Int} {h : MH} (L : LayC h) (rv4 : inR v4) : OK d k_M_call 113 [mR 107, mN, mN, mN, mI v4] [] h cV pT (F_M_call_113_b G113 v4 h) := by
  unfold F_M_call_113_b
  refine z_go (fun Q hq => x_iload (dA d_M_call 64 rfl) rfl (x_aload_n (dA d_M_call 65 rfl) rfl rfl (x_getI (dA d_M_call 66 rfl) f_M_189 (L.sh (x := (12, 66)) rfl) (by decide) (by decide) rfl hq))) ?_
  refine z_br (fun Q => x_icmp_ge (dA d_M_call 67 rfl) rfl rv4 (L.rg _ _)) (fun c1 => ?_) (fun c1 => ?_)
  · refine z_go (fun Q hq => x_aload_n (dA d_M_call 86 rfl) rfl rfl (x_dup (dA d_M_call 87 rfl) rfl (x_getI (dA d_M_call 88 rfl) f_M_192 (L.sh (x := (12, 66)) rfl) (by decide) (by decide) rfl (x_aload_n (dA d_M_call 89 rfl) rfl rfl (x_getI (dA d_M_call 90 rfl) f_M_189 (L.sh (x := (12, 66)) rfl) (by decide) (by decide) rfl hq))))) ?_
    refine z_gd (fun g2 => ?_)
    refine z_go (fun Q hq => x_iadd (dA d_M_call 91 rfl) hq) ?_
    refine z_sto (Ext.pi (L.sh (x := (12, 66)) rfl) (by decide) g2) (fun Q hq => x_putI (dA d_M_call 92 rfl) p_M_192 (L.sh (x := (12, 66)) rfl) (by decide) cl_M rfl hq) (fun h3 e4 => ?_)
    have L5 := L.ext e4
    exact z_retv (dA d_M_call 93 rfl) rfl
  · refine z_go (fun Q hq => x_aload_n (dA d_M_call 68 rfl) rfl rfl (x_getR (dA d_M_call 69 rfl) f_M_13 (L.sh (x := (12, 66)) rfl) (by decide) (by decide) rfl (L.rf 110 rfl) (x_aload_n (dA d_M_call 70 rfl) rfl rfl (x_getI (dA d_M_call 71 rfl) f_M_192 (L.sh (x := (12, 66)) rfl) (by decide) (by decide) rfl (x_aload_n (dA d_M_call 72 rfl) rfl rfl (x_getI (dA d_M_call 73 rfl) f_M_189 (L.sh (x := (12, 66)) rfl) (by decide) (by decide) rfl hq)))))) ?_
    refine z_gd (fun g6 => ?_)
    refine z_go (fun Q hq => x_iadd (dA d_M_call 74 rfl) (x_iconst (dA d_M_call 75 rfl) hq)) ?_
    refine z_gd (fun g7 => ?_)
    refine z_go (fun Q hq => x_isub (dA d_M_call 76 rfl) (x_iload (dA d_M_call 77 rfl) rfl hq)) ?_
    refine z_gd (fun g8 => ?_)
    refine z_go (fun Q hq => x_isub (dA d_M_call 78 rfl) (x_aload_n (dA d_M_call 79 rfl) rfl rfl (x_getR (dA d_M_call 80 rfl) f_M_25 (L.sh (x := (12, 66)) rfl) (by decide) (by decide) rfl (L.rf 114 rfl) (x_iload (dA d_M_call 81 rfl) rfl hq)))) ?_
    refine z_gd (fun g9 => ?_)
    refine z_go (fun Q hq => x_cald (dA d_M_call 82 rfl) (L.sh (x := (101, 500)) rfl) g9.1 g9.2 (by decide) hq) ?_
    refine z_gd (fun g10 => ?_)
    refine z_sto (Ext.pc (L.ch (L.sh (x := (101, 500)) rfl) _).1 (L.ch (L.sh (x := (101, 500)) rfl) _).2) (fun Q hq => x_cast (dA d_M_call 83 rfl) (L.sh (x := (101, 500)) rfl) g10.1 g10.2 (by decide) (L.ch (L.sh (x := (101, 500)) rfl) _).1 (L.ch (L.sh (x := (101, 500)) rfl) _).2 hq) (fun h11 e12 => ?_)
    have L13 := L.ext e12
    refine z_gd (fun g14 => ?_)
    refine z_go (fun Q hq => x_iinc (dA d_M_call 84 rfl) rfl (by decide) rfl (x_goto (dA d_M_call 85 rfl) rfl hq)) ?_
    exact hG113 (v4 + (1 : Int)) h11 L13 g14
noncomputable def F_M_call_113 (v4 : Int) (h : MH) : RS Unit := itr (fun self (q : Int × MH) => F_M_call_113_b (fun v4 h => self (v4, h)) q.1 q.2) FU (v4, h)
theorem S_M_call_113 {d : Nat} (hd : 5 ≤ d) {v4 : Int} {h : MH} (L : LayC h) (rv4 : inR v4) : OK d k_M_call 113 [mR 107, mN, mN, mN, mI v4] [] h cV pT (F_M_call_113  v4 h) := by
  unfold F_M_call_113
  refine z_itr (P := fun q : Int × MH => LayC q.2 ∧ inR q.1 ∧ True) (ls := fun q : Int × MH => [mR 107, mN, mN, mN, mI q.1]) (hp := fun q : Int × MH => q.2) (fun self hs q hq => ?_) FU (v4, h) ⟨L, rv4, trivial⟩
  exact S_M_call_113_b hd (fun v4 h L rv4 => hs (v4, h) ⟨L, rv4, trivial⟩) hq.1 hq.2.1
noncomputable def F_M_call_102 (s1 : Int) (h : MH) : RS Unit := gd (p01 s1) (bnd (F_M_need s1 (1 : Int) h) fun x18 h16 => if x18 = 0 then some (.inl (), h16) else F_M_call_113 (0 : Int) h16)
theorem S_M_call_102 {d : Nat} (hd : 5 ≤ d) {s1 : Int} {h : MH} (L : LayC h) (rs1 : inR s1) : OK d k_M_call 102 [mR 107, mN, mN, mN, mN] [mI s1, mR 107] h cV pT (F_M_call_102  s1 h) := by
  unfold F_M_call_102
  refine z_go (fun Q hq => x_iconst (dA d_M_call 58 rfl) hq) ?_
  refine z_gd (fun g15 => ?_)
  refine z_bnd (rest := []) (st1 := fun v => mI v :: []) (S_M_need (d := 1) (Nat.le_refl _) L g15 (inR_lit (1 : Int) rfl)) (fun _ hx => absurd hx List.not_mem_nil) (fun _ => rfl) (fun Q' Q => x_callV (as := [mI s1, mI (1 : Int)]) (rest := []) (k' := k_M_need) (dA d_M_call 59 rfl) o_M_need lk_M_181 im_M_need se_M_need rfl (L.sh (x := (12, 66)) rfl) (by decide) (Nat.le_of_ble_eq_true rfl) (Nat.le_trans (Nat.le_of_ble_eq_true rfl) hd) (Nat.le_of_ble_eq_true rfl)) (fun x18 h16 e17 p19 => ?_)
  have L20 := L.ext e17
  refine z_brn (fun Q => x_if_ne (dA d_M_call 60 rfl) rfl p19.inR) (fun c21 => ?_) (fun c21 => ?_)
  · exact z_retv (dA d_M_call 61 rfl) rfl
  · refine z_go (fun Q hq => x_iconst (dA d_M_call 62 rfl) (x_istore (dA d_M_call 63 rfl) (by decide) rfl hq)) ?_
    exact S_M_call_113 hd  L20 (inR_lit (0 : Int) rfl)
noncomputable def F_M_call_86 (s1 : Int) (h : MH) : RS Unit := sto (mPi h 107 7 s1) fun h22 => if (mGi h22 107 10) = 0 then F_M_call_102 (1 : Int) h22 else F_M_call_102 (0 : Int) h22
theorem S_M_call_86 {d : Nat} (hd : 5 ≤ d) {s1 : Int} {h : MH} (L : LayC h) (rs1 : inR s1) : OK d k_M_call 86 [mR 107, mN, mN, mN, mN] [mI s1, mR 107] h cV pT (F_M_call_86  s1 h) := by
  unfold F_M_call_86
  refine z_sto (Ext.pi (L.sh (x := (12, 66)) rfl) (by decide) rs1) (fun Q hq => x_putI (dA d_M_call 50 rfl) p_M_172 (L.sh (x := (12, 66)) rfl) (by decide) cl_M rfl hq) (fun h22 e23 => ?_)
  have L24 := L.ext e23
  refine z_go (fun Q hq => x_aload_n (dA d_M_call 51 rfl) rfl rfl (x_aload_n (dA d_M_call 52 rfl) rfl rfl (x_getI (dA d_M_call 53 rfl) f_M_185 (L24.sh (x := (12, 66)) rfl) (by decide) (by decide) rfl hq))) ?_
  refine z_brn (fun Q => x_if_ne (dA d_M_call 54 rfl) rfl (L24.rg _ _)) (fun c25 => ?_) (fun c25 => ?_)
  · refine z_go (fun Q hq => x_iconst (dA d_M_call 55 rfl) (x_goto (dA d_M_call 56 rfl) rfl hq)) ?_
    exact S_M_call_102 hd  L24 (inR_lit (1 : Int) rfl)
  · refine z_go (fun Q hq => x_iconst (dA d_M_call 57 rfl) hq) ?_
    exact S_M_call_102 hd  L24 (inR_lit (0 : Int) rfl)
noncomputable def F_M_call_70 (v2 : Int) (s1 : Int) (h : MH) : RS Unit := sto (mPi h 107 8 s1) fun h26 => if 0 ≤ v2 then F_M_call_86 v2 h26 else F_M_call_86 (mGi h26 107 7) h26
theorem S_M_call_70 {d : Nat} (hd : 5 ≤ d) {v2 : Int} {s1 : Int} {h : MH} (L : LayC h) (rv2 : inR v2) (rs1 : inR s1) : OK d k_M_call 70 [mR 107, mN, mI v2, mN, mN] [mI s1, mR 107] h cV pT (F_M_call_70  v2 s1 h) := by
  unfold F_M_call_70
  refine z_sto (Ext.pi (L.sh (x := (12, 66)) rfl) (by decide) rs1) (fun Q hq => x_putI (dA d_M_call 42 rfl) p_M_175 (L.sh (x := (12, 66)) rfl) (by decide) cl_M rfl hq) (fun h26 e27 => ?_)
  have L28 := L.ext e27
  refine z_go (fun Q hq => x_aload_n (dA d_M_call 43 rfl) rfl rfl (x_iload_n (dA d_M_call 44 rfl) rfl rfl hq)) ?_
  refine z_br (fun Q => x_if_ge (dA d_M_call 45 rfl) rfl rv2) (fun c29 => ?_) (fun c29 => ?_)
  · refine z_go (fun Q hq => x_iload_n (dA d_M_call 49 rfl) rfl rfl hq) ?_
    refine z_fgt (ls' := [mR 107, mN, mN, mN, mN]) ⟨.inr rfl, .inl rfl, .inl rfl, .inl rfl, .inl rfl, trivial⟩ ?_
    exact S_M_call_86 hd  L28 rv2
  · refine z_go (fun Q hq => x_aload_n (dA d_M_call 46 rfl) rfl rfl (x_getI (dA d_M_call 47 rfl) f_M_172 (L28.sh (x := (12, 66)) rfl) (by decide) (by decide) rfl (x_goto (dA d_M_call 48 rfl) rfl hq))) ?_
    refine z_fgt (ls' := [mR 107, mN, mN, mN, mN]) ⟨.inr rfl, .inl rfl, .inl rfl, .inl rfl, .inl rfl, trivial⟩ ?_
    exact S_M_call_86 hd  L28 (L28.rg _ _)
noncomputable def F_M_call_49 (v2 : Int) (h : MH) : RS Unit := if 0 ≤ v2 then gd (inR ((6 : Int) * v2)) (gd (0 ≤ ((6 : Int) * v2) ∧ ((6 : Int) * v2) < 36) (F_M_call_70 v2 (mGi h 119 ((6 : Int) * v2).toNat) h)) else F_M_call_70 v2 (mGi h 107 8) h
theorem S_M_call_49 {d : Nat} (hd : 5 ≤ d) {v2 : Int} {h : MH} (L : LayC h) (rv2 : inR v2) : OK d k_M_call 49 [mR 107, mN, mI v2, mN, mN] [] h cV pT (F_M_call_49  v2 h) := by
  unfold F_M_call_49
  refine z_go (fun Q hq => x_aload_n (dA d_M_call 30 rfl) rfl rfl (x_iload_n (dA d_M_call 31 rfl) rfl rfl hq)) ?_
  refine z_br (fun Q => x_if_ge (dA d_M_call 32 rfl) rfl rv2) (fun c30 => ?_) (fun c30 => ?_)
  · refine z_go (fun Q hq => x_aload_n (dA d_M_call 36 rfl) rfl rfl (x_getR (dA d_M_call 37 rfl) f_M_45 (L.sh (x := (12, 66)) rfl) (by decide) (by decide) rfl (L.rf 120 rfl) (x_bipush (dA d_M_call 38 rfl) (by decide) (x_iload_n (dA d_M_call 39 rfl) rfl rfl hq)))) ?_
    refine z_gd (fun g31 => ?_)
    refine z_go (fun Q hq => x_imul (dA d_M_call 40 rfl) hq) ?_
    refine z_gd (fun g32 => ?_)
    refine z_go (fun Q hq => x_iald (dA d_M_call 41 rfl) (L.sh (x := (100, 36)) rfl) g32.1 g32.2 (by decide) hq) ?_
    exact S_M_call_70 hd  L rv2 (L.rg _ _)
  · refine z_go (fun Q hq => x_aload_n (dA d_M_call 33 rfl) rfl rfl (x_getI (dA d_M_call 34 rfl) f_M_175 (L.sh (x := (12, 66)) rfl) (by decide) (by decide) rfl (x_goto (dA d_M_call 35 rfl) rfl hq))) ?_
    exact S_M_call_70 hd  L rv2 (L.rg _ _)
noncomputable def F_M_call_14 (v1 : Int) (v2 : Int) (s0 : Int) (h : MH) : RS Unit := sto (mPi h 107 9 (0 : Int)) fun h33 => sto (mPi h33 107 10 (0 : Int)) fun h36 => if v1 < 0 then gd (inR ((-2 : Int) - v1)) (bnd (F_M_callBuiltIn ((-2 : Int) - v1) v2 s0 h36) fun x43 h41 => F_M_call_49 v2 h41) else bnd (F_M_comeText v1 v2 s0 h36) fun x48 h46 => F_M_call_49 v2 h46
theorem S_M_call_14 {d : Nat} (hd : 5 ≤ d) {v1 : Int} {v2 : Int} {s0 : Int} {h : MH} (L : LayC h) (rv1 : inR v1) (rv2 : inR v2) (rs0 : inR s0) : OK d k_M_call 14 [mR 107, mI v1, mI v2, mN, mN] [mI s0] h cV pT (F_M_call_14  v1 v2 s0 h) := by
  unfold F_M_call_14
  refine z_go (fun Q hq => x_istore_n (dA d_M_call 8 rfl) rfl (by decide) rfl (x_aload_n (dA d_M_call 9 rfl) rfl rfl (x_iconst (dA d_M_call 10 rfl) hq))) ?_
  refine z_sto (Ext.pi (L.sh (x := (12, 66)) rfl) (by decide) (inR_lit (0 : Int) rfl)) (fun Q hq => x_putI (dA d_M_call 11 rfl) p_M_189 (L.sh (x := (12, 66)) rfl) (by decide) cl_M rfl hq) (fun h33 e34 => ?_)
  have L35 := L.ext e34
  refine z_go (fun Q hq => x_aload_n (dA d_M_call 12 rfl) rfl rfl (x_iconst (dA d_M_call 13 rfl) hq)) ?_
  refine z_sto (Ext.pi (L35.sh (x := (12, 66)) rfl) (by decide) (inR_lit (0 : Int) rfl)) (fun Q hq => x_putZ (dA d_M_call 14 rfl) p_M_185 (L35.sh (x := (12, 66)) rfl) (by decide) cl_M rfl (.inl rfl) hq) (fun h36 e37 => ?_)
  have L38 := L35.ext e37
  refine z_go (fun Q hq => x_iload_n (dA d_M_call 15 rfl) rfl rfl hq) ?_
  refine z_br (fun Q => x_if_lt (dA d_M_call 16 rfl) rfl rv1) (fun c39 => ?_) (fun c39 => ?_)
  · refine z_go (fun Q hq => x_aload_n (dA d_M_call 23 rfl) rfl rfl (x_bipush (dA d_M_call 24 rfl) (by decide) (x_iload_n (dA d_M_call 25 rfl) rfl rfl hq))) ?_
    refine z_gd (fun g40 => ?_)
    refine z_go (fun Q hq => x_isub (dA d_M_call 26 rfl) (x_iload_n (dA d_M_call 27 rfl) rfl rfl (x_iload_n (dA d_M_call 28 rfl) rfl rfl hq))) ?_
    refine z_bnd (rest := []) (st1 := fun _ => []) (S_M_callBuiltIn (d := 4) (Nat.le_refl _) L38 g40 rv2 rs0) (fun _ hx => absurd hx List.not_mem_nil) (fun _ => rfl) (fun Q' Q => x_callV (as := [mI ((-2 : Int) - v1), mI v2, mI s0]) (rest := []) (k' := k_M_callBuiltIn) (dA d_M_call 29 rfl) o_M_callBuiltIn lk_M_259 im_M_callBuiltIn se_M_callBuiltIn rfl (L38.sh (x := (12, 66)) rfl) (by decide) (Nat.le_of_ble_eq_true rfl) (Nat.le_trans (Nat.le_of_ble_eq_true rfl) hd) (Nat.le_of_ble_eq_true rfl)) (fun x43 h41 e42 p44 => ?_)
    have L45 := L38.ext e42
    refine z_fgt (ls' := [mR 107, mN, mI v2, mN, mN]) ⟨.inr rfl, .inl rfl, .inr rfl, .inl rfl, .inl rfl, trivial⟩ ?_
    exact S_M_call_49 hd  L45 rv2
  · refine z_go (fun Q hq => x_aload_n (dA d_M_call 17 rfl) rfl rfl (x_iload_n (dA d_M_call 18 rfl) rfl rfl (x_iload_n (dA d_M_call 19 rfl) rfl rfl (x_iload_n (dA d_M_call 20 rfl) rfl rfl hq)))) ?_
    refine z_bnd (rest := []) (st1 := fun _ => []) (S_M_comeText (d := 2) (Nat.le_refl _) L38 rv1 rv2 rs0) (fun _ hx => absurd hx List.not_mem_nil) (fun _ => rfl) (fun Q' Q => x_callV (as := [mI v1, mI v2, mI s0]) (rest := []) (k' := k_M_comeText) (dA d_M_call 21 rfl) o_M_comeText lk_M_255 im_M_comeText se_M_comeText rfl (L38.sh (x := (12, 66)) rfl) (by decide) (Nat.le_of_ble_eq_true rfl) (Nat.le_trans (Nat.le_of_ble_eq_true rfl) hd) (Nat.le_of_ble_eq_true rfl)) (fun x48 h46 e47 p49 => ?_)
    have L50 := L38.ext e47
    refine z_go (fun Q hq => x_goto (dA d_M_call 22 rfl) rfl hq) ?_
    refine z_fgt (ls' := [mR 107, mN, mI v2, mN, mN]) ⟨.inr rfl, .inl rfl, .inr rfl, .inl rfl, .inl rfl, trivial⟩ ?_
    exact S_M_call_49 hd  L50 rv2
noncomputable def F_M_call (a1 : Int) (a2 : Int) (h : MH) : RS Unit := if 0 ≤ a2 then gd (0 ≤ a2 ∧ a2 < 6) (F_M_call_14 a1 a2 (mGi h 118 a2.toNat) h) else F_M_call_14 a1 a2 (0 : Int) h
theorem S_M_call {d : Nat} (hd : 5 ≤ d) {a1 : Int} {a2 : Int} {h : MH} (L : LayC h) (ra1 : inR a1) (ra2 : inR a2) : OK d k_M_call 0 [mR 107, mI a1, mI a2, mN, mN] [] h cV pT (F_M_call  a1 a2 h) := by
  unfold F_M_call
  refine z_go (fun Q hq => x_iload_n (dA d_M_call 0 rfl) rfl rfl hq) ?_
  refine z_br (fun Q => x_if_ge (dA d_M_call 1 rfl) rfl ra2) (fun c51 => ?_) (fun c51 => ?_)
  · refine z_go (fun Q hq => x_aload_n (dA d_M_call 4 rfl) rfl rfl (x_getR (dA d_M_call 5 rfl) f_M_42 (L.sh (x := (12, 66)) rfl) (by decide) (by decide) rfl (L.rf 119 rfl) (x_iload_n (dA d_M_call 6 rfl) rfl rfl hq))) ?_
    refine z_gd (fun g52 => ?_)
    refine z_go (fun Q hq => x_iald (dA d_M_call 7 rfl) (L.sh (x := (100, 6)) rfl) g52.1 g52.2 (by decide) hq) ?_
    exact S_M_call_14 hd  L ra1 ra2 (L.rg _ _)
  · refine z_go (fun Q hq => x_iconst (dA d_M_call 2 rfl) (x_goto (dA d_M_call 3 rfl) rfl hq)) ?_
    exact S_M_call_14 hd  L ra1 ra2 (inR_lit (0 : Int) rfl)
/-! TwoMillsModel.quoted()V -/
noncomputable def F_M_quoted_94_b (G94 : Int → Int → MH → RS Unit) (v1 : Int) (v3 : Int) (h : MH) : RS Unit := if v3 ≤ v1 then sto (mPi h 107 3 v1) fun h2 => some (.inl (), h2) else gd (0 ≤ v3 ∧ v3 < 500) (bnd (F_M_put (mGi h 109 v3.toNat) h) fun x8 h6 => gd (inR (v3 + (-1 : Int))) (G94 v1 (v3 + (-1 : Int)) h6))
theorem S_M_quoted_94_b {d : Nat} (hd : 3 ≤ d) {G94 : Int → Int → MH → RS Unit} (hG94 : ∀ (v1 : Int) (v3 : Int) (h : MH), LayC h → inR v1 → inR v3 → OK d k_M_quoted 94 [mR 107, mI v1, mN, mI v3] [] h cV pT (G94 v1 v3 h)) {v1 : Int} {v3 : Int} {h : MH} (L : LayC h) (rv1 : inR v1) (rv3 : inR v3) : OK d k_M_quoted 94 [mR 107, mI v1, mN, mI v3] [] h cV pT (F_M_quoted_94_b G94 v1 v3 h) := by
  unfold F_M_quoted_94_b
  refine z_go (fun Q hq => x_iload_n (dA d_M_quoted 54 rfl) rfl rfl (x_iload_n (dA d_M_quoted 55 rfl) rfl rfl hq)) ?_
  refine z_br (fun Q => x_icmp_le (dA d_M_quoted 56 rfl) rfl rv3 rv1) (fun c1 => ?_) (fun c1 => ?_)
  · refine z_go (fun Q hq => x_aload_n (dA d_M_quoted 65 rfl) rfl rfl (x_iload_n (dA d_M_quoted 66 rfl) rfl rfl hq)) ?_
    refine z_sto (Ext.pi (L.sh (x := (12, 66)) rfl) (by decide) rv1) (fun Q hq => x_putI (dA d_M_quoted 67 rfl) p_M_192 (L.sh (x := (12, 66)) rfl) (by decide) cl_M rfl hq) (fun h2 e3 => ?_)
    have L4 := L.ext e3
    exact z_retv (dA d_M_quoted 68 rfl) rfl
  · refine z_go (fun Q hq => x_aload_n (dA d_M_quoted 57 rfl) rfl rfl (x_aload_n (dA d_M_quoted 58 rfl) rfl rfl (x_getR (dA d_M_quoted 59 rfl) f_M_13 (L.sh (x := (12, 66)) rfl) (by decide) (by decide) rfl (L.rf 110 rfl) (x_iload_n (dA d_M_quoted 60 rfl) rfl rfl hq)))) ?_
    refine z_gd (fun g5 => ?_)
    refine z_go (fun Q hq => x_cald (dA d_M_quoted 61 rfl) (L.sh (x := (101, 500)) rfl) g5.1 g5.2 (by decide) hq) ?_
    refine z_bnd (rest := []) (st1 := fun _ => []) (S_M_put (d := 2) (Nat.le_refl _) L (L.rg _ _)) (fun _ hx => absurd hx List.not_mem_nil) (fun _ => rfl) (fun Q' Q => x_callV (as := [mI (mGi h 109 v3.toNat)]) (rest := []) (k' := k_M_put) (dA d_M_quoted 62 rfl) o_M_put lk_M_262 im_M_put se_M_put rfl (L.sh (x := (12, 66)) rfl) (by decide) (Nat.le_of_ble_eq_true rfl) (Nat.le_trans (Nat.le_of_ble_eq_true rfl) hd) (Nat.le_of_ble_eq_true rfl)) (fun x8 h6 e7 p9 => ?_)
    have L10 := L.ext e7
    refine z_gd (fun g11 => ?_)
    refine z_go (fun Q hq => x_iinc (dA d_M_quoted 63 rfl) rfl (by decide) rfl (x_goto (dA d_M_quoted 64 rfl) rfl hq)) ?_
    exact hG94 v1 (v3 + (-1 : Int)) h6 L10 rv1 g11
noncomputable def F_M_quoted_94 (v1 : Int) (v3 : Int) (h : MH) : RS Unit := itr (fun self (q : Int × Int × MH) => F_M_quoted_94_b (fun v1 v3 h => self (v1, v3, h)) q.1 q.2.1 q.2.2) FU (v1, v3, h)
theorem S_M_quoted_94 {d : Nat} (hd : 3 ≤ d) {v1 : Int} {v3 : Int} {h : MH} (L : LayC h) (rv1 : inR v1) (rv3 : inR v3) : OK d k_M_quoted 94 [mR 107, mI v1, mN, mI v3] [] h cV pT (F_M_quoted_94  v1 v3 h) := by
  unfold F_M_quoted_94
  refine z_itr (P := fun q : Int × Int × MH => LayC q.2.2 ∧ inR q.1 ∧ inR q.2.1 ∧ True) (ls := fun q : Int × Int × MH => [mR 107, mI q.1, mN, mI q.2.1]) (hp := fun q : Int × Int × MH => q.2.2) (fun self hs q hq => ?_) FU (v1, v3, h) ⟨L, rv1, rv3, trivial⟩
  exact S_M_quoted_94_b hd (fun v1 v3 h L rv1 rv3 => hs (v1, v3, h) ⟨L, rv1, rv3, trivial⟩) hq.1 hq.2.1 hq.2.2.1
noncomputable def F_M_quoted_79 (v1 : Int) (s1 : Int) (h : MH) : RS Unit := gd (p01 s1) (bnd (F_M_need s1 (3 : Int) h) fun x15 h13 => if x15 = 0 then some (.inl (), h13) else gd (inR ((mGi h13 107 3) - (2 : Int))) (F_M_quoted_94 v1 ((mGi h13 107 3) - (2 : Int)) h13))
theorem S_M_quoted_79 {d : Nat} (hd : 3 ≤ d) {v1 : Int} {s1 : Int} {h : MH} (L : LayC h) (rv1 : inR v1) (rs1 : inR s1) : OK d k_M_quoted 79 [mR 107, mI v1, mN, mN] [mI s1, mR 107] h cV pT (F_M_quoted_79  v1 s1 h) := by
  unfold F_M_quoted_79
  refine z_go (fun Q hq => x_iconst (dA d_M_quoted 45 rfl) hq) ?_
  refine z_gd (fun g12 => ?_)
  refine z_bnd (rest := []) (st1 := fun v => mI v :: []) (S_M_need (d := 1) (Nat.le_refl _) L g12 (inR_lit (3 : Int) rfl)) (fun _ hx => absurd hx List.not_mem_nil) (fun _ => rfl) (fun Q' Q => x_callV (as := [mI s1, mI (3 : Int)]) (rest := []) (k' := k_M_need) (dA d_M_quoted 46 rfl) o_M_need lk_M_181 im_M_need se_M_need rfl (L.sh (x := (12, 66)) rfl) (by decide) (Nat.le_of_ble_eq_true rfl) (Nat.le_trans (Nat.le_of_ble_eq_true rfl) hd) (Nat.le_of_ble_eq_true rfl)) (fun x15 h13 e14 p16 => ?_)
  have L17 := L.ext e14
  refine z_brn (fun Q => x_if_ne (dA d_M_quoted 47 rfl) rfl p16.inR) (fun c18 => ?_) (fun c18 => ?_)
  · exact z_retv (dA d_M_quoted 48 rfl) rfl
  · refine z_go (fun Q hq => x_aload_n (dA d_M_quoted 49 rfl) rfl rfl (x_getI (dA d_M_quoted 50 rfl) f_M_192 (L17.sh (x := (12, 66)) rfl) (by decide) (by decide) rfl (x_iconst (dA d_M_quoted 51 rfl) hq))) ?_
    refine z_gd (fun g19 => ?_)
    refine z_go (fun Q hq => x_isub (dA d_M_quoted 52 rfl) (x_istore_n (dA d_M_quoted 53 rfl) rfl (by decide) rfl hq)) ?_
    exact S_M_quoted_94 hd  L17 rv1 g19
noncomputable def F_M_quoted_69 (v1 : Int) (v2 : Int) (h : MH) : RS Unit := if v2 = 0 then F_M_quoted_79 v1 (1 : Int) h else F_M_quoted_79 v1 (0 : Int) h
theorem S_M_quoted_69 {d : Nat} (hd : 3 ≤ d) {v1 : Int} {v2 : Int} {h : MH} (L : LayC h) (rv1 : inR v1) (rv2 : inR v2) : OK d k_M_quoted 69 [mR 107, mI v1, mI v2, mN] [] h cV pT (F_M_quoted_69  v1 v2 h) := by
  unfold F_M_quoted_69
  refine z_go (fun Q hq => x_aload_n (dA d_M_quoted 39 rfl) rfl rfl (x_iload_n (dA d_M_quoted 40 rfl) rfl rfl hq)) ?_
  refine z_brn (fun Q => x_if_ne (dA d_M_quoted 41 rfl) rfl rv2) (fun c20 => ?_) (fun c20 => ?_)
  · refine z_go (fun Q hq => x_iconst (dA d_M_quoted 42 rfl) (x_goto (dA d_M_quoted 43 rfl) rfl hq)) ?_
    refine z_fgt (ls' := [mR 107, mI v1, mN, mN]) ⟨.inr rfl, .inr rfl, .inl rfl, .inl rfl, trivial⟩ ?_
    exact S_M_quoted_79 hd  L rv1 (inR_lit (1 : Int) rfl)
  · refine z_go (fun Q hq => x_iconst (dA d_M_quoted 44 rfl) hq) ?_
    refine z_fgt (ls' := [mR 107, mI v1, mN, mN]) ⟨.inr rfl, .inr rfl, .inl rfl, .inl rfl, trivial⟩ ?_
    exact S_M_quoted_79 hd  L rv1 (inR_lit (0 : Int) rfl)
noncomputable def F_M_quoted_64 (G7 : Int → Int → MH → RS Unit) (v1 : Int) (s0 : Int) (s1 : Int) (h : MH) : RS Unit := gd (inR (s0 + s1)) (G7 v1 (s0 + s1) h)
theorem S_M_quoted_64 {d : Nat} (hd : 3 ≤ d) {G7 : Int → Int → MH → RS Unit} (hG7 : ∀ (v1 : Int) (v2 : Int) (h : MH), LayC h → inR v1 → inR v2 → OK d k_M_quoted 7 [mR 107, mI v1, mI v2, mN] [] h cV pT (G7 v1 v2 h)) {v1 : Int} {s0 : Int} {s1 : Int} {h : MH} (L : LayC h) (rv1 : inR v1) (rs0 : inR s0) (rs1 : inR s1) : OK d k_M_quoted 64 [mR 107, mI v1, mN, mN] [mI s1, mI s0] h cV pT (F_M_quoted_64 G7 v1 s0 s1 h) := by
  unfold F_M_quoted_64
  refine z_gd (fun g21 => ?_)
  refine z_go (fun Q hq => x_iadd (dA d_M_quoted 36 rfl) (x_istore_n (dA d_M_quoted 37 rfl) rfl (by decide) rfl (x_goto (dA d_M_quoted 38 rfl) rfl hq))) ?_
  exact hG7 v1 (s0 + s1) h L rv1 g21
noncomputable def F_M_quoted_7_b (G7 : Int → Int → MH → RS Unit) (v1 : Int) (v2 : Int) (h : MH) : RS Unit := if v2 ≤ 0 then F_M_quoted_69 v1 v2 h else if v1 ≤ 0 then F_M_quoted_69 v1 v2 h else gd (inR (v1 + (-1 : Int))) (gd (inR ((mGi h 107 3) - (1 : Int))) (if (v1 + (-1 : Int)) = ((mGi h 107 3) - (1 : Int)) then F_M_quoted_64 G7 (v1 + (-1 : Int)) v2 (0 : Int) h else gd (0 ≤ (v1 + (-1 : Int)) ∧ (v1 + (-1 : Int)) < 500) (if (mGi h 109 (v1 + (-1 : Int)).toNat) = (96 : Int) then F_M_quoted_64 G7 (v1 + (-1 : Int)) v2 (1 : Int) h else if (mGi h 109 (v1 + (-1 : Int)).toNat) = (39 : Int) then F_M_quoted_64 G7 (v1 + (-1 : Int)) v2 (-1 : Int) h else F_M_quoted_64 G7 (v1 + (-1 : Int)) v2 (0 : Int) h)))
theorem S_M_quoted_7_b {d : Nat} (hd : 3 ≤ d) {G7 : Int → Int → MH → RS Unit} (hG7 : ∀ (v1 : Int) (v2 : Int) (h : MH), LayC h → inR v1 → inR v2 → OK d k_M_quoted 7 [mR 107, mI v1, mI v2, mN] [] h cV pT (G7 v1 v2 h)) {v1 : Int} {v2 : Int} {h : MH} (L : LayC h) (rv1 : inR v1) (rv2 : inR v2) : OK d k_M_quoted 7 [mR 107, mI v1, mI v2, mN] [] h cV pT (F_M_quoted_7_b G7 v1 v2 h) := by
  unfold F_M_quoted_7_b
  refine z_go (fun Q hq => x_iload_n (dA d_M_quoted 5 rfl) rfl rfl hq) ?_
  refine z_br (fun Q => x_if_le (dA d_M_quoted 6 rfl) rfl rv2) (fun c22 => ?_) (fun c22 => ?_)
  · exact S_M_quoted_69 hd  L rv1 rv2
  · refine z_go (fun Q hq => x_iload_n (dA d_M_quoted 7 rfl) rfl rfl hq) ?_
    refine z_br (fun Q => x_if_le (dA d_M_quoted 8 rfl) rfl rv1) (fun c23 => ?_) (fun c23 => ?_)
    · exact S_M_quoted_69 hd  L rv1 rv2
    · refine z_gd (fun g24 => ?_)
      refine z_go (fun Q hq => x_iinc (dA d_M_quoted 9 rfl) rfl (by decide) rfl (x_iload_n (dA d_M_quoted 10 rfl) rfl rfl (x_iload_n (dA d_M_quoted 11 rfl) rfl rfl (x_aload_n (dA d_M_quoted 12 rfl) rfl rfl (x_getI (dA d_M_quoted 13 rfl) f_M_192 (L.sh (x := (12, 66)) rfl) (by decide) (by decide) rfl (x_iconst (dA d_M_quoted 14 rfl) hq)))))) ?_
      refine z_gd (fun g25 => ?_)
      refine z_go (fun Q hq => x_isub (dA d_M_quoted 15 rfl) hq) ?_
      refine z_brn (fun Q => x_icmp_ne (dA d_M_quoted 16 rfl) rfl g24 g25) (fun c26 => ?_) (fun c26 => ?_)
      · refine z_go (fun Q hq => x_iconst (dA d_M_quoted 17 rfl) (x_goto (dA d_M_quoted 18 rfl) rfl hq)) ?_
        refine z_fgt (ls' := [mR 107, mI (v1 + (-1 : Int)), mN, mN]) ⟨.inr rfl, .inr rfl, .inl rfl, .inl rfl, trivial⟩ ?_
        exact S_M_quoted_64 hd hG7 L g24 rv2 (inR_lit (0 : Int) rfl)
      · refine z_go (fun Q hq => x_aload_n (dA d_M_quoted 19 rfl) rfl rfl (x_getR (dA d_M_quoted 20 rfl) f_M_13 (L.sh (x := (12, 66)) rfl) (by decide) (by decide) rfl (L.rf 110 rfl) (x_iload_n (dA d_M_quoted 21 rfl) rfl rfl hq))) ?_
        refine z_gd (fun g27 => ?_)
        refine z_go (fun Q hq => x_cald (dA d_M_quoted 22 rfl) (L.sh (x := (101, 500)) rfl) g27.1 g27.2 (by decide) (x_bipush (dA d_M_quoted 23 rfl) (by decide) hq)) ?_
        refine z_brn (fun Q => x_icmp_ne (dA d_M_quoted 24 rfl) rfl (L.rg _ _) (inR_lit (96 : Int) rfl)) (fun c28 => ?_) (fun c28 => ?_)
        · refine z_go (fun Q hq => x_iconst (dA d_M_quoted 25 rfl) (x_goto (dA d_M_quoted 26 rfl) rfl hq)) ?_
          refine z_fgt (ls' := [mR 107, mI (v1 + (-1 : Int)), mN, mN]) ⟨.inr rfl, .inr rfl, .inl rfl, .inl rfl, trivial⟩ ?_
          exact S_M_quoted_64 hd hG7 L g24 rv2 (inR_lit (1 : Int) rfl)
        · refine z_go (fun Q hq => x_aload_n (dA d_M_quoted 27 rfl) rfl rfl (x_getR (dA d_M_quoted 28 rfl) f_M_13 (L.sh (x := (12, 66)) rfl) (by decide) (by decide) rfl (L.rf 110 rfl) (x_iload_n (dA d_M_quoted 29 rfl) rfl rfl (x_cald (dA d_M_quoted 30 rfl) (L.sh (x := (101, 500)) rfl) g27.1 g27.2 (by decide) (x_bipush (dA d_M_quoted 31 rfl) (by decide) hq))))) ?_
          refine z_brn (fun Q => x_icmp_ne (dA d_M_quoted 32 rfl) rfl (L.rg _ _) (inR_lit (39 : Int) rfl)) (fun c29 => ?_) (fun c29 => ?_)
          · refine z_go (fun Q hq => x_iconst (dA d_M_quoted 33 rfl) (x_goto (dA d_M_quoted 34 rfl) rfl hq)) ?_
            refine z_fgt (ls' := [mR 107, mI (v1 + (-1 : Int)), mN, mN]) ⟨.inr rfl, .inr rfl, .inl rfl, .inl rfl, trivial⟩ ?_
            exact S_M_quoted_64 hd hG7 L g24 rv2 (inR_lit (-1 : Int) rfl)
          · refine z_go (fun Q hq => x_iconst (dA d_M_quoted 35 rfl) hq) ?_
            refine z_fgt (ls' := [mR 107, mI (v1 + (-1 : Int)), mN, mN]) ⟨.inr rfl, .inr rfl, .inl rfl, .inl rfl, trivial⟩ ?_
            exact S_M_quoted_64 hd hG7 L g24 rv2 (inR_lit (0 : Int) rfl)
noncomputable def F_M_quoted_7 (v1 : Int) (v2 : Int) (h : MH) : RS Unit := itr (fun self (q : Int × Int × MH) => F_M_quoted_7_b (fun v1 v2 h => self (v1, v2, h)) q.1 q.2.1 q.2.2) FU (v1, v2, h)
theorem S_M_quoted_7 {d : Nat} (hd : 3 ≤ d) {v1 : Int} {v2 : Int} {h : MH} (L : LayC h) (rv1 : inR v1) (rv2 : inR v2) : OK d k_M_quoted 7 [mR 107, mI v1, mI v2, mN] [] h cV pT (F_M_quoted_7  v1 v2 h) := by
  unfold F_M_quoted_7
  refine z_itr (P := fun q : Int × Int × MH => LayC q.2.2 ∧ inR q.1 ∧ inR q.2.1 ∧ True) (ls := fun q : Int × Int × MH => [mR 107, mI q.1, mI q.2.1, mN]) (hp := fun q : Int × Int × MH => q.2.2) (fun self hs q hq => ?_) FU (v1, v2, h) ⟨L, rv1, rv2, trivial⟩
  exact S_M_quoted_7_b hd (fun v1 v2 h L rv1 rv2 => hs (v1, v2, h) ⟨L, rv1, rv2, trivial⟩) hq.1 hq.2.1 hq.2.2.1
noncomputable def F_M_quoted (h : MH) : RS Unit := F_M_quoted_7 (mGi h 107 3) (1 : Int) h
theorem S_M_quoted {d : Nat} (hd : 3 ≤ d) {h : MH} (L : LayC h) : OK d k_M_quoted 0 [mR 107, mN, mN, mN] [] h cV pT (F_M_quoted   h) := by
  unfold F_M_quoted
  refine z_go (fun Q hq => x_aload_n (dA d_M_quoted 0 rfl) rfl rfl (x_getI (dA d_M_quoted 1 rfl) f_M_192 (L.sh (x := (12, 66)) rfl) (by decide) (by decide) rfl (x_istore_n (dA d_M_quoted 2 rfl) rfl (by decide) rfl (x_iconst (dA d_M_quoted 3 rfl) (x_istore_n (dA d_M_quoted 4 rfl) rfl (by decide) rfl hq))))) ?_
  exact S_M_quoted_7 hd  L (L.rg _ _) (inR_lit (1 : Int) rfl)
/-! TwoMillsModel.builtIn(J)I -/
noncomputable def F_M_builtIn (a1 : Int64) (h : MH) : RS Int := if (lgI a1 (111524889126244 : Int64)) = 0 then some (.inl (0 : Int), h) else if (lgI a1 (28821929548019056 : Int64)) = 0 then some (.inl (1 : Int), h) else if (lgI a1 (112585662820208 : Int64)) = 0 then some (.inl (2 : Int), h) else if (lgI a1 (439787742825 : Int64)) = 0 then some (.inl (3 : Int), h) else if (lgI a1 (111546414229097 : Int64)) = 0 then some (.inl (4 : Int), h) else if (lgI a1 (1919118953 : Int64)) = 0 then some (.inl (5 : Int), h) else if (lgI a1 (7234924 : Int64)) = 0 then some (.inl (6 : Int), h) else if (lgI a1 (499934390387 : Int64)) = 0 then some (.inl (7 : Int), h) else if (lgI a1 (7106148 : Int64)) = 0 then some (.inl (8 : Int), h) else some (.inl (-1 : Int), h)
theorem S_M_builtIn {d : Nat} (hd : 0 ≤ d) {a1 : Int64} {h : MH} (L : LayC h) : OK d k_M_builtIn 0 [mL a1, mN] [] h cI inR (F_M_builtIn  a1 h) := by
  unfold F_M_builtIn
  refine z_go (fun Q hq => x_lload_n (dA d_M_builtIn 0 rfl) rfl rfl (x_ldc2 (dA d_M_builtIn 1 rfl) kl_M_265 (x_lcmp (dA d_M_builtIn 2 rfl) hq))) ?_
  refine z_brn (fun Q => x_if_ne (dA d_M_builtIn 3 rfl) rfl (inR_lgI _ _)) (fun c1 => ?_) (fun c1 => ?_)
  · refine z_go (fun Q hq => x_iconst (dA d_M_builtIn 4 rfl) (x_goto (dA d_M_builtIn 5 rfl) rfl hq)) ?_
    exact z_reti (dA d_M_builtIn 55 rfl) rfl (inR_lit (0 : Int) rfl)
  · refine z_go (fun Q hq => x_lload_n (dA d_M_builtIn 6 rfl) rfl rfl (x_ldc2 (dA d_M_builtIn 7 rfl) kl_M_267 (x_lcmp (dA d_M_builtIn 8 rfl) hq))) ?_
    refine z_brn (fun Q => x_if_ne (dA d_M_builtIn 9 rfl) rfl (inR_lgI _ _)) (fun c2 => ?_) (fun c2 => ?_)
    · refine z_go (fun Q hq => x_iconst (dA d_M_builtIn 10 rfl) (x_goto (dA d_M_builtIn 11 rfl) rfl hq)) ?_
      exact z_reti (dA d_M_builtIn 55 rfl) rfl (inR_lit (1 : Int) rfl)
    · refine z_go (fun Q hq => x_lload_n (dA d_M_builtIn 12 rfl) rfl rfl (x_ldc2 (dA d_M_builtIn 13 rfl) kl_M_269 (x_lcmp (dA d_M_builtIn 14 rfl) hq))) ?_
      refine z_brn (fun Q => x_if_ne (dA d_M_builtIn 15 rfl) rfl (inR_lgI _ _)) (fun c3 => ?_) (fun c3 => ?_)
      · refine z_go (fun Q hq => x_iconst (dA d_M_builtIn 16 rfl) (x_goto (dA d_M_builtIn 17 rfl) rfl hq)) ?_
        exact z_reti (dA d_M_builtIn 55 rfl) rfl (inR_lit (2 : Int) rfl)
      · refine z_go (fun Q hq => x_lload_n (dA d_M_builtIn 18 rfl) rfl rfl (x_ldc2 (dA d_M_builtIn 19 rfl) kl_M_271 (x_lcmp (dA d_M_builtIn 20 rfl) hq))) ?_
        refine z_brn (fun Q => x_if_ne (dA d_M_builtIn 21 rfl) rfl (inR_lgI _ _)) (fun c4 => ?_) (fun c4 => ?_)
        · refine z_go (fun Q hq => x_iconst (dA d_M_builtIn 22 rfl) (x_goto (dA d_M_builtIn 23 rfl) rfl hq)) ?_
          exact z_reti (dA d_M_builtIn 55 rfl) rfl (inR_lit (3 : Int) rfl)
        · refine z_go (fun Q hq => x_lload_n (dA d_M_builtIn 24 rfl) rfl rfl (x_ldc2 (dA d_M_builtIn 25 rfl) kl_M_273 (x_lcmp (dA d_M_builtIn 26 rfl) hq))) ?_
          refine z_brn (fun Q => x_if_ne (dA d_M_builtIn 27 rfl) rfl (inR_lgI _ _)) (fun c5 => ?_) (fun c5 => ?_)
          · refine z_go (fun Q hq => x_iconst (dA d_M_builtIn 28 rfl) (x_goto (dA d_M_builtIn 29 rfl) rfl hq)) ?_
            exact z_reti (dA d_M_builtIn 55 rfl) rfl (inR_lit (4 : Int) rfl)
          · refine z_go (fun Q hq => x_lload_n (dA d_M_builtIn 30 rfl) rfl rfl (x_ldc2 (dA d_M_builtIn 31 rfl) kl_M_275 (x_lcmp (dA d_M_builtIn 32 rfl) hq))) ?_
            refine z_brn (fun Q => x_if_ne (dA d_M_builtIn 33 rfl) rfl (inR_lgI _ _)) (fun c6 => ?_) (fun c6 => ?_)
            · refine z_go (fun Q hq => x_iconst (dA d_M_builtIn 34 rfl) (x_goto (dA d_M_builtIn 35 rfl) rfl hq)) ?_
              exact z_reti (dA d_M_builtIn 55 rfl) rfl (inR_lit (5 : Int) rfl)
            · refine z_go (fun Q hq => x_lload_n (dA d_M_builtIn 36 rfl) rfl rfl (x_ldc2 (dA d_M_builtIn 37 rfl) kl_M_277 (x_lcmp (dA d_M_builtIn 38 rfl) hq))) ?_
              refine z_brn (fun Q => x_if_ne (dA d_M_builtIn 39 rfl) rfl (inR_lgI _ _)) (fun c7 => ?_) (fun c7 => ?_)
              · refine z_go (fun Q hq => x_bipush (dA d_M_builtIn 40 rfl) (by decide) (x_goto (dA d_M_builtIn 41 rfl) rfl hq)) ?_
                exact z_reti (dA d_M_builtIn 55 rfl) rfl (inR_lit (6 : Int) rfl)
              · refine z_go (fun Q hq => x_lload_n (dA d_M_builtIn 42 rfl) rfl rfl (x_ldc2 (dA d_M_builtIn 43 rfl) kl_M_279 (x_lcmp (dA d_M_builtIn 44 rfl) hq))) ?_
                refine z_brn (fun Q => x_if_ne (dA d_M_builtIn 45 rfl) rfl (inR_lgI _ _)) (fun c8 => ?_) (fun c8 => ?_)
                · refine z_go (fun Q hq => x_bipush (dA d_M_builtIn 46 rfl) (by decide) (x_goto (dA d_M_builtIn 47 rfl) rfl hq)) ?_
                  exact z_reti (dA d_M_builtIn 55 rfl) rfl (inR_lit (7 : Int) rfl)
                · refine z_go (fun Q hq => x_lload_n (dA d_M_builtIn 48 rfl) rfl rfl (x_ldc2 (dA d_M_builtIn 49 rfl) kl_M_281 (x_lcmp (dA d_M_builtIn 50 rfl) hq))) ?_
                  refine z_brn (fun Q => x_if_ne (dA d_M_builtIn 51 rfl) rfl (inR_lgI _ _)) (fun c9 => ?_) (fun c9 => ?_)
                  · refine z_go (fun Q hq => x_bipush (dA d_M_builtIn 52 rfl) (by decide) (x_goto (dA d_M_builtIn 53 rfl) rfl hq)) ?_
                    exact z_reti (dA d_M_builtIn 55 rfl) rfl (inR_lit (8 : Int) rfl)
                  · refine z_go (fun Q hq => x_iconst (dA d_M_builtIn 54 rfl) hq) ?_
                    exact z_reti (dA d_M_builtIn 55 rfl) rfl (inR_lit (-1 : Int) rfl)
end Fns
