def lawN : Nat := 2048
/-! the start: what the Statement gives at the law's entry, in the small machine's words -/
section Start
abbrev NN : Cond := Jvm.Cond.and given_1 narrow_1
def strP : List (String × Nat) := [("TwoMills$FirstMill", 136), ("TwoMills$FirstMill", 145), ("TwoMills$FirstMill", 147), ("TwoMills$FirstMill", 149), ("TwoMills$FirstMill", 151), ("TwoMills$FirstMill", 153), ("TwoMills$FirstMill", 155), ("TwoMills$FirstMill", 157), ("TwoMills$FirstMill", 159), ("TwoMills$SecondMill", 181), ("TwoMills$SecondMill", 189), ("TwoMills$SecondMill", 198), ("TwoMills$SecondMill", 203), ("TwoMills$Tokens", 73), ("TwoMills$SecondMill", 220), ("TwoMills$SecondMill", 268)]
def tmS (i : Nat) : Term := Term.string (strP.getD i ("", 0)).1 (strP.getD i ("", 0)).2
set_option maxRecDepth 100000 in
theorem n_ex : ∀ i, i < 16 → Cond.exactly (tmS i) "java/lang/String" ∈ flatC NN := by decide +kernel
set_option maxRecDepth 100000 in
theorem n_co : ∀ i, i < 16 → Cond.eq (.field (tmS i) "java/lang/String" "coder" "B") (.int 0) ∈ flatC NN := by decide +kernel
set_option maxRecDepth 100000 in
theorem n_ar : ∀ i, i < 16 → Cond.arrayOf (.field (tmS i) "java/lang/String" "value" "[B") .byte ∈ flatC NN := by decide +kernel
set_option maxRecDepth 100000 in
theorem n_le : ∀ i, i < 16 → Cond.eq (.length (.field (tmS i) "java/lang/String" "value" "[B")) (.int (Int32.ofNat (mSLen.getD i 0))) ∈ flatC NN := by decide +kernel
set_option maxRecDepth 100000 in
theorem n_el : ∀ i, i < 16 → ∀ j, j < mSLen.getD i 0 → Cond.eq (.elem (.field (tmS i) "java/lang/String" "value" "[B") (.int (Int32.ofNat j))) (.int ((mSByt.getD i []).getD j 0)) ∈ flatC NN := by decide +kernel
set_option maxRecDepth 100000 in
set_option maxRecDepth 100000 in
theorem n_ne0 : ∀ j, j < 16 → 0 < j → Cond.not (Cond.eq (tmS 0) (tmS j)) ∈ flatC NN := by decide +kernel
set_option maxRecDepth 100000 in
theorem n_ne1 : ∀ j, j < 16 → 1 < j → Cond.not (Cond.eq (tmS 1) (tmS j)) ∈ flatC NN := by decide +kernel
set_option maxRecDepth 100000 in
theorem n_ne2 : ∀ j, j < 16 → 2 < j → Cond.not (Cond.eq (tmS 2) (tmS j)) ∈ flatC NN := by decide +kernel
set_option maxRecDepth 100000 in
theorem n_ne3 : ∀ j, j < 16 → 3 < j → Cond.not (Cond.eq (tmS 3) (tmS j)) ∈ flatC NN := by decide +kernel
set_option maxRecDepth 100000 in
theorem n_ne4 : ∀ j, j < 16 → 4 < j → Cond.not (Cond.eq (tmS 4) (tmS j)) ∈ flatC NN := by decide +kernel
set_option maxRecDepth 100000 in
theorem n_ne5 : ∀ j, j < 16 → 5 < j → Cond.not (Cond.eq (tmS 5) (tmS j)) ∈ flatC NN := by decide +kernel
set_option maxRecDepth 100000 in
theorem n_ne6 : ∀ j, j < 16 → 6 < j → Cond.not (Cond.eq (tmS 6) (tmS j)) ∈ flatC NN := by decide +kernel
set_option maxRecDepth 100000 in
theorem n_ne7 : ∀ j, j < 16 → 7 < j → Cond.not (Cond.eq (tmS 7) (tmS j)) ∈ flatC NN := by decide +kernel
set_option maxRecDepth 100000 in
theorem n_ne8 : ∀ j, j < 16 → 8 < j → Cond.not (Cond.eq (tmS 8) (tmS j)) ∈ flatC NN := by decide +kernel
set_option maxRecDepth 100000 in
theorem n_ne9 : ∀ j, j < 16 → 9 < j → Cond.not (Cond.eq (tmS 9) (tmS j)) ∈ flatC NN := by decide +kernel
set_option maxRecDepth 100000 in
theorem n_ne10 : ∀ j, j < 16 → 10 < j → Cond.not (Cond.eq (tmS 10) (tmS j)) ∈ flatC NN := by decide +kernel
set_option maxRecDepth 100000 in
theorem n_ne11 : ∀ j, j < 16 → 11 < j → Cond.not (Cond.eq (tmS 11) (tmS j)) ∈ flatC NN := by decide +kernel
set_option maxRecDepth 100000 in
theorem n_ne12 : ∀ j, j < 16 → 12 < j → Cond.not (Cond.eq (tmS 12) (tmS j)) ∈ flatC NN := by decide +kernel
set_option maxRecDepth 100000 in
theorem n_ne13 : ∀ j, j < 16 → 13 < j → Cond.not (Cond.eq (tmS 13) (tmS j)) ∈ flatC NN := by decide +kernel
set_option maxRecDepth 100000 in
theorem n_ne14 : ∀ j, j < 16 → 14 < j → Cond.not (Cond.eq (tmS 14) (tmS j)) ∈ flatC NN := by decide +kernel
set_option maxRecDepth 100000 in
theorem n_ne15 : ∀ j, j < 16 → 15 < j → Cond.not (Cond.eq (tmS 15) (tmS j)) ∈ flatC NN := by decide +kernel
theorem n_nl : ∀ i, i < 16 → ∀ j, j < 16 → i < j → Cond.not (Cond.eq (tmS i) (tmS j)) ∈ flatC NN := by
  intro i hi
  rcases (show i = 0 ∨ i = 1 ∨ i = 2 ∨ i = 3 ∨ i = 4 ∨ i = 5 ∨ i = 6 ∨ i = 7 ∨ i = 8 ∨ i = 9 ∨ i = 10 ∨ i = 11 ∨ i = 12 ∨ i = 13 ∨ i = 14 ∨ i = 15 by omega) with rfl | rfl | rfl | rfl | rfl | rfl | rfl | rfl | rfl | rfl | rfl | rfl | rfl | rfl | rfl | rfl
  · exact n_ne0
  · exact n_ne1
  · exact n_ne2
  · exact n_ne3
  · exact n_ne4
  · exact n_ne5
  · exact n_ne6
  · exact n_ne7
  · exact n_ne8
  · exact n_ne9
  · exact n_ne10
  · exact n_ne11
  · exact n_ne12
  · exact n_ne13
  · exact n_ne14
  · exact n_ne15
theorem n_ne : ∀ i, i < 16 → ∀ j, j < 16 → i ≠ j → (Cond.not (Cond.eq (tmS i) (tmS j)) ∈ flatC NN ∨ Cond.not (Cond.eq (tmS j) (tmS i)) ∈ flatC NN) := by
  intro i hi j hj hij
  rcases Nat.lt_or_gt_of_ne hij with h | h
  · exact .inl (n_nl i hi j hj h)
  · exact .inr (n_nl j hj i hi h)
theorem n_len : ∀ i, i < 16 → mSLen.getD i 0 < 2 ^ 31 := by decide +kernel
set_option maxRecDepth 100000 in
theorem n_du0 : Cond.eq (Term.string "TwoMills$FirstMill" 151) (Term.string "TwoMills$SecondMill" 187) ∈ flatC NN ∨ Cond.eq (Term.string "TwoMills$SecondMill" 187) (Term.string "TwoMills$FirstMill" 151) ∈ flatC NN := by decide +kernel
set_option maxRecDepth 100000 in
theorem n_du1 : Cond.eq (Term.string "TwoMills$FirstMill" 145) (Term.string "TwoMills$SecondMill" 208) ∈ flatC NN ∨ Cond.eq (Term.string "TwoMills$SecondMill" 208) (Term.string "TwoMills$FirstMill" 145) ∈ flatC NN := by decide +kernel
set_option maxRecDepth 100000 in
theorem n_cs : Cond.eq (.static "java/lang/String" "COMPACT_STRINGS" "Z") (.int 1) ∈ flatC NN := by decide +kernel
set_option maxRecDepth 100000 in
theorem n_us : Cond.isRef (.static "java/lang/Throwable" "UNASSIGNED_STACK" "[Ljava/lang/StackTraceElement;") ∈ flatC NN := by decide +kernel
set_option maxRecDepth 100000 in
theorem n_sf : Cond.isRef (.static "jdk/internal/util/Preconditions" "SIOOBE_FORMATTER" "Ljava/util/function/BiFunction;") ∈ flatC NN := by decide +kernel
set_option maxRecDepth 100000 in
theorem n_ss : Cond.isRef (.static "java/lang/Throwable" "SUPPRESSED_SENTINEL" "Ljava/util/List;") ∈ flatC NN := by decide +kernel
set_option maxRecDepth 100000 in
theorem n_nc : Cond.not (Cond.castable "java/lang/IllegalStateException" "java/lang/IllegalArgumentException") ∈ flatC NN := by decide +kernel
theorem t_us : Cond.laysStatic "java/lang/Throwable" "UNASSIGNED_STACK" "[Ljava/lang/StackTraceElement;" ∈ lw_tbl := List.mem_append_right _ (show _ ∈ tables_1 from (List.mem_append_right _ (List.mem_append_left _ (List.mem_of_getElem? (i := 162) rfl))))
theorem t_ss : Cond.laysStatic "java/lang/Throwable" "SUPPRESSED_SENTINEL" "Ljava/util/List;" ∈ lw_tbl := List.mem_append_right _ (show _ ∈ tables_1 from (List.mem_append_right _ (List.mem_append_left _ (List.mem_of_getElem? (i := 164) rfl))))
theorem t_cs : Cond.laysStatic "java/lang/String" "COMPACT_STRINGS" "Z" ∈ lw_tbl := List.mem_append_right _ (show _ ∈ tables_1 from (List.mem_append_right _ (List.mem_append_right _ (List.mem_append_left _ (List.mem_of_getElem? (i := 108) rfl)))))
theorem t_sf : Cond.laysStatic "jdk/internal/util/Preconditions" "SIOOBE_FORMATTER" "Ljava/util/function/BiFunction;" ∈ lw_tbl := List.mem_append_right _ (show _ ∈ tables_1 from (List.mem_append_right _ (List.mem_append_right _ (List.mem_append_left _ (List.mem_of_getElem? (i := 124) rfl)))))
theorem t_pi : Cond.initialized "jdk/internal/util/Preconditions" ∈ lw_tbl := List.mem_append_right _ (show _ ∈ tables_1 from (List.mem_append_left _ (List.mem_of_getElem? (i := 23) rfl)))
theorem t_ti : Cond.initialized "java/lang/Throwable" ∈ lw_tbl := List.mem_append_right _ (show _ ∈ tables_1 from (List.mem_append_left _ (List.mem_of_getElem? (i := 13) rfl)))
theorem t_si : Cond.initialized "java/lang/String" ∈ lw_tbl := List.mem_append_right _ (show _ ∈ tables_1 from (List.mem_append_left _ (List.mem_of_getElem? (i := 21) rfl)))
theorem t_st0 : Cond.stringRef "TwoMills$FirstMill" 136 "dnl" ∈ lw_tbl := List.mem_append_right _ (show _ ∈ tables_1 from (List.mem_append_right _ (List.mem_append_right _ (List.mem_append_left _ (List.mem_of_getElem? (i := 91) rfl)))))
theorem t_st1 : Cond.stringRef "TwoMills$FirstMill" 145 "define" ∈ lw_tbl := List.mem_append_right _ (show _ ∈ tables_1 from (List.mem_append_right _ (List.mem_append_right _ (List.mem_append_left _ (List.mem_of_getElem? (i := 151) rfl)))))
theorem t_st2 : Cond.stringRef "TwoMills$FirstMill" 147 "pushdef" ∈ lw_tbl := List.mem_append_right _ (show _ ∈ tables_1 from (List.mem_append_right _ (List.mem_append_right _ (List.mem_append_left _ (List.mem_of_getElem? (i := 152) rfl)))))
theorem t_st3 : Cond.stringRef "TwoMills$FirstMill" 149 "popdef" ∈ lw_tbl := List.mem_append_right _ (show _ ∈ tables_1 from (List.mem_append_right _ (List.mem_append_right _ (List.mem_append_left _ (List.mem_of_getElem? (i := 153) rfl)))))
theorem t_st4 : Cond.stringRef "TwoMills$FirstMill" 151 "ifdef" ∈ lw_tbl := List.mem_append_right _ (show _ ∈ tables_1 from (List.mem_append_right _ (List.mem_append_right _ (List.mem_append_left _ (List.mem_of_getElem? (i := 154) rfl)))))
theorem t_st5 : Cond.stringRef "TwoMills$FirstMill" 153 "ifelse" ∈ lw_tbl := List.mem_append_right _ (show _ ∈ tables_1 from (List.mem_append_right _ (List.mem_append_right _ (List.mem_append_left _ (List.mem_of_getElem? (i := 155) rfl)))))
theorem t_st6 : Cond.stringRef "TwoMills$FirstMill" 155 "incr" ∈ lw_tbl := List.mem_append_right _ (show _ ∈ tables_1 from (List.mem_append_right _ (List.mem_append_right _ (List.mem_append_left _ (List.mem_of_getElem? (i := 156) rfl)))))
theorem t_st7 : Cond.stringRef "TwoMills$FirstMill" 157 "len" ∈ lw_tbl := List.mem_append_right _ (show _ ∈ tables_1 from (List.mem_append_right _ (List.mem_append_right _ (List.mem_append_left _ (List.mem_of_getElem? (i := 157) rfl)))))
theorem t_st8 : Cond.stringRef "TwoMills$FirstMill" 159 "shift" ∈ lw_tbl := List.mem_append_right _ (show _ ∈ tables_1 from (List.mem_append_right _ (List.mem_append_right _ (List.mem_append_left _ (List.mem_of_getElem? (i := 158) rfl)))))
theorem t_st9 : Cond.stringRef "TwoMills$SecondMill" 181 "if" ∈ lw_tbl := List.mem_append_right _ (show _ ∈ tables_1 from (List.mem_append_right _ (List.mem_append_right _ (List.mem_append_right _ (List.mem_append_left _ (List.mem_of_getElem? (i := 102) rfl))))))
theorem t_st10 : Cond.stringRef "TwoMills$SecondMill" 187 "ifdef" ∈ lw_tbl := List.mem_append_right _ (show _ ∈ tables_1 from (List.mem_append_right _ (List.mem_append_right _ (List.mem_append_right _ (List.mem_append_left _ (List.mem_of_getElem? (i := 108) rfl))))))
theorem t_st11 : Cond.stringRef "TwoMills$SecondMill" 189 "ifndef" ∈ lw_tbl := List.mem_append_right _ (show _ ∈ tables_1 from (List.mem_append_right _ (List.mem_append_right _ (List.mem_append_right _ (List.mem_append_left _ (List.mem_of_getElem? (i := 109) rfl))))))
theorem t_st12 : Cond.stringRef "TwoMills$SecondMill" 198 "else" ∈ lw_tbl := List.mem_append_right _ (show _ ∈ tables_1 from (List.mem_append_right _ (List.mem_append_right _ (List.mem_append_right _ (List.mem_append_left _ (List.mem_of_getElem? (i := 124) rfl))))))
theorem t_st13 : Cond.stringRef "TwoMills$SecondMill" 203 "endif" ∈ lw_tbl := List.mem_append_right _ (show _ ∈ tables_1 from (List.mem_append_right _ (List.mem_append_right _ (List.mem_append_right _ (List.mem_append_left _ (List.mem_of_getElem? (i := 129) rfl))))))
theorem t_st14 : Cond.stringRef "TwoMills$Tokens" 73 "##" ∈ lw_tbl := List.mem_append_right _ (show _ ∈ tables_1 from (List.mem_append_right _ (List.mem_append_right _ (List.mem_append_right _ (List.mem_append_right _ (List.mem_append_left _ (List.mem_of_getElem? (i := 17) rfl)))))))
theorem t_st15 : Cond.stringRef "TwoMills$SecondMill" 208 "define" ∈ lw_tbl := List.mem_append_right _ (show _ ∈ tables_1 from (List.mem_append_right _ (List.mem_append_right _ (List.mem_append_right _ (List.mem_append_right _ (List.mem_append_left _ (List.mem_of_getElem? (i := 66) rfl)))))))
theorem t_st16 : Cond.stringRef "TwoMills$SecondMill" 220 "undef" ∈ lw_tbl := List.mem_append_right _ (show _ ∈ tables_1 from (List.mem_append_right _ (List.mem_append_right _ (List.mem_append_right _ (List.mem_append_right _ (List.mem_append_left _ (List.mem_of_getElem? (i := 86) rfl)))))))
theorem t_st17 : Cond.stringRef "TwoMills$SecondMill" 268 "defined" ∈ lw_tbl := List.mem_append_right _ (show _ ∈ tables_1 from (List.mem_append_right _ (List.mem_append_right _ (List.mem_append_right _ (List.mem_append_right _ (List.mem_append_left _ (List.mem_of_getElem? (i := 95) rfl)))))))
theorem eval_eq {args : Array Value} {s : State} {t1 t2 : Term} {a : Nat} (h : (Cond.eq t1 t2).before args s = true) (h1 : t1.eval args s none [] s = some (.ref a)) : t2.eval args s none [] s = some (.ref a) := by
  cases h2 : t2.eval args s none [] s with
  | none => simp [Cond.before, Cond.holds, Cond.value, h1, h2] at h
  | some v =>
    simp only [Cond.before, Cond.holds, Cond.value, h1, h2] at h
    cases v <;> simp_all
theorem eval_eq' {args : Array Value} {s : State} {t1 t2 : Term} {a : Nat} (h : (Cond.eq t2 t1).before args s = true) (h1 : t1.eval args s none [] s = some (.ref a)) : t2.eval args s none [] s = some (.ref a) := by
  cases h2 : t2.eval args s none [] s with
  | none => simp [Cond.before, Cond.holds, Cond.value, h1, h2] at h
  | some v =>
    simp only [Cond.before, Cond.holds, Cond.value, h1, h2] at h
    cases v <;> simp_all
theorem isRef_val {args : Array Value} {s : State} {t : Term} (h : (Cond.isRef t).before args s = true) : ∃ v, t.eval args s none [] s = some v ∧ v.isRef = true := by
  cases h2 : t.eval args s none [] s with
  | none => simp [Cond.before, Cond.holds, Cond.value, h2] at h
  | some v =>
    refine ⟨v, rfl, ?_⟩
    simp only [Cond.before, Cond.holds, Cond.value, h2] at h
    cases v <;> simp_all [Value.isRef]
theorem mLS_of {args : Array Value} {s : State} {n dd : String} (G : MG) (hG : gB G = s.heap.size) (h : (Cond.laysStatic "java/lang/Throwable" n dd).before args s = true) : mLS G s n dd := by
  obtain ⟨c, k, i, f, a, cell, h1, h2, h3, h4, h5, h6, h7, h8, h9⟩ := Cond.laysStatic_spec h
  exact ⟨c, k, i, f, a, cell, h1, h2, h3, h4, h5, h6, h7, h8, h9, by rw [hG]; exact (Array.getElem?_eq_some_iff.mp h5).1⟩
theorem arrP {args : Array Value} {s : State} {ty : FieldType} (hp : ∀ C, ty ≠ .object C) (h : (Cond.arrayClass ty).before args s = true) : ∃ cA, ArrOfT s cA ty ∧ va_RA s cA ty := by
  obtain ⟨c, k, comp, h1, h2, h3⟩ := Cond.arrayClass_spec h
  refine ⟨c, fun n z => ⟨fun k h => (by cases h), k, h2, comp, h3⟩, ?_⟩
  cases ty with
  | object C => exact absurd rfl (hp C)
  | _ => exact h1
theorem arrQ {args : Array Value} {s : State} {C : String} (h : (Cond.arrayOver (.object C)).before args s = true) : ∃ cA, ArrOfT s cA (.object C) ∧ va_RA s cA (.object C) := by
  obtain ⟨comp, c, k, h1, h2, h3, h4, h5⟩ := Cond.arrayOver_spec h
  exact ⟨c, fun n z => ⟨fun k h => (by cases h), k, h3, comp, h4⟩, k, comp, h3, h4, h1, h5⟩
theorem old_of {s : State} {b : Nat} (hts : ∀ w ∈ lw_tbl, w.before #[Value.ref b] s = true) (hg : NN.before #[Value.ref b] s = true) : ∃ (adK adV : Nat → Nat) (aS : Nat), ∀ G : MG, gB G = s.heap.size → gO G 201 = aS → (∀ i, i < 16 → gO G i = adK i) → (∀ i, i < 16 → gO G (100 + i) = adV i) → mOld G s := by
  have hn := flat_of_before _ hg
  have hA : ∀ a : Nat, a < s.heap.size → ¬ s.heap.size ≤ a := fun a h => by omega
  obtain ⟨adK, adV, hS, hE⟩ := vk_Sof (A := fun q => s.heap.size ≤ q) (tm := tmS) (len := mSLen) (byt := mSByt) (N := 16) n_len (fun i hi => hn _ (n_ex i hi)) (fun i hi => hn _ (n_co i hi)) (fun i hi => hn _ (n_ar i hi)) (fun i hi => hn _ (n_le i hi)) (fun i hi j hj => hn _ (n_el i hi j hj)) (fun i j hi hj hij => (n_ne i hi j hj hij).imp (hn _) (hn _)) hA
  obtain ⟨aS, hSf⟩ : ∃ aS : Nat, ∃ v, va_Z "jdk/internal/util/Preconditions" "SIOOBE_FORMATTER" "Ljava/util/function/BiFunction;" v (fun q : Nat => s.heap.size ≤ q) s s.heap ∧ (v = .null ∨ v = .ref aS) := by
    rcases va_Zqof (hts _ t_sf) (hts _ t_pi) (hn _ n_sf) hA with z | ⟨t, z⟩
    · exact ⟨0, _, z, .inl rfl⟩
    · exact ⟨t, _, z, .inr rfl⟩
  refine ⟨adK, adV, aS, fun G hB hU hK hV => ?_⟩
  obtain ⟨v1, e1, r1⟩ := isRef_val (hn _ n_us)
  obtain ⟨v2, e2, r2⟩ := isRef_val (hn _ n_ss)
  have eA : (fun q => gB G ≤ q) = (fun q : Nat => s.heap.size ≤ q) := by rw [hB]
  refine ⟨by rw [hB]; exact Nat.le_refl _, ⟨v1, ?_, r1⟩, ⟨v2, ?_, r2⟩, ?_, ?_, ?_, ?_, mLS_of G hB (hts _ t_us), mLS_of G hB (hts _ t_ss), by rw [eA, hU]; exact hSf⟩
  · rw [eA]; exact va_Zof (hts _ t_us) (hts _ t_ti) e1 hA
  · rw [eA]; exact va_Zof (hts _ t_ss) (hts _ t_ti) e2 hA
  · rw [eA]; exact va_Zof (hts _ t_cs) (hts _ t_si) (va_eqi (hn _ n_cs)) hA
  · rw [eA]
    refine ⟨fun i hi => ?_, fun i j hi hj e => hS.2 i j hi hj (by rw [hK i hi, hK j hj] at e; exact e)⟩
    have z := hS.1 i hi
    rw [← hK i hi, ← hV i hi] at z
    exact z
  · intro q hq
    simp only [mStrs, List.mem_cons, List.not_mem_nil, or_false] at hq
    rcases hq with rfl | rfl | rfl | rfl | rfl | rfl | rfl | rfl | rfl | rfl | rfl | rfl | rfl | rfl | rfl | rfl | rfl | rfl
    · exact vk_R.of (hts _ t_st0) (by rw [hK 0 (by decide)]; exact hE 0 (by decide))
    · exact vk_R.of (hts _ t_st1) (by rw [hK 1 (by decide)]; exact hE 1 (by decide))
    · exact vk_R.of (hts _ t_st2) (by rw [hK 2 (by decide)]; exact hE 2 (by decide))
    · exact vk_R.of (hts _ t_st3) (by rw [hK 3 (by decide)]; exact hE 3 (by decide))
    · exact vk_R.of (hts _ t_st4) (by rw [hK 4 (by decide)]; exact hE 4 (by decide))
    · exact vk_R.of (hts _ t_st5) (by rw [hK 5 (by decide)]; exact hE 5 (by decide))
    · exact vk_R.of (hts _ t_st6) (by rw [hK 6 (by decide)]; exact hE 6 (by decide))
    · exact vk_R.of (hts _ t_st7) (by rw [hK 7 (by decide)]; exact hE 7 (by decide))
    · exact vk_R.of (hts _ t_st8) (by rw [hK 8 (by decide)]; exact hE 8 (by decide))
    · exact vk_R.of (hts _ t_st9) (by rw [hK 9 (by decide)]; exact hE 9 (by decide))
    · exact vk_R.of (hts _ t_st10) (by rw [hK 4 (by decide)]; exact n_du0.elim (fun z => eval_eq (hn _ z) (hE 4 (by decide))) (fun z => eval_eq' (hn _ z) (hE 4 (by decide))))
    · exact vk_R.of (hts _ t_st11) (by rw [hK 10 (by decide)]; exact hE 10 (by decide))
    · exact vk_R.of (hts _ t_st12) (by rw [hK 11 (by decide)]; exact hE 11 (by decide))
    · exact vk_R.of (hts _ t_st13) (by rw [hK 12 (by decide)]; exact hE 12 (by decide))
    · exact vk_R.of (hts _ t_st14) (by rw [hK 13 (by decide)]; exact hE 13 (by decide))
    · exact vk_R.of (hts _ t_st15) (by rw [hK 1 (by decide)]; exact n_du1.elim (fun z => eval_eq (hn _ z) (hE 1 (by decide))) (fun z => eval_eq' (hn _ z) (hE 1 (by decide))))
    · exact vk_R.of (hts _ t_st16) (by rw [hK 14 (by decide)]; exact hE 14 (by decide))
    · exact vk_R.of (hts _ t_st17) (by rw [hK 15 (by decide)]; exact hE 15 (by decide))
  · intro c1 c2 f1 f2
    have z := Cond.holds_not_iff.mp (hn _ n_nc)
    simp only [Cond.value, f1, f2] at z
    exact Option.some.inj z
theorem K_of {s : State} {b : Nat} (hts : ∀ w ∈ mTs, w.before #[Value.ref b] s = true) : ∃ (D : va_G) (dA : Nat → ClassId), ∀ G : MG, gD G = D → gA G = dA → va_K (gD G) mcl (mtys G) s := by
  obtain ⟨c0, i0, k0⟩ := u_known hts uw_T (hts _ in_T)
  obtain ⟨c1, i1, k1⟩ := u_known hts uw_Le (hts _ in_Le)
  obtain ⟨c2, i2, k2⟩ := u_known hts uw_Ar (hts _ in_Ar)
  obtain ⟨c3, i3, k3⟩ := u_known hts uw_De (hts _ in_De)
  obtain ⟨c4, i4, k4⟩ := u_known hts uw_Ex (hts _ in_Ex)
  obtain ⟨c5, i5, k5⟩ := u_known hts uw_Es (hts _ in_Es)
  obtain ⟨c6, i6, k6⟩ := u_known hts uw_Fm (hts _ in_Fm)
  obtain ⟨c7, i7, k7⟩ := u_known hts uw_In (hts _ in_In)
  obtain ⟨c8, i8, k8⟩ := u_known hts uw_Na (hts _ in_Na)
  obtain ⟨c9, i9, k9⟩ := u_known hts uw_Ro (hts _ in_Ro)
  obtain ⟨c10, i10, k10⟩ := u_known hts uw_Sm (hts _ in_Sm)
  obtain ⟨c11, i11, k11⟩ := u_known hts uw_To (hts _ in_To)
  obtain ⟨c12, i12, k12⟩ := u_known hts uw_M (hts _ in_M)
  obtain ⟨c13, i13, k13⟩ := u_known (C := "java/lang/UnsupportedOperationException") (T := F_0) (N := 0) hts (fun w hw => absurd hw List.not_mem_nil) (hts _ in_U_ex)
  obtain ⟨c14, i14, k14⟩ := u_known (C := "java/lang/IllegalArgumentException") (T := F_0) (N := 0) hts (fun w hw => absurd hw List.not_mem_nil) (hts _ in_A_ex)
  obtain ⟨c15, i15, k15⟩ := u_known (C := "java/lang/IllegalStateException") (T := F_0) (N := 0) hts (fun w hw => absurd hw List.not_mem_nil) (hts _ in_S_ex)
  obtain ⟨a100, x100, y100⟩ := arrP (fun _ h => by cases h) (hts _ ac_I)
  obtain ⟨a101, x101, y101⟩ := arrP (fun _ h => by cases h) (hts _ ac_C)
  obtain ⟨a102, x102, y102⟩ := arrP (fun _ h => by cases h) (hts _ ac_Z)
  obtain ⟨a103, x103, y103⟩ := arrP (fun _ h => by cases h) (hts _ ac_J)
  obtain ⟨a110, x110, y110⟩ := arrQ (hts _ ao_Le)
  obtain ⟨a111, x111, y111⟩ := arrQ (hts _ ao_Ro)
  refine ⟨(fun i => [c0, c1, c2, c3, c4, c5, c6, c7, c8, c9, c10, c11, c12, c13, c14, c15].getD i 0, fun i => [i0, i1, i2, i3, i4, i5, i6, i7, i8, i9, i10, i11, i12, i13, i14, i15].getD i (fun _ => 0)), fun t => if t = 100 then a100 else if t = 101 then a101 else if t = 102 then a102 else if t = 103 then a103 else if t = 110 then a110 else a111, fun G hD hA => ?_⟩
  refine ⟨fun c q hq => ?_, fun k q hk => ?_⟩
  · rw [hD]
    have hc : c < 16 := (List.getElem?_eq_some_iff.mp hq).1
    rcases (show c = 0 ∨ c = 1 ∨ c = 2 ∨ c = 3 ∨ c = 4 ∨ c = 5 ∨ c = 6 ∨ c = 7 ∨ c = 8 ∨ c = 9 ∨ c = 10 ∨ c = 11 ∨ c = 12 ∨ c = 13 ∨ c = 14 ∨ c = 15 by omega) with rfl | rfl | rfl | rfl | rfl | rfl | rfl | rfl | rfl | rfl | rfl | rfl | rfl | rfl | rfl | rfl <;> cases hq
    · exact k0
    · exact k1
    · exact k2
    · exact k3
    · exact k4
    · exact k5
    · exact k6
    · exact k7
    · exact k8
    · exact k9
    · exact k10
    · exact k11
    · exact k12
    · exact k13
    · exact k14
    · exact k15
  · have hk6 : k < 6 := (List.getElem?_eq_some_iff.mp hk).1
    rcases (show k = 0 ∨ k = 1 ∨ k = 2 ∨ k = 3 ∨ k = 4 ∨ k = 5 by omega) with rfl | rfl | rfl | rfl | rfl | rfl <;> cases hk <;> rw [hA]
    · exact ⟨x100, y100⟩
    · exact ⟨x101, y101⟩
    · exact ⟨x102, y102⟩
    · exact ⟨x103, y103⟩
    · exact ⟨x110, y110⟩
    · exact ⟨x111, y111⟩
/-- from a walk in the small machine to the machine's own -/
theorem start_of (hx : ∀ sc : List Int, sc.length ≤ lawN → (∀ x ∈ sc, inR x) → MX 100 k_La_law 0 [mS 200, mN, mN, mN, mN, mN, mN] [] ([], fun _ _ => 0, fun _ _ => 0, fun _ _ => none, sc) (fun o _ => o = .inl (some (mI 1)))) {p : Program} {e : Env} {s : State} {m : MethodId} {below : List Frame} {meth : Method} {c : Code} (l : Launch) (hl : ∀ e' : Env, l.admits e' → e'.platform.stackTraces = false) {b L : Nat} {xs : Nat → Int32} (hL : L ≤ lawN)
    (hexec : p.tables.exec = Jvm.exec) (hb : c.code = code) (hr : meth.sig.returnType = ret) (hml : c.maxLocals = 7) (hown : s.vm.findClass "TwoMillsLaw" = some m.cls) (hts : ∀ w ∈ lw_tbl, w.before #[Value.ref b] s = true) (hX : va_X b L xs s s.heap) (hbl : b < s.heap.size) (hlk : meth.locks = false) (hg : NN.before #[Value.ref b] s = true) (htab : c.exceptionTable.toList = []) (hnm : meth.name = "law") :
    W p l e room_1 s m #[Value.ref b] below meth c s.heap [] 0 0 (fun t => ∃ o, t.status = .running ∧ Ended t below o ∧ o = .returned (some (.int 1)) ∧ s.WarmedH t.vm ∧ s.sameButNew ({ t with vm := s.vm } : State) [] room_1.cells room_1.slots) (entryFrame m ([Value.ref b] : List Value).toArray 7) := by
  have htm : ∀ w ∈ mTs, w.before #[Value.ref b] s = true := fun w hw => hts w (List.mem_filter.mp hw).1
  obtain ⟨adK, adV, aS, hO⟩ := old_of hts hg
  obtain ⟨D, dA', hK⟩ := K_of htm
  have hsc : ∀ x ∈ (List.range L).map (fun j => (xs j).toInt), inR x := by
    intro x hx'
    obtain ⟨j, -, rfl⟩ := List.mem_map.mp hx'
    exact ⟨by have := Int32.le_toInt (xs j); omega, by have := Int32.toInt_lt (xs j); omega⟩
  have hlen : ((List.range L).map (fun j => (xs j).toInt)).length = L := by rw [List.length_map, List.length_range]
  have mx := hx ((List.range L).map (fun j => (xs j).toInt)) (by rw [hlen]; exact hL) hsc
  have G0 : MG := (s.heap.size, (fun i => if i < 100 then adK i else if i < 200 then adV (i - 100) else if i = 200 then b else aS), D, dA')
  rw [lg_entry_eq]
  have hw := mx l (s.heap.size, (fun i => if i < 100 then adK i else if i < 200 then adV (i - 100) else if i = 200 then b else aS), D, dA') p e room_1 s m #[Value.ref b] below meth c s.heap [] 0 0 _ 0 0 hl
    ⟨hexec, hb, hml, hr, hlk, hown, htm, hK _ rfl rfl, htab, hnm, by decide, by decide, hO _ rfl rfl (fun i hi => if_pos (by omega)) (fun i hi => by show (if 100 + i < 100 then _ else if 100 + i < 200 then adV (100 + i - 100) else if 100 + i = 200 then b else aS) = adV i; rw [if_neg (by omega), if_pos (by omega), Nat.add_sub_cancel_left])⟩
    ⟨⟨rfl, Nat.zero_le _, Nat.zero_le _, ⟨?_, hbl⟩⟩, fun a t n ha => by simp at ha, va_S.rf⟩ (mEn_ls (k := k_La_law) (as := [mS 200]) _ (by decide)) rfl rfl (by decide) (by decide)
  · refine W.mono (fun t ht => ?_) hw
    obtain ⟨o, h', L', ck, sk, a1, a2, a3, a4, a5, a6, a7, a8⟩ := ht
    subst a8
    refine ⟨_, a1, a2, rfl, a3, a4.weaken (fun y hy hlt => ?_) ?_ ?_⟩
    · have z := a5.2.2.2.2 y hy
      exact absurd (show @LT.lt Nat _ y.base s.heap.size from hlt) (by show ¬ _ < _; exact Nat.not_lt.mpr z)
    · have z := a5.1.2.1
      unfold mCM at z
      exact Nat.le_trans (by omega) (by decide : 500000 ≤ room_1.cells)
    · have z := a5.1.2.2.1
      unfold mSM at z
      exact Nat.le_trans (by omega) (by decide : 5400000 ≤ room_1.slots)
  · rw [show mSc ([], (fun _ _ => 0), (fun _ _ => 0), (fun _ _ => none), (List.range L).map (fun j => (xs j).toInt)) = (List.range L).map (fun j => (xs j).toInt) from rfl, hlen]
    obtain ⟨scr, q1, q2, q3, q4, q5⟩ := hX
    refine ⟨scr, q1, q2, q3, q4, fun j hj => ?_⟩
    rw [q5 j hj]
    have e1 : ((List.range L).map (fun j => (xs j).toInt)).getD j 0 = (xs j).toInt := by
      rw [List.getD_eq_getElem?_getD, List.getElem?_map, List.getElem?_range hj]; rfl
    show some (Value.int (xs j)) = some (Value.int (Int32.ofInt (((List.range L).map (fun j => (xs j).toInt)).getD j 0)))
    rw [e1, Int32.ofInt_toInt]
end Start
