/-! the reference's arguments -/
section Ra
variable {h h' h'' : MH} {M T d : Nat} {v : Int64} {t : Tk} {m : Bool} {nm : Nm} {rp md : Nat} {w dn R : List Tk} {ar : List (List Tk)}
noncomputable def taL (f : Nat) (v1 v2 v3 v4 v5 v6 v7 : Int) (h : MH) : RS Int := itr (fun self (q : Int × Int × Int × Int × Int × Int × Int × MH) => F_M_takeArguments_30_b (fun v1 v2 v3 v4 v5 v6 v7 h => self (v1, v2, v3, v4, v5, v6, v7, h)) q.1 q.2.1 q.2.2.1 q.2.2.2.1 q.2.2.2.2.1 q.2.2.2.2.2.1 q.2.2.2.2.2.2.1 q.2.2.2.2.2.2.2) f (v1, v2, v3, v4, v5, v6, v7, h)
theorem taL_s {f : Nat} {v1 v2 v3 v4 v5 v6 v7 : Int} : taL (f + 1) v1 v2 v3 v4 v5 v6 v7 h = F_M_takeArguments_30_b (taL f) v1 v2 v3 v4 v5 v6 v7 h := rfl
def taH (h : MH) (d n parts : Nat) (v : Int64) (sp inn : Bool) : MH := (if inn = true then mPl (if sp = true ∧ parts < 4 then mPi h 142 (4 * d + parts) (n : Int) else h) 137 (100 * d + n) v else (if sp = true ∧ parts < 4 then mPi h 142 (4 * d + parts) (n : Int) else h))
theorem ta_t {G : Int → Int → Int → Int → Int → Int → Int → MH → RS Int} {i p o n parts : Nat} {sp inn : Bool} (hd : d < 8) (hn : n < 100) (hp : parts ≤ 200) (ho : o ≤ 300) (y : TR h M v t m) : F_M_takeArguments_111 G (d : Int) (i : Int) (p : Int) (o : Int) (n : Int) (parts : Int) v (bI sp) (bI inn) h = G (d : Int) (i : Int) (p : Int) ((o : Int) + (if isSg t 40 = true then 1 else if isSg t 41 = true then -1 else 0)) ((n : Int) + bI inn) ((parts : Int) + bI sp) (if (o : Int) + (if isSg t 40 = true then 1 else if isSg t 41 = true then -1 else 0) ≤ 0 then 0 else 1) (taH h d n parts v sp inn) := by
  have key : ∀ x : Int, -1 ≤ x → x ≤ 1 → F_M_takeArguments_146 G (d : Int) (i : Int) (p : Int) (n : Int) (parts : Int) v (bI sp) (bI inn) (o : Int) x h = G (d : Int) (i : Int) (p : Int) ((o : Int) + x) ((n : Int) + bI inn) ((parts : Int) + bI sp) (if (o : Int) + x ≤ 0 then 0 else 1) (taH h d n parts v sp inn) := by
    intro x h1 h2
    have t219 : ∀ (q : Int) (h : MH), F_M_takeArguments_219 G (d : Int) (i : Int) (p : Int) ((o : Int) + x) q (n : Int) (bI inn) h = G (d : Int) (i : Int) (p : Int) ((o : Int) + x) ((n : Int) + bI inn) q (if (o : Int) + x ≤ 0 then 0 else 1) h := by
      intro q h
      unfold F_M_takeArguments_219 F_M_takeArguments_232
      rw [gd_rg (by cases inn <;> simp [bI] <;> omega) (by cases inn <;> simp [bI] <;> omega)]
      by_cases c : (o : Int) + x ≤ 0
      · rw [if_pos c, if_pos c]
      · rw [if_neg c, if_neg c]
    have t207 : ∀ (q : Int) (h : MH), F_M_takeArguments_207 G (d : Int) (i : Int) (p : Int) ((o : Int) + x) (n : Int) q (bI inn) h = G (d : Int) (i : Int) (p : Int) ((o : Int) + x) ((n : Int) + bI inn) q (if (o : Int) + x ≤ 0 then 0 else 1) h := by
      intro q h
      unfold F_M_takeArguments_207
      cases inn with
      | true => rw [if_neg (show ¬ bI true = 0 by decide)]; exact t219 q h
      | false => rw [if_pos (show bI false = 0 from rfl)]; exact t219 q h
    have t173 : ∀ h : MH, F_M_takeArguments_173 G (d : Int) (i : Int) (p : Int) ((o : Int) + x) (n : Int) (parts : Int) v (bI sp) (bI inn) h = G (d : Int) (i : Int) (p : Int) ((o : Int) + x) ((n : Int) + bI inn) ((parts : Int) + bI sp) (if (o : Int) + x ≤ 0 then 0 else 1) (if inn = true then mPl h 137 (100 * d + n) v else h) := by
      intro h
      have t185 : F_M_takeArguments_185 G (d : Int) (i : Int) (p : Int) ((o : Int) + x) (n : Int) v (bI inn) (parts : Int) (bI sp) h = G (d : Int) (i : Int) (p : Int) ((o : Int) + x) ((n : Int) + bI inn) ((parts : Int) + bI sp) (if (o : Int) + x ≤ 0 then 0 else 1) (if inn = true then mPl h 137 (100 * d + n) v else h) := by
        unfold F_M_takeArguments_185
        rw [gd_rg (by cases sp <;> simp [bI] <;> omega) (by cases sp <;> simp [bI] <;> omega)]
        cases inn with
        | true =>
          rw [if_neg (show ¬ bI true = 0 by decide), gd_rg (by omega) (by omega), gd_rg (by omega) (by omega), gd_b (by omega) (by omega), show ((100 : Int) * (d : Int) + (n : Int)).toNat = 100 * d + n by omega, if_pos rfl]
          exact t207 _ _
        | false =>
          rw [if_pos (show bI false = 0 from rfl), if_neg (show ¬ false = true by decide)]
          exact t207 _ _
      unfold F_M_takeArguments_173
      cases sp with
      | true => rw [if_neg (show ¬ bI true = 0 by decide)]; exact t185
      | false => rw [if_pos (show bI false = 0 from rfl)]; exact t185
    unfold F_M_takeArguments_146
    rw [gd_rg (by omega) (by omega)]
    unfold taH
    cases sp with
    | true =>
      rw [if_neg (show ¬ bI true = 0 by decide)]
      by_cases c4 : parts < 4
      · rw [if_neg (by omega), gd_rg (by omega) (by omega), gd_rg (by omega) (by omega), gd_b (by omega) (by omega), show ((4 : Int) * (d : Int) + (parts : Int)).toNat = 4 * d + parts by omega, if_pos (show true = true ∧ parts < 4 from ⟨rfl, c4⟩)]
        exact t173 _
      · rw [if_pos (by omega), if_neg (fun q : true = true ∧ parts < 4 => c4 q.2)]
        exact t173 _
    | false =>
      rw [if_pos (show bI false = 0 from rfl), if_neg (fun q : false = true ∧ parts < 4 => absurd q.1 (by decide))]
      exact t173 _
  unfold F_M_takeArguments_111
  rw [m_sign2 y, bnd_l]
  by_cases c40 : isSg t 40 = true
  · rw [c40, if_neg (show ¬ bI true = 0 by decide), if_pos rfl]
    exact key 1 (by decide) (by decide)
  · rw [Bool.eq_false_iff.mpr c40, if_pos (show bI false = 0 from rfl), m_sign2 y, bnd_l, if_neg (show ¬ false = true by decide)]
    by_cases c41 : isSg t 41 = true
    · rw [c41, if_neg (show ¬ bI true = 0 by decide), if_pos rfl]
      exact key (-1) (by decide) (by decide)
    · rw [Bool.eq_false_iff.mpr c41, if_pos (show bI false = 0 from rfl), if_neg (show ¬ false = true by decide)]
      exact key 0 (by decide) (by decide)
theorem taH_l {n parts b j : Nat} {sp inn : Bool} (hb : b ≠ 137) : mGl (taH h d n parts v sp inn) b j = mGl h b j := by
  unfold taH
  split
  · rw [gl_pl, if_neg (fun z => hb z.1)]
    split <;> rfl
  · split <;> rfl
theorem taH_i {n parts b j : Nat} {sp inn : Bool} (hb : b ≠ 142) : mGi (taH h d n parts v sp inn) b j = mGi h b j := by
  have q : mGi (if sp = true ∧ parts < 4 then mPi h 142 (4 * d + parts) (n : Int) else h) b j = mGi h b j := by
    split
    · rw [gi_pi, if_neg (fun z => hb z.1)]
    · rfl
  unfold taH
  split
  · rw [gi_pl]; exact q
  · exact q
theorem taH_fw {C n parts : Nat} {sp inn : Bool} : RX2 d C h (taH h d n parts v sp inn) := by
  unfold taH
  have f1 : RX2 d C h (if sp = true ∧ parts < 4 then mPi h 142 (4 * d + parts) (n : Int) else h) := by
    split
    · exact FW.pi FW.rf (by unfold pX; omega)
    · exact FW.rf
  split
  · exact FW.pl f1 (by unfold qX; omega)
  · exact f1
theorem flat_app {a : List (List Tk)} {c : List Tk} : (a ++ [c]).flatten = a.flatten ++ c := by
  rw [List.flatten_append, List.flatten_cons, List.flatten_nil, List.append_nil]
theorem ta_l {i : Nat} (hd : d < 8) (hM : M ≤ 1302) : ∀ (rest : List Tk) (f o : Nat) (cu : List Tk) (ar : List (List Tk)) (h : MH), rest.length + 1 < f → 1 ≤ o → o + rest.length ≤ 200 → ar.flatten.length + cu.length + rest.length ≤ 99 → ar.length + rest.length ≤ 100 → RSg h M 135 (100 * d) (um rest.reverse) → RSg h M 137 (100 * d) (um (ar ++ [cu]).flatten) → (∀ j, j ≤ ar.length → j ≤ 3 → mGi h 142 (4 * d + j) = ((ar.take j).flatten.length : Int)) →
    ∃ h', RX2 d M h h' ∧ (∀ j, mGl h' 135 j = mGl h 135 j) ∧ (∀ b j, b ≠ 142 → mGi h' b j = mGi h b j) ∧ (∀ j, mGl h' 136 j = mGl h 136 j) ∧ (cutA o cu ar rest = none → ∃ n' p' : Int, taL f (d : Int) (i : Int) (rest.length : Int) (o : Int) ((ar.flatten.length + cu.length : Nat) : Int) ((ar.length + 1 : Nat) : Int) 1 h = F_M_takeArguments_237 (d : Int) (i : Int) 0 n' p' 1 h') ∧
      (∀ ar' cl r', cutA o cu ar rest = some (ar', cl, r') → taL f (d : Int) (i : Int) (rest.length : Int) (o : Int) ((ar.flatten.length + cu.length : Nat) : Int) ((ar.length + 1 : Nat) : Int) 1 h = F_M_takeArguments_237 (d : Int) (i : Int) (r'.length : Int) (ar'.flatten.length : Int) (ar'.length : Int) 0 h' ∧ RSg h' M 137 (100 * d) (um ar'.flatten) ∧ ar'.flatten.length ≤ 100 ∧ 1 ≤ ar'.length ∧ (∀ j, j < ar'.length → j ≤ 3 → mGi h' 142 (4 * d + j) = ((ar'.take j).flatten.length : Int)) ∧ TR h' M (mGl h' 135 (100 * d + r'.length)) cl false ∧ RSg h' M 135 (100 * d) (um r'.reverse) ∧ r'.length ≤ rest.length) := by
  intro rest
  induction rest with
  | nil =>
    intro f o cu ar h hf ho hol hfl hal s1 s2 ia
    obtain ⟨f, rfl⟩ : ∃ g, f = g + 1 := ⟨f - 1, by omega⟩
    refine ⟨h, RX2.rf, fun _ => rfl, fun _ _ _ => rfl, fun _ => rfl, fun _ => ⟨((ar.flatten.length + cu.length : Nat) : Int), ((ar.length + 1 : Nat) : Int), ?_⟩, fun ar' cl r' e => (by cases e)⟩
    rw [taL_s, F_M_takeArguments_30_b, if_neg (by decide), if_pos (by simp)]
    rfl
  | cons t rest ih =>
    intro f o cu ar h hf ho hol hfl hal s1 s2 ia
    obtain ⟨f, rfl⟩ : ∃ g, f = g + 1 := ⟨f - 1, by omega⟩
    rw [List.length_cons] at hf hol hfl hal
    have s1' := s1
    rw [um_rev, RSg.app, um_len, List.length_reverse] at s1'
    have yt := s1'.2.1
    have ad := flat_app (a := ar) (c := cu)
    -- a step: the token goes into the argument, splits, or neither
    have step : ∀ (sp inn : Bool) (o' : Nat), ((o : Int) + (if isSg t 40 = true then 1 else if isSg t 41 = true then -1 else 0)) = (o' : Int) → F_M_takeArguments_111 (taL f) (d : Int) (i : Int) (rest.length : Int) (o : Int) ((ar.flatten.length + cu.length : Nat) : Int) ((ar.length + 1 : Nat) : Int) (mGl h 135 (100 * d + rest.length)) (bI sp) (bI inn) h = taL f (d : Int) (i : Int) (rest.length : Int) (o' : Int) (((ar.flatten.length + cu.length : Nat) : Int) + bI inn) (((ar.length + 1 : Nat) : Int) + bI sp) (if (o' : Int) ≤ 0 then 0 else 1) (taH h d (ar.flatten.length + cu.length) (ar.length + 1) (mGl h 135 (100 * d + rest.length)) sp inn) := by
      intro sp inn o' he
      rw [ta_t hd (by omega) (by omega) (by omega) yt, he]
    have p135 : ∀ sp inn j, mGl (taH h d (ar.flatten.length + cu.length) (ar.length + 1) (mGl h 135 (100 * d + rest.length)) sp inn) 135 j = mGl h 135 j := fun sp inn j => taH_l (by decide)
    have p136 : ∀ sp inn j, mGl (taH h d (ar.flatten.length + cu.length) (ar.length + 1) (mGl h 135 (100 * d + rest.length)) sp inn) 136 j = mGl h 136 j := fun sp inn j => taH_l (by decide)
    have pi : ∀ sp inn b j, b ≠ 142 → mGi (taH h d (ar.flatten.length + cu.length) (ar.length + 1) (mGl h 135 (100 * d + rest.length)) sp inn) b j = mGi h b j := fun sp inn b j hb => taH_i hb
    have hd0 : taL (f + 1) (d : Int) (i : Int) ((t :: rest).length : Int) (o : Int) ((ar.flatten.length + cu.length : Nat) : Int) ((ar.length + 1 : Nat) : Int) 1 h = if (o : Int) = 1 then (if isSg t 44 = true then F_M_takeArguments_77 (taL f) (d : Int) (i : Int) (rest.length : Int) (o : Int) ((ar.flatten.length + cu.length : Nat) : Int) ((ar.length + 1 : Nat) : Int) (mGl h 135 (100 * d + rest.length)) 1 h else F_M_takeArguments_77 (taL f) (d : Int) (i : Int) (rest.length : Int) (o : Int) ((ar.flatten.length + cu.length : Nat) : Int) ((ar.length + 1 : Nat) : Int) (mGl h 135 (100 * d + rest.length)) 0 h) else F_M_takeArguments_77 (taL f) (d : Int) (i : Int) (rest.length : Int) (o : Int) ((ar.flatten.length + cu.length : Nat) : Int) ((ar.length + 1 : Nat) : Int) (mGl h 135 (100 * d + rest.length)) 0 h := by
      rw [taL_s, F_M_takeArguments_30_b, List.length_cons, if_neg (by decide), if_neg (by omega), gd_rg (by omega) (by omega), gd_rg (by omega) (by omega), show ((rest.length + 1 : Nat) : Int) + -1 = (rest.length : Int) by omega, gd_rg (by omega) (by omega), gd_b (by omega) (by omega), show ((100 : Int) * (d : Int) + (rest.length : Int)).toNat = 100 * d + rest.length by omega, m_sign2 yt, bnd_l]
      unfold F_M_takeArguments_76
      by_cases q : isSg t 44 = true
      · rw [q, if_neg (show ¬ bI true = 0 by decide), if_pos rfl]
      · rw [Bool.eq_false_iff.mpr q, if_pos (show bI false = 0 from rfl), if_neg (show ¬ false = true by decide)]
    rw [hd0, cutA]
    -- the argument grows
    have grow : ∀ (o' : Nat), 1 ≤ o' → o' ≤ o + 1 → ((o : Int) + (if isSg t 40 = true then 1 else if isSg t 41 = true then -1 else 0)) = (o' : Int) → ∀ X : RS Int, X = F_M_takeArguments_106 (taL f) (d : Int) (i : Int) (rest.length : Int) (o : Int) ((ar.flatten.length + cu.length : Nat) : Int) ((ar.length + 1 : Nat) : Int) (mGl h 135 (100 * d + rest.length)) 0 h →
        ∃ h', RX2 d M h h' ∧ (∀ j, mGl h' 135 j = mGl h 135 j) ∧ (∀ b j, b ≠ 142 → mGi h' b j = mGi h b j) ∧ (∀ j, mGl h' 136 j = mGl h 136 j) ∧ (cutA o' (cu ++ [t]) ar rest = none → ∃ n' p' : Int, X = F_M_takeArguments_237 (d : Int) (i : Int) 0 n' p' 1 h') ∧
          (∀ ar' cl r', cutA o' (cu ++ [t]) ar rest = some (ar', cl, r') → X = F_M_takeArguments_237 (d : Int) (i : Int) (r'.length : Int) (ar'.flatten.length : Int) (ar'.length : Int) 0 h' ∧ RSg h' M 137 (100 * d) (um ar'.flatten) ∧ ar'.flatten.length ≤ 100 ∧ 1 ≤ ar'.length ∧ (∀ j, j < ar'.length → j ≤ 3 → mGi h' 142 (4 * d + j) = ((ar'.take j).flatten.length : Int)) ∧ TR h' M (mGl h' 135 (100 * d + r'.length)) cl false ∧ RSg h' M 135 (100 * d) (um r'.reverse) ∧ r'.length ≤ (t :: rest).length) := by
      intro o' h1 h2 he X hX
      have e1 := step false true o' he
      rw [if_neg (by omega)] at e1
      have hT : taH h d (ar.flatten.length + cu.length) (ar.length + 1) (mGl h 135 (100 * d + rest.length)) false true = mPl h 137 (100 * d + (ar.flatten.length + cu.length)) (mGl h 135 (100 * d + rest.length)) := rfl
      rw [hT] at e1
      have F := taH_fw (h := h) (C := M) (d := d) (n := ar.flatten.length + cu.length) (parts := ar.length + 1) (v := mGl h 135 (100 * d + rest.length)) (sp := false) (inn := true)
      rw [hT] at F
      have q135 := p135 false true
      have q136 := p136 false true
      have qi := pi false true
      rw [hT] at q135 q136 qi
      obtain ⟨h2', a1, a2, a3, a3', a4, a5⟩ := ih f o' (cu ++ [t]) ar (mPl h 137 (100 * d + (ar.flatten.length + cu.length)) (mGl h 135 (100 * d + rest.length))) (by omega) h1 (by omega) (by rw [List.length_append, List.length_singleton]; omega) (by omega) (RSg.cg (h := h) (fun j _ => gi_pl) (Nat.le_refl _) hM (fun j _ _ => q135 j) s1'.1) (by
        rw [flat_app, ← List.append_assoc, um_app, RSg.app, ← flat_app]
        refine ⟨RSg.cg (h := h) (fun j _ => gi_pl) (Nat.le_refl _) hM (fun j _ hj => by rw [um_len, ad, List.length_append] at hj; rw [gl_pl, if_neg (by omega)]) s2, ?_, trivial⟩
        rw [um_len, ad, List.length_append, gl_pl, if_pos ⟨rfl, rfl⟩]
        exact yt.cg (fun j _ => gi_pl) (Nat.le_refl _) hM) (fun j h1 h2 => by rw [gi_pl]; exact ia j h1 h2)
      have en : (((ar.flatten.length + cu.length : Nat) : Int) + bI true) = ((ar.flatten.length + (cu ++ [t]).length : Nat) : Int) := by
        rw [List.length_append, List.length_singleton]
        show _ + (1 : Int) = _
        omega
      have ep : (((ar.length + 1 : Nat) : Int) + bI false) = ((ar.length + 1 : Nat) : Int) := by show _ + (0 : Int) = _; omega
      rw [en, ep] at e1
      have hX' : X = taL f (d : Int) (i : Int) (rest.length : Int) (o' : Int) ((ar.flatten.length + (cu ++ [t]).length : Nat) : Int) ((ar.length + 1 : Nat) : Int) 1 (mPl h 137 (100 * d + (ar.flatten.length + cu.length)) (mGl h 135 (100 * d + rest.length))) := by rw [hX]; exact e1
      refine ⟨h2', F.tr a1 (Nat.le_refl _), fun j => (a2 j).trans (q135 j), fun b j hb => (a3 b j hb).trans (qi b j hb), fun j => (a3' j).trans (q136 j), fun e => ?_, fun ar' cl r' e => ?_⟩
      · obtain ⟨n', p', q⟩ := a4 e
        exact ⟨n', p', hX'.trans q⟩
      · obtain ⟨q1, q2, q3, q4, q5, q6, q7, q8⟩ := a5 ar' cl r' e
        exact ⟨hX'.trans q1, q2, q3, q4, q5, q6, q7, by rw [List.length_cons]; omega⟩
    by_cases c40 : isSg t 40 = true
    · have c41 := sg_x (b := 41) (by decide) c40
      have c44 := sg_x (b := 44) (by decide) c40
      rw [if_pos c40, if_neg (show ¬ o = 0 by omega), c44, if_neg (show ¬ false = true by decide), ite_self]
      refine grow (o + 1) (by omega) (by omega) (by rw [if_pos c40]; omega) _ ?_
      unfold F_M_takeArguments_77
      rw [if_neg (by omega), if_pos rfl, m_sign2 yt, bnd_l, c41, if_pos (show bI false = 0 from rfl), ite_self]
    rw [if_neg c40]
    by_cases c41 : isSg t 41 = true
    · have c44 := sg_x (b := 44) (by decide) c41
      rw [if_pos c41, c44, if_neg (show ¬ false = true by decide), ite_self]
      by_cases o1 : o ≤ 1
      · rw [if_pos o1]
        have e1 := step false false 0 (by rw [if_neg c40, if_pos c41]; omega)
        have hT : taH h d (ar.flatten.length + cu.length) (ar.length + 1) (mGl h 135 (100 * d + rest.length)) false false = h := rfl
        rw [hT, if_pos (by decide)] at e1
        have e2 : F_M_takeArguments_77 (taL f) (d : Int) (i : Int) (rest.length : Int) (o : Int) ((ar.flatten.length + cu.length : Nat) : Int) ((ar.length + 1 : Nat) : Int) (mGl h 135 (100 * d + rest.length)) 0 h = F_M_takeArguments_237 (d : Int) (i : Int) (rest.length : Int) ((ar ++ [cu]).flatten.length : Int) ((ar ++ [cu]).length : Int) 0 h := by
          unfold F_M_takeArguments_77 F_M_takeArguments_110
          rw [if_neg (by omega), if_pos rfl, if_neg (by omega), m_sign2 yt, bnd_l, c41, if_neg (show ¬ bI true = 0 by decide)]
          refine Eq.trans e1 ?_
          obtain ⟨f, rfl⟩ : ∃ g, f = g + 1 := ⟨f - 1, by omega⟩
          rw [taL_s, F_M_takeArguments_30_b, if_pos rfl, ad, List.length_append, List.length_append, List.length_singleton]
          show F_M_takeArguments_237 _ _ _ (_ + (0 : Int)) (_ + (0 : Int)) _ _ = _
          rw [Int.add_zero, Int.add_zero]
        rw [e2]
        refine ⟨h, RX2.rf, fun _ => rfl, fun _ _ _ => rfl, fun _ => rfl, fun e => (by cases e), fun ar' cl r' e => ?_⟩
        cases e
        refine ⟨rfl, s2, by rw [ad, List.length_append]; omega, by rw [List.length_append]; simp, fun j h1 h2 => ?_, yt, s1'.1, by rw [List.length_cons]; omega⟩
        rw [List.length_append, List.length_singleton] at h1
        rw [ia j (by omega) h2, List.take_append_of_le_length (by omega)]
      · rw [if_neg o1]
        refine grow (o - 1) (by omega) (by omega) (by rw [if_neg c40, if_pos c41]; omega) _ ?_
        unfold F_M_takeArguments_77
        rw [if_neg (by omega), if_pos rfl, if_pos (by omega)]
    rw [if_neg c41]
    have stay : ∀ X : RS Int, X = F_M_takeArguments_77 (taL f) (d : Int) (i : Int) (rest.length : Int) (o : Int) ((ar.flatten.length + cu.length : Nat) : Int) ((ar.length + 1 : Nat) : Int) (mGl h 135 (100 * d + rest.length)) 0 h → X = F_M_takeArguments_106 (taL f) (d : Int) (i : Int) (rest.length : Int) (o : Int) ((ar.flatten.length + cu.length : Nat) : Int) ((ar.length + 1 : Nat) : Int) (mGl h 135 (100 * d + rest.length)) 0 h := by
      intro X hX
      rw [hX]
      unfold F_M_takeArguments_77
      rw [if_neg (by omega), if_pos rfl, m_sign2 yt, bnd_l, Bool.eq_false_iff.mpr c41, if_pos (show bI false = 0 from rfl), ite_self]
    by_cases c44 : isSg t 44 = true ∧ o = 1
    · rw [if_pos c44, if_pos (show (o : Int) = 1 by omega), if_pos c44.1]
      have e1 := step true false o (by rw [if_neg c40, if_neg c41]; omega)
      have F := taH_fw (h := h) (C := M) (d := d) (n := ar.flatten.length + cu.length) (parts := ar.length + 1) (v := mGl h 135 (100 * d + rest.length)) (sp := true) (inn := false)
      have q135 := p135 true false
      have q136 := p136 true false
      have qi := pi true false
      have qia : ∀ j, j ≤ (ar ++ [cu]).length → j ≤ 3 → mGi (taH h d (ar.flatten.length + cu.length) (ar.length + 1) (mGl h 135 (100 * d + rest.length)) true false) 142 (4 * d + j) = (((ar ++ [cu]).take j).flatten.length : Int) := by
        intro j h1 h2
        rw [List.length_append, List.length_singleton] at h1
        unfold taH
        rw [if_neg (show ¬ false = true by decide)]
        by_cases cj : j = ar.length + 1
        · rw [if_pos (show true = true ∧ ar.length + 1 < 4 from ⟨rfl, by omega⟩), cj, gi_s, List.take_of_length_le (by rw [List.length_append]; exact Nat.le_refl _), ad, List.length_append]
        · have : mGi (if true = true ∧ ar.length + 1 < 4 then mPi h 142 (4 * d + (ar.length + 1)) ((ar.flatten.length + cu.length : Nat) : Int) else h) 142 (4 * d + j) = mGi h 142 (4 * d + j) := by
            split
            · rw [gi_pi, if_neg (by omega)]
            · rfl
          rw [this, ia j (by omega) h2, List.take_append_of_le_length (by omega)]
      have q137 : ∀ j, mGl (taH h d (ar.flatten.length + cu.length) (ar.length + 1) (mGl h 135 (100 * d + rest.length)) true false) 137 j = mGl h 137 j := fun j => by
        unfold taH
        rw [if_neg (show ¬ false = true by decide)]
        split <;> rfl
      generalize taH h d (ar.flatten.length + cu.length) (ar.length + 1) (mGl h 135 (100 * d + rest.length)) true false = h1 at *
      obtain ⟨h2', a1, a2, a3, a3', a4, a5⟩ := ih f o [] (ar ++ [cu]) h1 (by omega) ho (by omega) (by rw [ad, List.length_append, List.length_nil]; omega) (by rw [List.length_append, List.length_singleton]; omega) (RSg.cg (h := h) (fun j _ => qi 121 j (by decide)) (Nat.le_refl _) hM (fun j _ _ => q135 j) s1'.1) (by
        rw [flat_app, List.append_nil]
        exact RSg.cg (h := h) (fun j _ => qi 121 j (by decide)) (Nat.le_refl _) hM (fun j _ _ => q137 j) s2) qia
      have en : (((ar.flatten.length + cu.length : Nat) : Int) + bI false) = (((ar ++ [cu]).flatten.length + ([] : List Tk).length : Nat) : Int) := by
        rw [ad, List.length_append, List.length_nil]
        show _ + (0 : Int) = _
        omega
      have ep : (((ar.length + 1 : Nat) : Int) + bI true) = (((ar ++ [cu]).length + 1 : Nat) : Int) := by
        rw [List.length_append, List.length_singleton]
        show _ + (1 : Int) = _
        omega
      rw [en, ep, if_neg (by omega)] at e1
      have hX' : F_M_takeArguments_77 (taL f) (d : Int) (i : Int) (rest.length : Int) (o : Int) ((ar.flatten.length + cu.length : Nat) : Int) ((ar.length + 1 : Nat) : Int) (mGl h 135 (100 * d + rest.length)) 1 h = taL f (d : Int) (i : Int) (rest.length : Int) (o : Int) (((ar ++ [cu]).flatten.length + ([] : List Tk).length : Nat) : Int) (((ar ++ [cu]).length + 1 : Nat) : Int) 1 h1 := by
        unfold F_M_takeArguments_77 F_M_takeArguments_110
        rw [if_neg (by omega), if_neg (by decide)]
        exact e1
      rw [hX']
      refine ⟨h2', F.tr a1 (Nat.le_refl _), fun j => (a2 j).trans (q135 j), fun b j hb => (a3 b j hb).trans (qi b j hb), fun j => (a3' j).trans (q136 j), a4, fun ar' cl r' e => ?_⟩
      obtain ⟨q1, q2, q3, q4, q5, q6, q7, q8⟩ := a5 ar' cl r' e
      exact ⟨q1, q2, q3, q4, q5, q6, q7, by rw [List.length_cons]; omega⟩
    · rw [if_neg c44]
      refine grow o ho (by omega) (by rw [if_neg c40, if_neg c41]; omega) _ (stay _ ?_)
      by_cases o1 : o = 1
      · rw [if_pos (show (o : Int) = 1 by omega), if_neg (fun q => c44 ⟨q, o1⟩)]
      · rw [if_neg (show ¬ (o : Int) = 1 by omega)]
end Ra
