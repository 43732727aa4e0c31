/-! the reference puts the arguments into a body -/
section Rs
variable {h h' h'' : MH} {M T d D C c p : Nat} {v : Int64} {t : Tk} {m : Bool} {nm : Nm} {rp md rp' md' : Nat} {k g pa pa' : Nat} {R dn l : List Tk} {ar : List (List Tk)} {cm cm' : List (Tk × Bool)} {q : NmD}
theorem bd_len (z : CmR nm T h rp md) (hk : k < 8) (hq : nm k = some q) : mGi h 128 (7 - k) = (q.2.2.length : Int) ∧ mGi h 131 (7 - k) = bI q.2.1.isSome ∧ q.2.2.length ≤ 12 := by
  obtain ⟨w, ps, b⟩ := q
  have zk := z.1 k hk
  rw [hq] at zk
  exact ⟨zk.2.2.2.2.1, zk.2.2.1, zk.2.2.2.2.2.2⟩
theorem bd_get {kd : Nat} {x : List Int} (z : CmR nm T h rp md) (hk : k < 8) (hq : nm k = some q) (hb : q.2.2[p]? = some (kd, x)) : TR h (T + 2 + md) (mGl h 125 (12 * (7 - k) + p)) (kd, x, noH) false ∧ mGi h 129 (12 * (7 - k) + p) = oI (pix (q.2.1.getD []) x) := by
  obtain ⟨w, ps, b⟩ := q
  have zk := z.1 k hk
  rw [hq] at zk
  exact zk.2.2.2.2.2.1.get hb
theorem bd_jn {j : Int} (N : nmW nm) (z : CmR nm T h rp md) (hk : k < 8) (hq : nm k = some q) (h0 : -1 ≤ j) (h1 : j ≤ 20) : F_M_isBodyJoin ((7 - k : Nat) : Int) j h = some (.inl (bI (isJn (bTk q.2.2 j).1 (bTk q.2.2 j).2.1)), h) := by
  obtain ⟨b1, b2, b3⟩ := bd_len z hk hq
  unfold F_M_isBodyJoin F_M_isBodyJoin_36 bTk
  by_cases c0 : j < 0
  · rw [if_pos c0, if_pos c0]; rfl
  rw [if_neg c0, if_neg c0, gd_b (by omega) (by omega), Int.toNat_natCast, b1]
  by_cases c1 : (q.2.2.length : Int) ≤ j
  · rw [if_pos c1, List.getElem?_eq_none (by omega)]; rfl
  · rw [if_neg c1, gd_rg (by omega) (by omega), gd_rg (by omega) (by omega), gd_b (by omega) (by omega), show ((12 : Int) * ((7 - k : Nat) : Int) + j).toNat = 12 * (7 - k) + j.toNat by omega]
    obtain ⟨kd, x, e⟩ : ∃ kd x, q.2.2[j.toNat]? = some (kd, x) := ⟨_, _, List.getElem?_eq_getElem (by omega)⟩
    rw [e, m_join2 (bd_get z hk hq e).1 ((N k hk q hq).2.2.2 _ (List.mem_of_getElem? e)).1, bnd_l]
    dsimp only
    cases isJn kd x <;> rfl
theorem ArR.arg {j : Nat} (z : ArR h M d ar) (hj : j < ar.length) : ∃ a : Nat, mGi h 142 (4 * d + j) = (a : Int) ∧ mGi h 142 (4 * d + j + 1) = ((a + (ar.getD j []).length : Nat) : Int) ∧ a + (ar.getD j []).length ≤ 100 ∧ RSg h M 137 (100 * d + a) (um (ar.getD j [])) := by
  have hn : ar ≠ [] := fun e => by rw [e] at hj; exact absurd hj (Nat.not_lt_zero _)
  have e1 : ar.getD j [] = ar[j] := by rw [List.getD_eq_getElem?_getD, List.getElem?_eq_getElem hj]; rfl
  have e2 : (ar.take (j + 1)).flatten = (ar.take j).flatten ++ ar.getD j [] := by rw [e1, List.take_succ_eq_append_getElem hj, flat_app]
  have e3 : ar.flatten = (ar.take (j + 1)).flatten ++ (ar.drop (j + 1)).flatten := by rw [← List.flatten_append, List.take_append_drop]
  have hl := z.2.2.1
  have s := z.2.2.2
  rw [e3, List.length_append, e2, List.length_append] at hl
  rw [e3, um_app, RSg.app, e2, um_app, RSg.app, um_len] at s
  refine ⟨(ar.take j).flatten.length, z.1 j (by omega) hn, ?_, by omega, s.1.2⟩
  have := z.1 (j + 1) (by omega) hn
  rw [e2, List.length_append] at this
  exact this
theorem sub_128 {j a s3 p : Nat} {v6 : Int} {n : Nat} (N : nmW nm) (hd : d < 8) (hk : k < 8) (hq : nm k = some q) (hp : p ≤ 12) (hs : s3 ≤ 2) (hj : j < 3) (z : CmR nm T h rp md) (e1 : mGi h 142 (4 * d + j) = (a : Int)) (e2 : mGi h 142 (4 * d + j + 1) = ((a + n : Nat) : Int)) (ha : a + n ≤ 100) :
    F_M_substituteNext_128 (d : Int) ((7 - k : Nat) : Int) (p : Int) v v6 (j : Int) (d : Int) (p : Int) (s3 : Int) h = F_M_substituteNext_226 (d : Int) v6 ((100 * d + a : Nat) : Int) ((100 * d + a + n : Nat) : Int) (bI (isJn (bTk q.2.2 ((p : Int) - 1)).1 (bTk q.2.2 ((p : Int) - 1)).2.1 || isJn (bTk q.2.2 ((p : Int) + 1)).1 (bTk q.2.2 ((p : Int) + 1)).2.1)) (mPi h 145 d ((p + s3 : Nat) : Int)) := by
  have gi : ∀ b i, b ≠ 145 → mGi (mPi h 145 d ((p + s3 : Nat) : Int)) b i = mGi h b i := fun b i hb => by rw [gi_pi, if_neg (fun q => hb q.1)]
  have F : RX2 d (T + 2 + md) h (mPi h 145 d ((p + s3 : Nat) : Int)) := FW.pi FW.rf (by unfold pX; omega)
  have z' : CmR nm T (mPi h 145 d ((p + s3 : Nat) : Int)) rp md := z.fx F (Nat.le_refl _) (Nat.le_refl _) ⟨(gi 107 24 (by decide)).trans z.2.1.1, (gi 107 25 (by decide)).trans z.2.1.2.1, z.2.1.2.2⟩ ((gi 107 28 (by decide)).trans z.2.2.1) z.2.2.2.1 ((gi 107 1 (by decide)).trans z.2.2.2.2)
  unfold F_M_substituteNext_128
  rw [gd_rg (by omega) (by omega), gd_b (by omega) (by omega), Int.toNat_natCast, show (p : Int) + (s3 : Int) = ((p + s3 : Nat) : Int) by omega]
  simp only [sto_e]
  rw [if_pos (by omega), gd_rg (by omega) (by omega), gd_rg (by omega) (by omega), gd_rg (by omega) (by omega), gd_b (by omega) (by omega), show ((4 : Int) * (d : Int) + (j : Int)).toNat = 4 * d + j by omega, show ((4 : Int) * (d : Int) + (j : Int) + 1).toNat = 4 * d + j + 1 by omega, gi 142 _ (by decide), gi 142 _ (by decide), e1, e2, gd_rg (by omega) (by omega), gd_rg (by omega) (by omega), gd_b (by omega) (by omega), gd_rg (by omega) (by omega), gd_rg (by omega) (by omega), bd_jn N z' hk hq (by omega) (by omega), bnd_l, show (100 : Int) * (d : Int) + (a : Int) = ((100 * d + a : Nat) : Int) by omega, show (100 : Int) * (d : Int) + ((a + n : Nat) : Int) = ((100 * d + a + n : Nat) : Int) by omega]
  unfold F_M_substituteNext_221
  cases isJn (bTk q.2.2 ((p : Int) - 1)).1 (bTk q.2.2 ((p : Int) - 1)).2.1 with
  | true => rw [if_neg (show ¬ bI true = 0 by decide)]; rfl
  | false =>
    rw [if_pos (show bI false = 0 from rfl), gd_rg (by omega) (by omega), bd_jn N z' hk hq (by omega) (by omega), bnd_l]
    cases isJn (bTk q.2.2 ((p : Int) + 1)).1 (bTk q.2.2 ((p : Int) + 1)).2.1 with
    | true => rw [if_neg (show ¬ bI true = 0 by decide)]; rfl
    | false => rw [if_pos (show bI false = 0 from rfl)]; rfl
/-- which way a token of a body goes -/
theorem sub_way {kd : Nat} {x : List Int} {B' : List (Nat × List Int)} (N : nmW nm) (hd : d < 8) (hk : k < 8) (hq : nm k = some q) (z : UR nm T d h rp md k g p R dn ar cm) (hB : q.2.2.drop p = (kd, x) :: B') :
    F_M_substituteNext h = if kd = 4 ∧ x = [35] ∧ (pix (q.2.1.getD []) (hdx B').2).isSome = true then F_M_substituteNext_85 (d : Int) ((7 - k : Nat) : Int) (p : Int) (mGl h 125 (12 * (7 - k) + p)) 1 h else F_M_substituteNext_84 (d : Int) ((7 - k : Nat) : Int) (p : Int) (mGl h 125 (12 * (7 - k) + p)) h := by
  obtain ⟨b1, b2, b3⟩ := bd_len z.1 hk hq
  obtain ⟨hkl, hget, hdr⟩ := dr_cons hB
  have hps := (N k hk q hq).1
  have y0 := bd_get z.1 hk hq hget
  unfold F_M_substituteNext
  rw [z.2.1, Int.toNat_natCast, z.2.2.1, z.2.2.2.1, Int.toNat_natCast, show ((12 : Int) * ((7 - k : Nat) : Int) + (p : Int)).toNat = 12 * (7 - k) + p by omega, show ((12 : Int) * ((7 - k : Nat) : Int) + (p : Int) + 1).toNat = 12 * (7 - k) + (p + 1) by omega, gd_b (by omega) (by omega), gd_rg (by omega) (by omega), gd_rg (by omega) (by omega), gd_b (by omega) (by omega), gd_b (by omega) (by omega), b2]
  cases hq2 : q.2.1 with
  | none =>
    have e : (pix ((none : Option (List (List Int))).getD []) (hdx B').2) = none := rfl
    rw [if_pos (show bI (none : Option (List (List Int))).isSome = 0 from rfl), e, if_neg (fun q => absurd q.2.2 (by decide))]
  | some ps =>
    rw [if_neg (show ¬ bI (some ps).isSome = 0 from fun q => absurd q (show ¬ bI true = 0 by decide)), m_sign2 y0.1, bnd_l]
    by_cases cs : isSg (kd, x, noH) 35 = true
    · have cs' : kd = 4 ∧ x = [35] := of_decide_eq_true cs
      rw [cs, if_neg (show ¬ bI true = 0 by decide), gd_rg (by omega) (by omega), b1]
      cases B' with
      | nil =>
        have hle : q.2.2.length ≤ p + 1 := by
          have := congrArg List.length hdr
          rw [List.length_drop, List.length_nil] at this
          omega
        rw [hq2] at hps
        have hn : pix ((some ps).getD []) (hdx []).2 = none := by
          show pix ps [] = none
          unfold pix
          rw [List.findIdx?_eq_none_iff]
          intro y hy
          exact decide_eq_false (fun q => hps.ne (q ▸ hy))
        rw [hn, if_pos (by omega), if_neg (fun q => absurd q.2.2 (by decide))]
      | cons y B' =>
        obtain ⟨k', x'⟩ := y
        obtain ⟨hkl', hget', -⟩ := dr_cons hdr
        have y1 := (bd_get z.1 hk hq hget').2
        rw [hq2] at y1
        rw [if_neg (by omega), gd_rg (by omega) (by omega), gd_b (by omega) (by omega), y1]
        show (if oI (pix ((some ps).getD []) x') < 0 then _ else _) = if _ ∧ _ ∧ (pix ((some ps).getD []) x').isSome = true then _ else _
        rcases Option.eq_none_or_eq_some (pix ((some ps).getD []) x') with hpp | ⟨j, hpp⟩
        · exact (if_pos (by rw [hpp]; show (-1 : Int) < 0; decide)).trans (if_neg (fun q => by have q := q.2.2; rw [hpp] at q; exact absurd q (by decide))).symm
        · exact (if_neg (by rw [hpp]; show ¬ (j : Int) < 0; omega)).trans (if_pos ⟨cs'.1, cs'.2, by rw [hpp]; rfl⟩).symm
    · rw [Bool.eq_false_iff.mpr cs, if_pos (show bI false = 0 from rfl), if_neg (fun q => cs (decide_eq_true ⟨q.1, q.2.1⟩))]
theorem TR.jn (y : TR h M v t false) : TR h M (v ||| 68719476736) t true := by
  obtain ⟨s, g, z1, z2⟩ := y
  exact ⟨s, g, z1.join, z2⟩
theorem TR.no (hM : M ≤ 1302) : ∃ v, F_M_token 0 0 5 0 h = some (.inl v, h) ∧ TR h' M v nTk false := by
  unfold F_M_token
  exact ⟨_, rfl, 0, 0, isR.mk (k := 5) (s := 0) (n := 0) (g := 0) (by decide) (by decide) (by decide) (by decide), hR_0, trivial, Nat.zero_le _, hM⟩
/-! the loop over all rows -/
noncomputable def emL (f : Nat) (v3 : Int) (h : MH) : RS Unit := itr (fun self (q : Int × MH) => F_M_expand_22_b (fun v3 h => self (v3, h)) q.1 q.2) f (v3, h)
theorem emL_s {f : Nat} {v3 : Int} : emL (f + 1) v3 h = F_M_expand_22_b (emL f) v3 h := rfl
def RE (n : Nat) (h h' : MH) : Prop := ∀ f, emL (n + f) 1 h = emL f 1 h'
def RF (n : Nat) (h h' : MH) : Prop := ∀ f, emL (n + f) 1 h = some (.inl (), h')
theorem RE.rf : RE 0 h h := fun f => by rw [Nat.zero_add]
theorem RE.tr {a b : Nat} (x : RE a h h') (y : RE b h' h'') : RE (a + b) h h'' := fun f => by rw [Nat.add_assoc, x, y]
theorem RE.fl {a b : Nat} (x : RE a h h') (y : RF b h' h'') : RF (a + b) h h'' := fun f => by rw [Nat.add_assoc, x, y]
theorem em_0 {f : Nat} : emL (f + 1) 0 h = some (.inl (), h) := by rw [emL_s, F_M_expand_22_b, if_pos rfl]
theorem st_sub (hd : d < 8) (hk : k < 8) (hq : nm k = some q) (z : UR nm T d h rp md k g p R dn ar cm) (hp : p < q.2.2.length) : (∀ h', F_M_substituteNext h = some (.inl (), h') → mGi h' 107 1 = 0 → RE 1 h h') ∧ (∀ h', F_M_substituteNext h = some (.inl (), h') → mGi h' 107 1 ≠ 0 → RF 2 h h') := by
  have e : ∀ f, emL (f + 1) 1 h = bnd (F_M_substituteNext h) fun _ h13 => F_M_expand_84 (emL f) 1 h13 := fun f => by
    rw [emL_s, F_M_expand_22_b, if_neg (by decide), z.2.1, Int.toNat_natCast, z.2.2.1, Int.toNat_natCast, (bd_len z.1 hk hq).1, z.2.2.2.1, gd_b (by omega) (by omega), if_pos (by omega), gd_b (by omega) (by omega), if_neg (by omega)]
  refine ⟨fun h' e1 e2 f => ?_, fun h' e1 e2 f => ?_⟩
  · rw [Nat.add_comm, e, e1, bnd_l, F_M_expand_84, if_neg (by decide), e2, if_pos rfl]; rfl
  · rw [show 2 + f = f + 1 + 1 by omega, e, e1, bnd_l, F_M_expand_84, if_neg (by decide), if_neg e2]
    exact em_0 (f := f)
theorem st_com (hd : d < 8) (hk : k < 8) (hq : nm k = some q) (z : UR nm T d h rp md k g p R dn ar cm) (hp : q.2.2.length ≤ p) : (∀ h', F_M_comeIn (d : Int) h = some (.inl (), h') → mGi h' 107 1 = 0 → RE 1 h h') ∧ (∀ h', F_M_comeIn (d : Int) h = some (.inl (), h') → mGi h' 107 1 ≠ 0 → RF 2 h h') := by
  have e : ∀ f, emL (f + 1) 1 h = bnd (F_M_comeIn (d : Int) h) fun _ h13 => F_M_expand_84 (emL f) 1 h13 := fun f => by
    rw [emL_s, F_M_expand_22_b, if_neg (by decide), z.2.1, Int.toNat_natCast, z.2.2.1, Int.toNat_natCast, (bd_len z.1 hk hq).1, z.2.2.2.1, gd_b (by omega) (by omega), if_pos (by omega), gd_b (by omega) (by omega), if_pos (by omega)]
  refine ⟨fun h' e1 e2 f => ?_, fun h' e1 e2 f => ?_⟩
  · rw [Nat.add_comm, e, e1, bnd_l, F_M_expand_84, if_neg (by decide), e2, if_pos rfl]; rfl
  · rw [show 2 + f = f + 1 + 1 by omega, e, e1, bnd_l, F_M_expand_84, if_neg (by decide), if_neg e2]
    exact em_0 (f := f)
theorem st_scan {w : List Tk} (hd : d < 8) (z : SR nm T d h rp md w dn) : (∀ h', F_M_scanNext h = some (.inl 1, h') → mGi h' 107 1 = 0 → RE 1 h h') ∧ (∀ h', F_M_scanNext h = some (.inl 1, h') → mGi h' 107 1 ≠ 0 → RF 2 h h') ∧ (∀ h', F_M_scanNext h = some (.inl 0, h') → RF 2 h h') := by
  have e : ∀ f, emL (f + 1) 1 h = bnd (F_M_scanNext h) fun x h13 => F_M_expand_84 (emL f) x h13 := fun f => by
    rw [emL_s, F_M_expand_22_b, if_neg (by decide), z.2.1, Int.toNat_natCast, z.2.2.1, gd_b (by omega) (by omega), if_neg (by decide)]
  refine ⟨fun h' e1 e2 f => ?_, fun h' e1 e2 f => ?_, fun h' e1 f => ?_⟩
  · rw [Nat.add_comm, e, e1, bnd_l, F_M_expand_84, if_neg (by decide), e2, if_pos rfl]; rfl
  · rw [show 2 + f = f + 1 + 1 by omega, e, e1, bnd_l, F_M_expand_84, if_neg (by decide), if_neg e2]
    exact em_0 (f := f)
  · rw [show 2 + f = f + 1 + 1 by omega, e, e1, bnd_l, F_M_expand_84, if_pos rfl]
    exact em_0 (f := f)
end Rs
