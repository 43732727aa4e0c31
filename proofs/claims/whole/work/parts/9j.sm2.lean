/-! the class's second mill: a line goes out; what is defined -/
section Sm2
variable {B h h' h0 : MH} {k0 md md' rp rp' : Nat} {tx : List Int} {n : Int} {s : S2} {P Q : Nat → Nat → Prop} {L : List LnT} {nm : Nm}
theorem Fr.fw {S : List Nat} (f : Fr S h h') : FW (fun b _ => b ∈ S) noQ h h' := ⟨f.1, by rw [f.2.1], fun b i hb => f.2.2 b hb i, fun b i _ => f.gl b i⟩
noncomputable def dvL (f : Nat) (v1 : Nat) (v2 v3 : Int) (h : MH) : RS Unit := itr (fun self (q : Nat × Int × Int × MH) => F_Sm_deliver_7_b (fun v1 v2 v3 h => self (v1, v2, v3, h)) q.1 q.2.1 q.2.2.1 q.2.2.2) f (v1, v2, v3, h)
theorem dvL_s {f v1 : Nat} {v2 v3 : Int} : dvL (f + 1) v1 v2 v3 h = F_Sm_deliver_7_b (dvL f) v1 v2 v3 h := rfl
noncomputable def dwL (f : Nat) (v1 : Nat) (v3 : Int) (h : MH) : RS Unit := itr (fun self (q : Nat × Int × MH) => F_Sm_deliver_54_b (fun v1 v3 h => self (v1, v3, h)) q.1 q.2.1 q.2.2) f (v1, v3, h)
theorem dwL_s {f v1 : Nat} {v3 : Int} : dwL (f + 1) v1 v3 h = F_Sm_deliver_54_b (dwL f) v1 v3 h := rfl
theorem dv_l {r M N : Nat} (hN : N ≤ 100) (e3 : mGi h r 3 = (N : Int)) : ∀ (l : List Tk) (f k acc : Nat), l.length < f → k + l.length = N → acc + 1303 * l.length ≤ 200000 → TSg h M (r + 2) k (um l) → dvL f r (acc : Int) (k : Int) h = bnd (F_Le_hasRoomFor 101 600 ((acc + sumT l : Nat) : Int) h) fun x30 h28 => if x30 = 0 then bnd (F_To_fail (1 : Int) h28) fun x36 h34 => F_Sm_deliver_52 r h34 else F_Sm_deliver_52 r h28 := by
  intro l
  induction l with
  | nil =>
    intro f k acc hf hk ha s
    obtain ⟨f, rfl⟩ : ∃ g, f = g + 1 := ⟨f - 1, by omega⟩
    rw [List.length_nil] at hk
    rw [dvL_s, F_Sm_deliver_7_b, e3, if_pos (by omega), sumT, Nat.add_zero]
  | cons t l ih =>
    intro f k acc hf hk ha s
    obtain ⟨f, rfl⟩ : ∃ g, f = g + 1 := ⟨f - 1, by omega⟩
    rw [List.length_cons] at hk hf ha
    have s' : TC h M (mGl h (r + 2) k) t false ∧ TSg h M (r + 2) (k + 1) (um l) := s
    have hb : t.2.1.length ≤ 1302 := by obtain ⟨s, g, a1, a2, a3, a4, a5⟩ := s'.1; omega
    rw [dvL_s, F_Sm_deliver_7_b, e3, if_neg (by omega), gd_b (by omega) (by omega), Int.toNat_natCast, to_len s'.1, bnd_l, gd_rg (by omega) (by omega), gd_rg (by omega) (by omega), show (acc : Int) + (t.2.1.length : Int) = ((acc + t.2.1.length : Nat) : Int) by omega, show (k : Int) + 1 = ((k + 1 : Nat) : Int) by omega, sumT, ← Nat.add_assoc]
    exact ih f (k + 1) (acc + t.2.1.length) (by omega) (by omega) (by omega) s'.2
theorem outT_c {t : Tk} {l : List Tk} : outT (t :: l) = t.2.1 ++ ((if l = [] then 10 else 32) :: outT l) := by
  cases l with
  | nil => rfl
  | cons u l => rfl
theorem outT_len : ∀ l : List Tk, (outT l).length = l.length + sumT l
  | [] => rfl
  | t :: l => by rw [outT_c, List.length_append, List.length_cons, outT_len l, List.length_cons, sumT]; omega
theorem dw_l {r M N : Nat} (hr : 150 ≤ r) (hN : N ≤ 100) (hM : M ≤ 1302) : ∀ (l : List Tk) (f k : Nat) (h : MH) (res : List Int), l.length < f → k + l.length = N → mGi h r 3 = (N : Int) → TSg h M (r + 2) k (um l) → Let h 101 600 res → ∃ h', dwL f r (k : Int) h = some (.inl (), h') ∧ Fr [101, 102] h h' ∧ Let h' 101 600 (res ++ outT l) := by
  intro l
  induction l with
  | nil =>
    intro f k h res hf hk e3 s z
    obtain ⟨f, rfl⟩ : ∃ g, f = g + 1 := ⟨f - 1, by omega⟩
    rw [List.length_nil] at hk
    refine ⟨h, ?_, Fr.rf, by rw [outT, List.append_nil]; exact z⟩
    rw [dwL_s, F_Sm_deliver_54_b, e3, if_pos (by omega)]
  | cons t l ih =>
    intro f k h res hf hk e3 s z
    obtain ⟨f, rfl⟩ : ∃ g, f = g + 1 := ⟨f - 1, by omega⟩
    rw [List.length_cons] at hk hf
    have s' : TC h M (mGl h (r + 2) k) t false ∧ TSg h M (r + 2) (k + 1) (um l) := s
    obtain ⟨st, g, z1, z2, z3, z4, z5⟩ := s'.1
    obtain ⟨h1, x1, f1, y1⟩ := let_all (cn := 1302) z (by decide) (by decide) z3 (by omega)
    obtain ⟨h2, x2, f2, y2⟩ := let_add (x := if l = [] then 10 else 32) y1 (by decide)
    have f12 := f1.tr f2
    have n1 : ∀ b, 103 ≤ b → b ∉ [101, 102] := fun b hb q => by simp at q; omega
    obtain ⟨h3, x3, f3, y3⟩ := ih f (k + 1) h2 _ (by omega) (by omega) ((f12.2.2 r (n1 r (by omega)) 3).trans e3) (TSg.cg (fun j _ => f12.2.2 88 (by decide) j) (Nat.le_refl _) hM (fun j _ _ => f12.gl (r + 2) j) s'.2) y2
    refine ⟨h3, ?_, f12.tr f3, ?_⟩
    · rw [dwL_s, F_Sm_deliver_54_b, e3, if_neg (by omega), gd_b (by omega) (by omega), Int.toNat_natCast]
      unfold F_To_start F_To_length
      rw [z1.start, bnd_l, z1.len, bnd_l, x1, bnd_l, gd_rg (by omega) (by omega), f1.2.2 r (n1 r (by omega)) 3, e3]
      unfold F_Sm_deliver_115
      by_cases c : l = []
      · rw [if_pos c] at x2
        rw [if_pos (by rw [c] at hk; simp at hk; omega), gd_b (by decide) (by decide), x2, bnd_l, gd_rg (by omega) (by omega), show (k : Int) + 1 = ((k + 1 : Nat) : Int) by omega]
        exact x3
      · have hl : l.length ≠ 0 := fun q => c (List.eq_nil_of_length_eq_zero q)
        rw [if_neg c] at x2
        rw [if_neg (by omega), gd_b (by decide) (by decide), x2, bnd_l, gd_rg (by omega) (by omega), show (k : Int) + 1 = ((k + 1 : Nat) : Int) by omega]
        exact x3
    · rw [outT_c]
      rw [List.append_assoc, List.append_assoc] at y3
      exact y3
theorem sm_del {r : Nat} {E : List Tk} (z : SC B k0 tx n h s) (zr : mGr h 96 0 = some r) (zd : RowD h (402 + s.2.2.2.2) r E) : SO B k0 tx n (bnd (F_Sm_deliver r h) fun x10 h8 => some (.inl (), h8)) (if 600 < (s.2.2.1 ++ outT E).length then (s, 1) else ((s.1, s.2.1, s.2.2.1 ++ outT E, s.2.2.2.1, s.2.2.2.2), 0)) := by
  obtain ⟨z1, z2, z3⟩ := zd
  have hr := (z.2.1.2.2.2.1.1 0 (by decide) r zr).2
  obtain ⟨hres, hres2⟩ := z.2.2.2.2.1
  have hm := z.2.1.2.1.2
  have A := dv_l (h := h) (r := r) (M := 402 + s.2.2.2.2) z2 z1 E FU 0 E.length (by unfold FU; omega) (by omega) (by omega) z3
  have e0 : F_Sm_deliver r h = dvL FU r (E.length : Int) ((0 : Nat) : Int) h := by
    unfold F_Sm_deliver
    rw [z1]
    rfl
  have hs : sumT E ≤ 131302 := by
    have : ∀ (l : List Tk) (p : Nat), TSg h (402 + s.2.2.2.2) (r + 2) p (um l) → sumT l ≤ 1302 * l.length := by
      intro l
      induction l with
      | nil => intro p _; exact Nat.le_refl _
      | cons t l ih =>
        intro p q
        have q' : TC h (402 + s.2.2.2.2) (mGl h (r + 2) p) t false ∧ TSg h (402 + s.2.2.2.2) (r + 2) (p + 1) (um l) := q
        have i := ih (p + 1) q'.2
        obtain ⟨st, g, a1, a2, a3, a4, a5⟩ := q'.1
        rw [sumT, List.length_cons]
        omega
    have := this E 0 z3
    omega
  rw [e0, A, List.length_append, outT_len]
  unfold F_Le_hasRoomFor
  rw [hres.len hres2, gd_rg (by omega) (by omega)]
  by_cases c : 600 < s.2.2.1.length + (E.length + sumT E)
  · rw [if_pos c, if_pos (show (600 : Nat) - (s.2.2.1.length : Int) < ((E.length + sumT E : Nat) : Int) by omega), bnd_l, if_pos rfl]
    refine ⟨fun q => absurd q (by show ¬ (1 : Nat) = 0; decide), fun _ => ⟨h, ?_, z.sx⟩⟩
    have := to_fail (h := h) (why := 1) z.2.1.rm.1 (fun (_ : Unit) h34 => F_Sm_deliver_52 r h34)
    rw [show ((1 : Nat) : Int) = 1 from rfl] at this
    rw [this, bnd_r]
    rfl
  · rw [if_neg c, if_neg (show ¬ (600 : Nat) - (s.2.2.1.length : Int) < ((E.length + sumT E : Nat) : Int) by omega), bnd_l, if_neg (by decide)]
    obtain ⟨h1, x1, f1, y1⟩ := dw_l (h := h) (M := 402 + s.2.2.2.2) hr z2 (by omega) E FU 0 s.2.2.1 (by unfold FU; omega) (by omega) z1 z3 hres
    have x1' : F_Sm_deliver_52 r h = some (.inl (), h1) := x1
    rw [x1', bnd_l]
    obtain ⟨l1, l2, l3⟩ := z.2.2.2.1
    refine ⟨fun _ => ⟨h1, rfl, z.fw f1.fw (fun b i q => by simp at q; omega) (fun b i q => q.elim) ⟨(f1.2.2 86 (by decide) 11).trans l1, l2, LvC.cg (fun b j hb _ => f1.2.2 b (by simp; omega) j) l3⟩ ⟨y1, by rw [List.length_append, outT_len]; omega⟩⟩, fun q => absurd rfl q⟩
/-! what is defined -/
theorem dfd_u {t : Tk} {r : List Tk} : dfd nm (t :: r) = if isW t 15 = true ∧ (r.getD 0 nTk).1 = 1 then dgT (fnd nm (r.getD 0 nTk).2.1).isSome :: dfd nm (r.drop 1)
    else if isW t 15 = true ∧ isSg (r.getD 0 nTk) 40 = true ∧ (r.getD 1 nTk).1 = 1 ∧ isSg (r.getD 2 nTk) 41 = true then dgT (fnd nm (r.getD 1 nTk).2.1).isSome :: dfd nm (r.drop 3)
    else t :: dfd nm r := by
  match r with
  | [] =>
    rw [if_neg (fun q => absurd q.2 (by show ¬ (0 : Nat) = 1; decide)), if_neg (fun q => absurd q.2.2.1 (by show ¬ (0 : Nat) = 1; decide))]
    rfl
  | [a] =>
    show (if isW t 15 = true ∧ a.1 = 1 then [dgT (fnd nm a.2.1).isSome] else [t, a]) = if isW t 15 = true ∧ a.1 = 1 then dgT (fnd nm a.2.1).isSome :: dfd nm [] else _
    split
    · rfl
    · rw [if_neg (fun q => absurd q.2.2.1 (by show ¬ (0 : Nat) = 1; decide))]
      rfl
  | [a, b] =>
    show (if isW t 15 = true ∧ a.1 = 1 then dgT (fnd nm a.2.1).isSome :: dfd nm [b] else t :: dfd nm [a, b]) = if isW t 15 = true ∧ a.1 = 1 then dgT (fnd nm a.2.1).isSome :: dfd nm [b] else _
    split
    · rfl
    · rw [if_neg (fun q => absurd q.2.2.2 (by show ¬ isSg nTk 41 = true; decide))]
  | a :: b :: c :: r => rfl
def LnQ (h : MH) (L : List LnT) (k : Nat) : Prop := mGi h 86 6 = (L.length : Int) ∧ L.length ≤ 400 ∧ LnC h k (L.drop k)
theorem LnO.q (z : LnO h L) : LnQ h L 0 := ⟨z.1, z.2.1, z.2.2.1⟩
theorem LnQ.tc {M p k : Nat} {x : LnT} (z : LnQ h L k) (hk : k ≤ p) (hM : 402 ≤ M) (hM2 : M ≤ 1302) (e : L[p]? = some x) : TC h M (mGl h 103 p) (ltk x) false := by
  have q := z.2.2.get (j := p - k) (x := x) (by rw [List.getElem?_drop, show k + (p - k) = p by omega]; exact e)
  rw [show k + (p - k) = p by omega] at q
  exact lnT hM hM2 q
theorem lq_sign {p k : Nat} {c : Int} (z : LnQ h L k) (hk : k ≤ p) : F_Sm_isSignAt (p : Int) c h = some (.inl (bI (sgAt L p c)), h) := by
  have hl := z.2.1
  unfold F_Sm_isSignAt F_Sm_isSignAt_29 sgAt
  rw [z.1]
  by_cases q : L.length ≤ p
  · rw [if_pos (by omega), List.getElem?_eq_none q]; rfl
  · have e := List.getElem?_eq_getElem (l := L) (i := p) (by omega)
    rw [if_neg (by omega), gd_b (by omega) (by omega), Int.toNat_natCast, e, to_sign (z.tc (M := 402) hk (Nat.le_refl _) (by decide) e), bnd_l]
    dsimp only
    cases isSg (ltk L[p]) c <;> rfl
theorem lq_word {p k : Nat} (z : LnQ h L k) (hk : k ≤ p) : F_Sm_isWordAt (p : Int) h = some (.inl (bI (wdAt L p)), h) := by
  have hl := z.2.1
  unfold F_Sm_isWordAt F_Sm_isWordAt_25 wdAt
  rw [z.1]
  by_cases q : L.length ≤ p
  · rw [if_pos (by omega), List.getElem?_eq_none q]; rfl
  · have e := List.getElem?_eq_getElem (l := L) (i := p) (by omega)
    rw [if_neg (by omega), gd_b (by omega) (by omega), Int.toNat_natCast, e, to_kind (z.tc (M := 402) hk (Nat.le_refl _) (by decide) e), bnd_l]
    dsimp only
    by_cases c : L[p].1 = 1
    · rw [if_pos (show ((ltk L[p]).1 : Int) = 1 by show (L[p].1 : Int) = 1; omega), decide_eq_true c]; rfl
    · rw [if_neg (show ¬ ((ltk L[p]).1 : Int) = 1 by show ¬ (L[p].1 : Int) = 1; omega), decide_eq_false c]; rfl
theorem wd_r {k : Nat} {l' : List LnT} (j : Nat) (e : L.drop k = l') : wdAt L (k + j) = decide (((l'.map ltk).getD j nTk).1 = 1) := by
  unfold wdAt
  have q : L[k + j]? = l'[j]? := by rw [← e, List.getElem?_drop]
  rw [q, List.getD_eq_getElem?_getD, List.getElem?_map]
  cases l'[j]? <;> rfl
theorem sg_r {k : Nat} {l' : List LnT} (j : Nat) (c : Int) (e : L.drop k = l') : sgAt L (k + j) c = isSg ((l'.map ltk).getD j nTk) c := by
  unfold sgAt
  have q : L[k + j]? = l'[j]? := by rw [← e, List.getElem?_drop]
  rw [q, List.getD_eq_getElem?_getD, List.getElem?_map]
  cases l'[j]? with
  | none => exact (decide_eq_false (fun q => absurd q.1 (by show ¬ (0 : Nat) = 4; decide))).symm
  | some x => rfl
theorem strD : mSLen.getD 15 0 = (strL 15).length := by decide +kernel
noncomputable def anL (f : Nat) (v1 v2 : Int) (h : MH) : RS Int := itr (fun self (q : Int × Int × MH) => F_Sm_answerDefined_4_b (fun v1 v2 h => self (v1, v2, h)) q.1 q.2.1 q.2.2) f (v1, v2, h)
theorem anL_s {f : Nat} {v1 v2 : Int} : anL (f + 1) v1 v2 h = F_Sm_answerDefined_4_b (anL f) v1 v2 h := rfl
theorem bdg {b : Bool} (hM : md ≤ 900) (z : TxC h tx) : ∃ v, F_To_digit (bI b) h = some (.inl v, h) ∧ TC h (402 + md) v (dgT b) false := by
  unfold F_To_digit F_To_digit_14
  cases b with
  | false =>
    rw [if_pos (show bI false = 0 from rfl)]
    exact ⟨_, rfl, 400, 0, isC.mk (k := 2) (s := 400) (n := 1) (by decide) (by decide) (by decide), noH_0, ⟨z.2.2.1, trivial⟩, by show 400 + 1 ≤ _; omega, by omega⟩
  | true =>
    rw [if_neg (by decide)]
    exact ⟨_, rfl, 401, 0, isC.mk (k := 2) (s := 401) (n := 1) (by decide) (by decide) (by decide), noH_0, ⟨z.2.2.2, trivial⟩, by show 401 + 1 ≤ _; omega, by omega⟩
theorem an_l (hL : L.length ≤ 400) (hM : md ≤ 900) : ∀ (N : Nat) (l : List LnT) (f k : Nat) (h : MH) (acc : List Tk), l.length ≤ N → N < f → L.drop k = l → acc.length + 2 ≤ k → k ≤ 404 → TxC h tx → NmC h (402 + md) nm → LnQ h L k → TSg h (402 + md) 103 0 (um acc) →
    ∃ h', anL f (acc.length : Int) (k : Int) h = some (.inl ((acc ++ dfd nm (l.map ltk)).length : Int), h') ∧ FW (fun _ _ => False) qLn h h' ∧ TSg h' (402 + md) 103 0 (um (acc ++ dfd nm (l.map ltk))) := by
  intro N
  induction N with
  | zero =>
    intro l f k h acc hN hf hk ha hk4 zt zn z s
    obtain ⟨f, rfl⟩ : ∃ g, f = g + 1 := ⟨f - 1, by omega⟩
    have : l = [] := List.eq_nil_of_length_eq_zero (by omega)
    subst this
    have hle : L.length ≤ k := by
      have := congrArg List.length hk
      rw [List.length_drop, List.length_nil] at this
      omega
    refine ⟨h, ?_, FW.rf, by rw [List.map_nil, dfd, List.append_nil]; exact s⟩
    rw [anL_s, F_Sm_answerDefined_4_b, z.1, if_pos (by omega), List.map_nil, dfd, List.append_nil]
  | succ N ih =>
    intro l f k h acc hN hf hk ha hk4 zt zn z s
    obtain ⟨f, rfl⟩ : ∃ g, f = g + 1 := ⟨f - 1, by omega⟩
    cases l with
    | nil =>
      have hle : L.length ≤ k := by
        have := congrArg List.length hk
        rw [List.length_drop, List.length_nil] at this
        omega
      refine ⟨h, ?_, FW.rf, by rw [List.map_nil, dfd, List.append_nil]; exact s⟩
      rw [anL_s, F_Sm_answerDefined_4_b, z.1, if_pos (by omega), List.map_nil, dfd, List.append_nil]
    | cons x l =>
      have hlt : k + (l.length + 1) = L.length := by
        have := congrArg List.length hk
        rw [List.length_drop, List.length_cons] at this
        omega
      rw [List.length_cons] at hN
      have hdr : ∀ j, L.drop (k + (j + 1)) = l.drop j := fun j => by rw [← List.drop_drop, hk]; rfl
      have e0 : L[k]? = some x := by
        have := congrArg (fun l => l[0]?) hk
        simpa using this
      have tc0 := z.tc (M := 402 + md) (Nat.le_refl _) (by omega) (by omega) e0
      -- a token is put down, and it goes on behind
      have step : ∀ (v : Int64) (t : Tk) (j : Nat), TC h (402 + md) v t false → k + (j + 1) ≤ 404 → ∃ h', (gd (inR ((acc.length : Int) + 1)) (gd (inR (((k + j : Nat) : Int) + 1)) (anL f ((acc.length : Int) + 1) (((k + j : Nat) : Int) + 1) (mPl h 103 acc.length v)))) = some (.inl ((acc ++ t :: dfd nm ((l.drop j).map ltk)).length : Int), h') ∧ FW (fun _ _ => False) qLn h h' ∧ TSg h' (402 + md) 103 0 (um (acc ++ t :: dfd nm ((l.drop j).map ltk))) := by
        intro v t j y hkj
        have f1 : FW (fun _ _ => False) qLn h (mPl h 103 acc.length v) := FW.pl FW.rf rfl
        obtain ⟨h2, a1, a2, a3⟩ := ih (l.drop j) f (k + (j + 1)) (mPl h 103 acc.length v) (acc ++ [t]) (by rw [List.length_drop]; omega) (by omega) (hdr j) (by rw [List.length_append, List.length_singleton]; omega) hkj (zt.cg (fun _ _ => gi_pl)) (zn.cg (fun _ _ => gi_pl) (Nat.le_refl _) (by omega) (fun _ => ⟨gi_pl, gi_pl⟩) (fun b i hb => by rw [gl_pl, if_neg (by omega)])) ⟨z.1, hL, by
          rw [hdr j]
          have q := z.2.2
          rw [hk] at q
          have q1 : LnC h (k + 1) l := q.2.2.2
          have q2 : LnC h (k + 1) (l.take j ++ l.drop j) := by rw [List.take_append_drop]; exact q1
          by_cases hj : j ≤ l.length
          · have q3 := (LnC.app.mp q2).2
            rw [List.length_take, Nat.min_eq_left hj, show k + 1 + j = k + (j + 1) by omega] at q3
            exact LnC.cg (h := h) (fun _ _ => gi_pl) (fun i hi _ => by rw [gl_pl, if_neg (by omega)]) q3
          · rw [List.drop_eq_nil_of_le (by omega)]
            trivial⟩ (by
          rw [um_app, TSg.app]
          refine ⟨TSg.cg (h := h) (fun _ _ => gi_pl) (Nat.le_refl _) (by omega) (fun i _ hi => by rw [um_len] at hi; rw [gl_pl, if_neg (by omega)]) s, ?_, trivial⟩
          rw [um_len, Nat.zero_add, gl_pl, if_pos ⟨rfl, rfl⟩]
          exact y.cg (fun _ _ => gi_pl) (Nat.le_refl _) (by omega))
        refine ⟨h2, ?_, f1.tr a2, ?_⟩
        · rw [gd_rg (by omega) (by omega), gd_rg (by omega) (by omega)]
          rw [List.append_assoc, List.singleton_append, List.length_append (as := acc) (bs := [t]), List.length_singleton, show ((acc.length + 1 : Nat) : Int) = (acc.length : Int) + 1 by omega, show ((k + (j + 1) : Nat) : Int) = ((k + j : Nat) : Int) + 1 by omega] at a1
          exact a1
        · rw [List.append_assoc, List.singleton_append] at a3
          exact a3
      have plain : dfd nm ((x :: l).map ltk) = ltk x :: dfd nm (l.map ltk) → ∃ h', F_Sm_answerDefined_181 (anL f) (acc.length : Int) (k : Int) h = some (.inl ((acc ++ dfd nm ((x :: l).map ltk)).length : Int), h') ∧ FW (fun _ _ => False) qLn h h' ∧ TSg h' (402 + md) 103 0 (um (acc ++ dfd nm ((x :: l).map ltk))) := by
        intro e
        rw [e]
        obtain ⟨h2, a1, a2, a3⟩ := step _ _ 0 tc0 (by omega)
        refine ⟨h2, ?_, a2, a3⟩
        unfold F_Sm_answerDefined_181 F_Sm_answerDefined_193
        rw [gd_b (by omega) (by omega), gd_b (by omega) (by omega), Int.toNat_natCast, Int.toNat_natCast]
        exact a1
      have hw0 := wd_r (L := L) 0 hk
      rw [Nat.add_zero] at hw0
      have hw0' : wdAt L k = decide (x.1 = 1) := hw0
      have hdx : L.drop (k + 1) = l := hdr 0
      have w1 := wd_r (L := L) 0 hdx
      have w2 := wd_r (L := L) 1 hdx
      have g1 := sg_r (L := L) 0 40 hdx
      have g3 := sg_r (L := L) 2 41 hdx
      rw [anL_s, F_Sm_answerDefined_4_b, z.1, if_neg (by omega), lq_word z (Nat.le_refl _), bnd_l, hw0']
      have hu := dfd_u (nm := nm) (t := ltk x) (r := l.map ltk)
      have hu' : dfd nm ((x :: l).map ltk) = _ := hu
      -- no question
      have no : isW (ltk x) 15 = false → ∃ h', F_Sm_answerDefined_43 (anL f) (acc.length : Int) (k : Int) h = some (.inl ((acc ++ dfd nm ((x :: l).map ltk)).length : Int), h') ∧ FW (fun _ _ => False) qLn h h' ∧ TSg h' (402 + md) 103 0 (um (acc ++ dfd nm ((x :: l).map ltk))) := by
        intro e
        rw [e, if_neg (fun q => absurd q.1 (by decide)), if_neg (fun q => absurd q.1 (by decide))] at hu'
        unfold F_Sm_answerDefined_43 F_Sm_answerDefined_44 F_Sm_answerDefined_101
        rw [if_pos rfl, if_pos rfl]
        exact plain hu'
      by_cases c1 : x.1 = 1
      · rw [decide_eq_true c1, if_neg (show ¬ bI true = 0 by decide), gd_b (by omega) (by omega), Int.toNat_natCast, to_is tc0 strD, bnd_l]
        by_cases c2 : x.2.1 = strL 15
        · have ew : isW (ltk x) 15 = true := decide_eq_true ⟨c1, c2⟩
          rw [ew] at hu'
          rw [if_pos (show (ltk x).2.1 = strL 15 from c2), if_neg (by decide)]
          unfold F_Sm_answerDefined_44
          rw [if_neg (by decide), gd_rg (by omega) (by omega), show (k : Int) + 1 = ((k + 1 : Nat) : Int) by omega, lq_word z (by omega), bnd_l]
          rw [show k + 1 + 0 = k + 1 by omega] at w1 g1
          by_cases d1 : ((l.map ltk).getD 0 nTk).1 = 1
          · rw [if_pos ⟨rfl, d1⟩] at hu'
            obtain ⟨y, hy⟩ : ∃ y, L[k + 1]? = some y ∧ (l.map ltk).getD 0 nTk = ltk y := by
              cases l with
              | nil => exact absurd d1 (by show ¬ (0 : Nat) = 1; decide)
              | cons y l =>
                refine ⟨y, ?_, rfl⟩
                have := congrArg (fun l => l[0]?) hdx
                simpa using this
            have hlen1 : k + 1 < L.length := (List.getElem?_eq_some_iff.mp hy.1).1
            have tc1 := z.tc (M := 402 + md) (p := k + 1) (by omega) (by omega) (by omega) hy.1
            rw [w1, decide_eq_true d1, if_neg (show ¬ bI true = 0 by decide), gd_b (by omega) (by omega), Int.toNat_natCast, na_find zn tc1, bnd_l]
            rw [hy.2] at hu'
            obtain ⟨v, ev, yv⟩ := bdg (h := h) (b := (fnd nm (ltk y).2.1).isSome) hM zt
            obtain ⟨h2, a1, a2, a3⟩ := step v _ 1 yv (by omega)
            have hdd : (l.drop 1).map ltk = (l.map ltk).drop 1 := by rw [List.map_drop]
            rw [hdd, ← hu'] at a1 a3
            refine ⟨h2, ?_, a2, a3⟩
            have q91 : ∀ b : Bool, b = (fnd nm (ltk y).2.1).isSome → F_Sm_answerDefined_91 (anL f) (acc.length : Int) (k : Int) (acc.length : Int) (bI b) h = some (.inl ((acc ++ dfd nm ((x :: l).map ltk)).length : Int), h2) := by
              intro b hb
              unfold F_Sm_answerDefined_91 F_Sm_answerDefined_193
              rw [gd_t bI_01, hb, ev, bnd_l, gd_b (by omega) (by omega), Int.toNat_natCast]
              simp only [sto_e]
              rw [gd_rg (by omega) (by omega), show (k : Int) + 1 = ((k + 1 : Nat) : Int) by omega]
              exact a1
            cases ef : fnd nm (ltk y).2.1 with
            | none =>
              rw [if_pos (by show (-1 : Int) < 0; decide)]
              exact q91 false (by rw [ef]; rfl)
            | some i =>
              rw [if_neg (by show ¬ (i : Int) < 0; omega)]
              exact q91 true (by rw [ef]; rfl)
          · rw [if_neg (fun q => d1 q.2)] at hu'
            rw [w1, decide_eq_false d1, if_pos (show bI false = 0 from rfl)]
            unfold F_Sm_answerDefined_101
            rw [if_neg (by decide), gd_rg (by omega) (by omega), show (k : Int) + 1 = ((k + 1 : Nat) : Int) by omega, lq_sign z (by omega), bnd_l, g1, gd_rg (by omega) (by omega), show (k : Int) + 2 = ((k + 2 : Nat) : Int) by omega, lq_word z (by omega)]
            rw [show k + 1 + 1 = k + 2 by omega] at w2
            rw [show k + 1 + 2 = k + 3 by omega] at g3
            by_cases d2 : isSg ((l.map ltk).getD 0 nTk) 40 = true
            · rw [d2, if_neg (show ¬ bI true = 0 by decide), bnd_l, w2]
              by_cases d3 : ((l.map ltk).getD 1 nTk).1 = 1
              · rw [decide_eq_true d3, if_neg (show ¬ bI true = 0 by decide), gd_rg (by omega) (by omega), show (k : Int) + 3 = ((k + 3 : Nat) : Int) by omega, lq_sign z (by omega), bnd_l, g3]
                by_cases d4 : isSg ((l.map ltk).getD 2 nTk) 41 = true
                · rw [if_pos ⟨rfl, d2, d3, d4⟩] at hu'
                  obtain ⟨y, hy⟩ : ∃ y, L[k + 2]? = some y ∧ (l.map ltk).getD 1 nTk = ltk y := by
                    match l, d3, hdx with
                    | [], d3, hdx => exact absurd d3 (by show ¬ (0 : Nat) = 1; decide)
                    | [a], d3, hdx => exact absurd d3 (by show ¬ (0 : Nat) = 1; decide)
                    | a :: y :: l, d3, hdx =>
                      refine ⟨y, ?_, rfl⟩
                      have := congrArg (fun l => l[1]?) hdx
                      simpa using this
                  have hlen1 : k + 2 < L.length := (List.getElem?_eq_some_iff.mp hy.1).1
                  have hlen3 : k + 3 < L.length := by
                    rw [← g3] at d4
                    unfold sgAt at d4
                    cases e : L[k + 3]? with
                    | none => rw [e] at d4; exact absurd d4 (by decide)
                    | some _ => exact (List.getElem?_eq_some_iff.mp e).1
                  have tc1 := z.tc (M := 402 + md) (p := k + 2) (by omega) (by omega) (by omega) hy.1
                  rw [d4, if_neg (show ¬ bI true = 0 by decide), gd_b (by omega) (by omega), Int.toNat_natCast, na_find zn tc1, bnd_l]
                  rw [hy.2] at hu'
                  obtain ⟨v, ev, yv⟩ := bdg (h := h) (b := (fnd nm (ltk y).2.1).isSome) hM zt
                  obtain ⟨h2, a1, a2, a3⟩ := step v _ 3 yv (by omega)
                  have hdd : (l.drop 3).map ltk = (l.map ltk).drop 3 := by rw [List.map_drop]
                  rw [hdd, ← hu'] at a1 a3
                  refine ⟨h2, ?_, a2, a3⟩
                  have q91 : ∀ b : Bool, b = (fnd nm (ltk y).2.1).isSome → F_Sm_answerDefined_171 (anL f) (acc.length : Int) (k : Int) (acc.length : Int) (bI b) h = some (.inl ((acc ++ dfd nm ((x :: l).map ltk)).length : Int), h2) := by
                    intro b hb
                    unfold F_Sm_answerDefined_171 F_Sm_answerDefined_193
                    rw [gd_t bI_01, hb, ev, bnd_l, gd_b (by omega) (by omega), Int.toNat_natCast]
                    simp only [sto_e]
                    rw [gd_rg (by omega) (by omega), show (k : Int) + 3 = ((k + 3 : Nat) : Int) by omega]
                    exact a1
                  cases ef : fnd nm (ltk y).2.1 with
                  | none =>
                    rw [if_pos (by show (-1 : Int) < 0; decide)]
                    exact q91 false (by rw [ef]; rfl)
                  | some i =>
                    rw [if_neg (by show ¬ (i : Int) < 0; omega)]
                    exact q91 true (by rw [ef]; rfl)
                · rw [if_neg (fun q => d4 q.2.2.2)] at hu'
                  rw [Bool.eq_false_iff.mpr d4, if_pos (show bI false = 0 from rfl)]
                  exact plain hu'
              · rw [if_neg (fun q => d3 q.2.2.1)] at hu'
                rw [decide_eq_false d3, if_pos (show bI false = 0 from rfl)]
                exact plain hu'
            · rw [if_neg (fun q => d2 q.2.1)] at hu'
              rw [Bool.eq_false_iff.mpr d2, if_pos (show bI false = 0 from rfl)]
              exact plain hu'
        · rw [if_neg (show ¬ (ltk x).2.1 = strL 15 from c2), if_pos rfl]
          exact no (decide_eq_false (fun q => c2 q.2))
      · rw [decide_eq_false c1, if_pos (show bI false = 0 from rfl)]
        exact no (decide_eq_false (fun q => c1 q.1))
theorem sm_ans (hM : md ≤ 900) (zt : TxC h tx) (zn : NmC h (402 + md) nm) (z : LnO h L) (h2 : 2 ≤ L.length) : ∃ h', F_Sm_answerDefined h = some (.inl ((dfd nm ((L.drop 2).map ltk)).length : Int), h') ∧ FW (fun _ _ => False) qLn h h' ∧ TSg h' (402 + md) 103 0 (um (dfd nm ((L.drop 2).map ltk))) := by
  obtain ⟨z1, z2, z3, z4⟩ := z
  have q : LnC h 2 (L.drop 2) := by
    have q2 : LnC h 0 (L.take 2 ++ L.drop 2) := by rw [List.take_append_drop]; exact z3
    have q3 := (LnC.app.mp q2).2
    rw [List.length_take, Nat.min_eq_left h2] at q3
    exact q3
  exact an_l (L := L) z2 hM (L.drop 2).length (L.drop 2) FU 2 h [] (Nat.le_refl _) (by rw [List.length_drop]; unfold FU; omega) rfl (by simp) (by decide) zt zn ⟨z1, z2, q⟩ trivial
end Sm2
