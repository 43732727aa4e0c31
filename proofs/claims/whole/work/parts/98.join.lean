/-! the class joins tokens -/
section Join
variable {h h' : MH} {r : Nat}
theorem gl_last {acc : List Tk} (ha : acc ≠ []) : acc[acc.length - 1]? = some (acc.getLastD nTk) := by
  rw [List.getLastD_eq_getLast?, List.getLast?_eq_getElem?]
  rw [List.getElem?_eq_getElem (by have := List.length_pos_iff.mpr ha; omega)]
  rfl
theorem dl_seg {M c : Nat} {acc : List Tk} (z : TSg h M c 0 (um acc)) : TSg h M c 0 (um acc.dropLast) := by
  rw [List.dropLast_eq_take]
  have q := z.tk (acc.length - 1)
  unfold um at q ⊢
  rw [← List.map_take] at q
  exact q
theorem noH_0 : hC 0 noH := ⟨by decide, fun k _ => by rw [Nat.zero_testBit]; rfl⟩
/-- a token as it comes: its characters, and one without any is none -/
def okT (t : Tk) : Prop := (∀ c ∈ t.2.1, lgl c) ∧ (t.2.1 = [] → t = nTk)
theorem okT_n : okT nTk := ⟨fun c hc => absurd hc List.not_mem_nil, fun _ => rfl⟩
theorem anH_n (a : Hd) : anH a noH = noH := by
  funext k
  unfold anH noH
  exact Bool.and_false _
def jX (acc : List Tk) (rest : List (Tk × Bool)) : List Int := (acc.getLastD nTk).2.1 ++ (rest.headD (nTk, false)).1.2.1
theorem joinT_t {rp md : Nat} {acc : List Tk} {x : Tk} {rest : List (Tk × Bool)} : joinT rp md acc ((x, true) :: rest) = if 900 < md + (jX acc rest).length then (1, rp, md, acc) else if jX acc rest = [] then joinT rp md (acc.dropLast ++ [nTk]) rest.tail
    else if (scn (jX acc rest)).2 ≠ (jX acc rest).length ∨ (scn (jX acc rest)).1 = 3 then (7, rp, md, acc) else joinT rp (md + (jX acc rest).length) (acc.dropLast ++ [((scn (jX acc rest)).1, jX acc rest, anH (acc.getLastD nTk).2.2 (rest.headD (nTk, false)).1.2.2)]) rest.tail := by
  cases rest with
  | nil =>
    have e : jX acc [] = (acc.getLastD nTk).2.1 := by unfold jX; show _ ++ [] = _; rw [List.append_nil]
    rw [e, joinT]
    show _ = if _ then _ else if _ then joinT _ _ _ [] else if _ then _ else joinT _ _ (_ ++ [(_, _, anH _ noH)]) []
    rw [anH_n, joinT, joinT]
  | cons y rest =>
    obtain ⟨b, mb⟩ := y
    rw [joinT]
    rfl
theorem okT_last {acc : List Tk} (z : ∀ t ∈ acc, okT t) : okT (acc.getLastD nTk) := by
  cases acc with
  | nil => exact okT_n
  | cons a l =>
    have : (a :: l).getLastD nTk ∈ a :: l := by
      rw [List.getLastD_cons]
      exact List.getLastD_mem_cons
    exact z _ this
theorem core (h88 : r + 3 ≠ 88) {n k md : Nat} {acc : List Tk} {vA vB : Int64} {a b : Tk} {ma mb : Bool} (hn : n ≤ 1200) (hk : k < n) (ha : acc.length ≤ k) (R : rmE h) (z : PlC h md) (ya : TC h (402 + md) vA a ma) (yb : TC h (402 + md) vB b mb) (oa : okT a) (ob : okT b) (G : Nat → Nat → Int → Int → Int → MH → RS Int) :
    (900 < md + (a.2.1 ++ b.2.1).length → FaC (F_To_joinAll_61 G (r + 3) 1200 (n : Int) (acc.length : Int) (k : Int) vA vB h) 1 (pQ md) (qK r) h) ∧
    (md + (a.2.1 ++ b.2.1).length ≤ 900 → a.2.1 ++ b.2.1 = [] → ∃ h' v, F_To_joinAll_61 G (r + 3) 1200 (n : Int) (acc.length : Int) (k : Int) vA vB h = F_To_joinAll_192 G (r + 3) 1200 (n : Int) ((acc.length - 1 : Nat) : Int) ((k + 1 : Nat) : Int) v h' ∧ FW (pQ md) noQ h h' ∧ PlC h' md ∧ TC h' (402 + md) v nTk false) ∧
    (md + (a.2.1 ++ b.2.1).length ≤ 900 → a.2.1 ++ b.2.1 ≠ [] → ((scn (a.2.1 ++ b.2.1)).2 ≠ (a.2.1 ++ b.2.1).length ∨ (scn (a.2.1 ++ b.2.1)).1 = 3) → FaC (F_To_joinAll_61 G (r + 3) 1200 (n : Int) (acc.length : Int) (k : Int) vA vB h) 7 (pQ md) (qK r) h) ∧
    (md + (a.2.1 ++ b.2.1).length ≤ 900 → a.2.1 ++ b.2.1 ≠ [] → ¬ ((scn (a.2.1 ++ b.2.1)).2 ≠ (a.2.1 ++ b.2.1).length ∨ (scn (a.2.1 ++ b.2.1)).1 = 3) → ∃ h' v, F_To_joinAll_61 G (r + 3) 1200 (n : Int) (acc.length : Int) (k : Int) vA vB h = F_To_joinAll_192 G (r + 3) 1200 (n : Int) ((acc.length - 1 : Nat) : Int) ((k + 1 : Nat) : Int) v h' ∧ FW (pQ md) noQ h h' ∧ PlC h' (md + (a.2.1 ++ b.2.1).length) ∧ TC h' (402 + (md + (a.2.1 ++ b.2.1).length)) v ((scn (a.2.1 ++ b.2.1)).1, a.2.1 ++ b.2.1, anH a.2.2 b.2.2) false) := by
  have hmd := z.2
  have la : a.2.1.length ≤ 1302 := by obtain ⟨s, g, q1, q2, q3, q4, q5⟩ := ya; omega
  have lb : b.2.1.length ≤ 1302 := by obtain ⟨s, g, q1, q2, q3, q4, q5⟩ := yb; omega
  have hlen : (a.2.1 ++ b.2.1).length = a.2.1.length + b.2.1.length := List.length_append
  -- the two are appended
  have app : md + (a.2.1 ++ b.2.1).length ≤ 900 → ∃ h2, (∀ K : MH → RS Int, (bnd (F_To_append_J vA h) fun _ h42 => bnd (F_To_append_J vB h42) fun _ h47 => K h47) = K h2) ∧ FW (pQ md) noQ h h2 ∧ PlC h2 (md + (a.2.1 ++ b.2.1).length) ∧ Seg h2 88 (402 + md) (a.2.1 ++ b.2.1) := by
    intro hc
    obtain ⟨h1, x1, f1, y1, y2⟩ := to_appJ z ya (Nat.le_refl _) (by omega)
    have e88 : ∀ j, j < 402 + md → mGi h1 88 j = mGi h 88 j := fun j hj => f1.2.2.1 88 j (by unfold pQ; omega)
    obtain ⟨h2, x2, f2, y3, y4⟩ := to_appJ y1 (yb.cg e88 (Nat.le_refl _) (by omega)) (by omega) (by omega)
    refine ⟨h2, fun K => by rw [x1, bnd_l, x2, bnd_l], f1.tr (f2.sub (fun b i => by unfold pQ; omega) (fun _ _ q => q)), by rw [hlen, ← Nat.add_assoc]; exact y3, ?_⟩
    rw [Seg.app]
    refine ⟨Seg.cg (fun j _ hj => f2.2.2.1 88 j (by unfold pQ; omega)) y2, ?_⟩
    rw [show 402 + md + a.2.1.length = 402 + (md + a.2.1.length) by omega]
    exact y4
  unfold F_To_joinAll_61
  rw [to_len ya, bnd_l, to_len yb, bnd_l, gd_rg (by omega) (by omega), z.1, gd_rg (by omega) (by omega)]
  have hid : ∀ h1 : MH, ∃ ga gb, hC ga a.2.2 ∧ hC gb b.2.2 ∧ ∀ v5 : Int64, F_To_joinAll_163 G (r + 3) 1200 (n : Int) (acc.length : Int) (k : Int) v5 vA vB h1 = F_To_joinAll_192 G (r + 3) 1200 (n : Int) ((acc.length - 1 : Nat) : Int) ((k + 1 : Nat) : Int) (v5 ||| (c64 ((ga &&& gb : Nat) : Int) <<< ((Int32.ofInt (40 : Int)).toInt64 &&& 63))) h1 := by
    intro h1
    obtain ⟨s, ga, q1, q2, q3, q4, q5⟩ := ya
    obtain ⟨s', gb, p1, p2, p3, p4, p5⟩ := yb
    refine ⟨ga, gb, q2, p2, fun v5 => ?_⟩
    unfold F_To_joinAll_163 F_To_hides F_To_hiding
    rw [q1.hid, bnd_l, p1.hid, bnd_l, bnd_l, iAnd_n q2.1 p2.1, gd_rg (by omega) (by omega), gd_rg (by omega) (by omega), show (k : Int) + 1 = ((k + 1 : Nat) : Int) by omega]
    congr 1
    split <;> omega
  refine ⟨fun c => ?_, fun c e => ?_, fun c e b7 => ?_, fun c e b7 => ?_⟩
  · rw [if_neg (by omega)]
    exact ⟨h, to_fail (why := 1) R _, FW.rf⟩
  · obtain ⟨h2, x2, f2, y2, y3⟩ := app c
    rw [if_pos (by omega)]
    unfold F_To_joinAll_94
    rw [z.1, gd_rg (by omega) (by omega), x2]
    have l0 : (a.2.1 ++ b.2.1).length = 0 := by rw [e]; rfl
    rw [if_pos (by omega)]
    unfold F_To_joinAll_136 F_To_length F_To_kind
    rw [isC.zero.len, bnd_l, if_pos (by omega), isC.zero.kind, bnd_l, if_neg (by decide)]
    obtain ⟨ga, gb, ha, hb, e3⟩ := hid h2
    rw [e3]
    have ea : a.2.1 = [] := (List.append_eq_nil_iff.mp e).1
    have eg : ga &&& gb = 0 := by
      have q := oa.2 ea
      rw [q] at ha
      refine Nat.eq_of_testBit_eq fun i => ?_
      rw [Nat.testBit_and, Nat.zero_testBit]
      by_cases hi : i < 8
      · rw [ha.2 i hi]; rfl
      · rw [Nat.testBit_lt_two_pow (Nat.lt_of_lt_of_le (show ga < 2 ^ 8 from ha.1) (Nat.pow_le_pow_right (by decide) (by omega)))]; rfl
    rw [eg]
    refine ⟨h2, _, rfl, f2, by rw [l0] at y2; exact y2, ?_⟩
    have ez : (0 : Int64) ||| (c64 ((0 : Nat) : Int) <<< ((Int32.ofInt (40 : Int)).toInt64 &&& 63)) = 0 := by decide
    rw [ez]
    exact TC.none' (by omega)
  all_goals
    obtain ⟨h2, x2, f2, y2, y3⟩ := app c
    have hx0 : a.2.1 ++ b.2.1 ≠ [] := e
    have hl0 : (a.2.1 ++ b.2.1).length ≠ 0 := fun q => hx0 (List.eq_nil_of_length_eq_zero q)
    have hrg : 0 ≤ (a.2.1 ++ b.2.1).getD 0 0 ∧ (a.2.1 ++ b.2.1).getD 0 0 < 65536 := by
      have hm : (a.2.1 ++ b.2.1).getD 0 0 ∈ a.2.1 ++ b.2.1 := by
        rw [List.getD_eq_getElem?_getD, List.getElem?_eq_getElem (by omega)]
        exact List.getElem_mem _
      have : lgl ((a.2.1 ++ b.2.1).getD 0 0) := by
        rcases List.mem_append.mp hm with q | q
        · exact oa.1 _ q
        · exact ob.1 _ q
      unfold lgl at this
      omega
    obtain ⟨v, e1, e2⟩ := to_scan hx0 (by omega) y3 hrg
    have e1' : F_To_scan ((402 : Int) + (md : Int)) ((402 : Int) + (md : Int) + ((a.2.1.length : Int) + (b.2.1.length : Int))) h2 = some (.inl v, h2) := by
      rw [show ((402 + md + (a.2.1 ++ b.2.1).length : Nat) : Int) = (402 : Int) + (md : Int) + ((a.2.1.length : Int) + (b.2.1.length : Int)) by omega, show ((402 + md : Nat) : Int) = (402 : Int) + (md : Int) by omega] at e1
      exact e1
    rw [if_pos (by omega)]
    unfold F_To_joinAll_94
    rw [z.1, gd_rg (by omega) (by omega), x2, if_neg (by omega), gd_rg (by omega) (by omega), e1', bnd_l]
    unfold F_To_joinAll_136 F_To_length F_To_kind
    rw [e2.len, bnd_l]
  · by_cases d : (scn (a.2.1 ++ b.2.1)).2 = (a.2.1 ++ b.2.1).length
    · have d3 : (scn (a.2.1 ++ b.2.1)).1 = 3 := by
        rcases b7 with q | q
        · exact absurd d q
        · exact q
      rw [if_pos (by omega), e2.kind, bnd_l, if_pos (by omega)]
      unfold F_To_joinAll_157
      exact ⟨h2, to_fail (why := 7) (rmE_c R f2.1) _, f2.sub (fun _ _ q => q) (fun _ _ q => q.elim)⟩
    · rw [if_neg (by omega)]
      unfold F_To_joinAll_157
      exact ⟨h2, to_fail (why := 7) (rmE_c R f2.1) _, f2.sub (fun _ _ q => q) (fun _ _ q => q.elim)⟩
  · have d : (scn (a.2.1 ++ b.2.1)).2 = (a.2.1 ++ b.2.1).length := Classical.byContradiction fun q => b7 (.inl q)
    have d3 : (scn (a.2.1 ++ b.2.1)).1 ≠ 3 := fun q => b7 (.inr q)
    rw [if_pos (by omega), e2.kind, bnd_l, if_neg (by omega)]
    obtain ⟨ga, gb, ha, hb, e3⟩ := hid h2
    rw [e3]
    have hg := ha.and hb
    refine ⟨h2, _, rfl, f2, y2, 402 + md, 0 ||| (ga &&& gb), ?_, ?_, y3, ?_, ?_⟩
    · rw [← d]
      exact e2.hide hg.1
    · rw [Nat.zero_or]; exact hg
    · show 402 + md + (a.2.1 ++ b.2.1).length ≤ _
      omega
    · have := y2.2
      omega
theorem jn_l (h88 : r + 3 ≠ 88) {n : Nat} (hn : n ≤ 1200) : ∀ (N : Nat) (rest : List (Tk × Bool)) (f k : Nat) (h : MH) (rp md : Nat) (acc : List Tk), rest.length ≤ N → N < f → (rest ≠ [] → k + rest.length = n) → n ≤ k + rest.length → acc.length ≤ k → acc.length ≤ n → rmE h → PlC h md → (∀ t ∈ acc, okT t) → (∀ x ∈ rest, okT x.1) → TSg h (402 + md) (r + 3) 0 (um acc) → TSg h (402 + md) (r + 3) k rest →
    ((joinT rp md acc rest).1 = 0 → ∃ h', itr (fun self (q : Nat × Nat × Int × Int × Int × MH) => F_To_joinAll_5_b (fun v1 v1n v2 v3 v4 h => self (v1, v1n, v2, v3, v4, h)) q.1 q.2.1 q.2.2.1 q.2.2.2.1 q.2.2.2.2.1 q.2.2.2.2.2) f (r + 3, 1200, (n : Int), (acc.length : Int), (k : Int), h) = some (.inl ((joinT rp md acc rest).2.2.2.length : Int), h') ∧ FW (pQ md) (qK r) h h' ∧ (joinT rp md acc rest).2.1 = rp ∧ md ≤ (joinT rp md acc rest).2.2.1 ∧ PlC h' (joinT rp md acc rest).2.2.1 ∧ TSg h' (402 + (joinT rp md acc rest).2.2.1) (r + 3) 0 (um (joinT rp md acc rest).2.2.2) ∧ (joinT rp md acc rest).2.2.2.length ≤ n) ∧
    ((joinT rp md acc rest).1 ≠ 0 → FaC (itr (fun self (q : Nat × Nat × Int × Int × Int × MH) => F_To_joinAll_5_b (fun v1 v1n v2 v3 v4 h => self (v1, v1n, v2, v3, v4, h)) q.1 q.2.1 q.2.2.1 q.2.2.2.1 q.2.2.2.2.1 q.2.2.2.2.2) f (r + 3, 1200, (n : Int), (acc.length : Int), (k : Int), h)) (joinT rp md acc rest).1 (pQ md) (qK r) h ∧ (joinT rp md acc rest).2.1 = rp) := by
  intro N
  induction N with
  | zero =>
    intro rest f k h rp md acc hN hf hk hk2 ha han R z rg s88 s1 s2
    obtain ⟨f, rfl⟩ : ∃ g, f = g + 1 := ⟨f - 1, by omega⟩
    have : rest = [] := List.eq_nil_of_length_eq_zero (by omega)
    subst this
    rw [List.length_nil] at hk2
    rw [joinT]
    refine ⟨fun _ => ⟨h, ?_, FW.rf, rfl, Nat.le_refl _, z, s1, by show acc.length ≤ n; omega⟩, fun q => absurd rfl q⟩
    rw [itr_s]
    dsimp only
    rw [F_To_joinAll_5_b, if_pos (by omega)]
  | succ N ih =>
    intro rest f k h rp md acc hN hf hk hk2 ha han R z rg s88 s1 s2
    obtain ⟨f, rfl⟩ : ∃ g, f = g + 1 := ⟨f - 1, by omega⟩
    have hmd := z.2
    match rest, hN, hk, hk2, s88, s2 with
    | [], hN, hk, hk2, s88, s2 =>
      rw [List.length_nil] at hk2
      rw [joinT]
      refine ⟨fun _ => ⟨h, ?_, FW.rf, rfl, Nat.le_refl _, z, s1, by show acc.length ≤ n; omega⟩, fun q => absurd rfl q⟩
      rw [itr_s]
      dsimp only
      rw [F_To_joinAll_5_b, if_pos (by omega)]
    | (t, false) :: rest, hN, hk, hk2, s88, s2 =>
      have hk := hk (by simp)
      rw [List.length_cons] at hN hk hk2
      have s2' : TC h (402 + md) (mGl h (r + 3) k) t false ∧ TSg h (402 + md) (r + 3) (k + 1) rest := s2
      have hj : lgI (mGl h (r + 3) k &&& 281474976710656) 0 = 0 := by
        obtain ⟨s, g, a1, -⟩ := s2'.1
        exact lg_eq.mpr (a1.jn.mpr rfl)
      have f1 : FW (pQ md) (qK r) h (mPl h (r + 3) acc.length (mGl h (r + 3) k)) := FW.pl FW.rf rfl
      have i := ih rest f (k + 1) (mPl h (r + 3) acc.length (mGl h (r + 3) k)) rp md (acc ++ [t]) (by omega) (by omega) (fun _ => by omega) (by omega) (by rw [List.length_append, List.length_singleton]; omega) (by rw [List.length_append, List.length_singleton]; omega) R z (fun x hx => by rcases List.mem_append.mp hx with q | q; exact rg x q; rw [List.mem_singleton.mp q]; exact s88 (t, false) List.mem_cons_self) (fun x hx => s88 x (List.mem_cons_of_mem _ hx)) (by
        rw [um_app, TSg.app]
        refine ⟨TSg.cg (h := h) (fun j _ => gi_pl) (Nat.le_refl _) (by omega) (fun j _ hj => by rw [um_len] at hj; rw [gl_pl, if_neg (by omega)]) s1, ?_, trivial⟩
        rw [um_len, gl_pl, if_pos ⟨rfl, by omega⟩]
        exact s2'.1.cg (fun j _ => gi_pl) (Nat.le_refl _) (by omega)) (TSg.cg (h := h) (fun j _ => gi_pl) (Nat.le_refl _) (by omega) (fun j hj _ => by rw [gl_pl, if_neg (by omega)]) s2'.2)
      have ej : joinT rp md acc ((t, false) :: rest) = joinT rp md (acc ++ [t]) rest := by rw [joinT]
      have el : itr (fun self (q : Nat × Nat × Int × Int × Int × MH) => F_To_joinAll_5_b (fun v1 v1n v2 v3 v4 h => self (v1, v1n, v2, v3, v4, h)) q.1 q.2.1 q.2.2.1 q.2.2.2.1 q.2.2.2.2.1 q.2.2.2.2.2) (f + 1) (r + 3, 1200, (n : Int), (acc.length : Int), (k : Int), h) = itr (fun self (q : Nat × Nat × Int × Int × Int × MH) => F_To_joinAll_5_b (fun v1 v1n v2 v3 v4 h => self (v1, v1n, v2, v3, v4, h)) q.1 q.2.1 q.2.2.1 q.2.2.2.1 q.2.2.2.2.1 q.2.2.2.2.2) f (r + 3, 1200, (n : Int), ((acc ++ [t]).length : Int), ((k + 1 : Nat) : Int), mPl h (r + 3) acc.length (mGl h (r + 3) k)) := by
        rw [itr_s]
        dsimp only
        rw [F_To_joinAll_5_b, if_neg (by omega), gd_b (by omega) (by omega), Int.toNat_natCast, if_pos hj]
        unfold F_To_joinAll_192
        rw [gd_b (by omega) (by omega), Int.toNat_natCast]
        simp only [sto_e]
        rw [gd_rg (by omega) (by omega), gd_rg (by omega) (by omega), List.length_append, List.length_singleton, show ((acc.length + 1 : Nat) : Int) = (acc.length : Int) + 1 by omega, show ((k + 1 : Nat) : Int) = (k : Int) + 1 by omega]
      rw [ej, el]
      refine ⟨fun q => ?_, fun q => ?_⟩
      · obtain ⟨h2, a1, a2, a3⟩ := i.1 q
        exact ⟨h2, a1, f1.tr a2, a3⟩
      · obtain ⟨⟨h0, a1, a2⟩, a3⟩ := i.2 q
        exact ⟨⟨h0, a1, f1.tr a2⟩, a3⟩
    | (t, true) :: rest, hN, hk, hk2, s88, s2 =>
      have hk := hk (by simp)
      rw [List.length_cons] at hN hk hk2
      have s2' : TC h (402 + md) (mGl h (r + 3) k) t true ∧ TSg h (402 + md) (r + 3) (k + 1) rest := s2
      have hj : ¬ lgI (mGl h (r + 3) k &&& 281474976710656) 0 = 0 := by
        obtain ⟨s, g, a1, -⟩ := s2'.1
        exact fun q => absurd (a1.jn.mp (lg_eq.mp q)) (by show ¬ mB true = 0; decide)
      -- the token ahead
      have hA : ∃ vA, TC h (402 + md) vA (acc.getLastD nTk) false ∧ ∀ G : Nat → Nat → Int → Int → Int → MH → RS Int, (if (acc.length : Int) ≤ 0 then F_To_joinAll_41 G (r + 3) 1200 (n : Int) (acc.length : Int) (k : Int) (0 : Int64) h else gd (inR ((acc.length : Int) - (1 : Int))) (gd (0 ≤ ((acc.length : Int) - (1 : Int)) ∧ ((acc.length : Int) - (1 : Int)) < (1200 : Nat)) (F_To_joinAll_41 G (r + 3) 1200 (n : Int) (acc.length : Int) (k : Int) (mGl h (r + 3) ((acc.length : Int) - (1 : Int)).toNat) h))) = F_To_joinAll_41 G (r + 3) 1200 (n : Int) (acc.length : Int) (k : Int) vA h := by
        by_cases c : acc = []
        · subst c
          exact ⟨0, TC.none' (by omega), fun G => if_pos (by simp)⟩
        · have hl : 0 < acc.length := List.length_pos_iff.mpr c
          refine ⟨mGl h (r + 3) (acc.length - 1), ?_, fun G => ?_⟩
          · have q := s1.get (j := acc.length - 1) (x := (acc.getLastD nTk, false)) (by unfold um; rw [List.getElem?_map, gl_last c]; rfl)
            rw [Nat.zero_add] at q
            exact q
          · rw [if_neg (by omega), gd_rg (by omega) (by omega), gd_b (by omega) (by omega), show ((acc.length : Int) - 1).toNat = acc.length - 1 by omega]
      -- the token behind
      have hB : ∃ vB, (∃ mb, TC h (402 + md) vB (rest.headD (nTk, false)).1 mb) ∧ ∀ (G : Nat → Nat → Int → Int → Int → MH → RS Int) (vA : Int64), F_To_joinAll_41 G (r + 3) 1200 (n : Int) (acc.length : Int) (k : Int) vA h = F_To_joinAll_61 G (r + 3) 1200 (n : Int) (acc.length : Int) (k : Int) vA vB h := by
        cases rest with
        | nil =>
          rw [List.length_nil] at hk
          refine ⟨0, ⟨false, TC.none' (by omega)⟩, fun G vA => ?_⟩
          unfold F_To_joinAll_41
          rw [gd_rg (by omega) (by omega), if_pos (by omega)]
        | cons y rest =>
          rw [List.length_cons] at hk
          obtain ⟨b, mb⟩ := y
          refine ⟨mGl h (r + 3) (k + 1), ⟨mb, s2'.2.1⟩, fun G vA => ?_⟩
          unfold F_To_joinAll_41
          rw [gd_rg (by omega) (by omega), if_neg (by omega), gd_b (by omega) (by omega), show ((k : Int) + 1).toNat = k + 1 by omega]
      obtain ⟨vA, yA, eA⟩ := hA
      obtain ⟨vB, ⟨mb, yB⟩, eB⟩ := hB
      have oB : okT (rest.headD (nTk, false)).1 := by
        cases rest with
        | nil => exact okT_n
        | cons y rest => exact s88 y (List.mem_cons_of_mem _ List.mem_cons_self)
      have eS : itr (fun self (q : Nat × Nat × Int × Int × Int × MH) => F_To_joinAll_5_b (fun v1 v1n v2 v3 v4 h => self (v1, v1n, v2, v3, v4, h)) q.1 q.2.1 q.2.2.1 q.2.2.2.1 q.2.2.2.2.1 q.2.2.2.2.2) (f + 1) (r + 3, 1200, (n : Int), (acc.length : Int), (k : Int), h) = F_To_joinAll_61 (fun v1 v1n v2 v3 v4 h => itr (fun self (q : Nat × Nat × Int × Int × Int × MH) => F_To_joinAll_5_b (fun v1 v1n v2 v3 v4 h => self (v1, v1n, v2, v3, v4, h)) q.1 q.2.1 q.2.2.1 q.2.2.2.1 q.2.2.2.2.1 q.2.2.2.2.2) f (v1, v1n, v2, v3, v4, h)) (r + 3) 1200 (n : Int) (acc.length : Int) (k : Int) vA vB h := by
        rw [itr_s]
        dsimp only
        rw [F_To_joinAll_5_b, if_neg (by omega), gd_b (by omega) (by omega), Int.toNat_natCast, if_neg hj, eA, eB]
      obtain ⟨k1, k2, k3, k4⟩ := core (acc := acc) h88 hn (by omega) ha R z yA yB (okT_last rg) oB (fun v1 v1n v2 v3 v4 h => itr (fun self (q : Nat × Nat × Int × Int × Int × MH) => F_To_joinAll_5_b (fun v1 v1n v2 v3 v4 h => self (v1, v1n, v2, v3, v4, h)) q.1 q.2.1 q.2.2.1 q.2.2.2.1 q.2.2.2.2.1 q.2.2.2.2.2) f (v1, v1n, v2, v3, v4, h))
      rw [joinT_t, eS]
      change _ → _ at k1
      have hjX : (acc.getLastD nTk).2.1 ++ (rest.headD (nTk, false)).1.2.1 = jX acc rest := rfl
      rw [hjX] at k1 k2 k3 k4
      -- the joined token is put down
      have go : ∀ (h1 : MH) (v : Int64) (tk : Tk) (md' : Nat), md ≤ md' → FW (pQ md) noQ h h1 → PlC h1 md' → TC h1 (402 + md') v tk false → okT tk → ∀ (X : RS Int), X = F_To_joinAll_192 (fun v1 v1n v2 v3 v4 h => itr (fun self (q : Nat × Nat × Int × Int × Int × MH) => F_To_joinAll_5_b (fun v1 v1n v2 v3 v4 h => self (v1, v1n, v2, v3, v4, h)) q.1 q.2.1 q.2.2.1 q.2.2.2.1 q.2.2.2.2.1 q.2.2.2.2.2) f (v1, v1n, v2, v3, v4, h)) (r + 3) 1200 (n : Int) ((acc.length - 1 : Nat) : Int) ((k + 1 : Nat) : Int) v h1 →
          ((joinT rp md' (acc.dropLast ++ [tk]) rest.tail).1 = 0 → ∃ h', X = some (.inl ((joinT rp md' (acc.dropLast ++ [tk]) rest.tail).2.2.2.length : Int), h') ∧ FW (pQ md) (qK r) h h' ∧ (joinT rp md' (acc.dropLast ++ [tk]) rest.tail).2.1 = rp ∧ md ≤ (joinT rp md' (acc.dropLast ++ [tk]) rest.tail).2.2.1 ∧ PlC h' (joinT rp md' (acc.dropLast ++ [tk]) rest.tail).2.2.1 ∧ TSg h' (402 + (joinT rp md' (acc.dropLast ++ [tk]) rest.tail).2.2.1) (r + 3) 0 (um (joinT rp md' (acc.dropLast ++ [tk]) rest.tail).2.2.2) ∧ (joinT rp md' (acc.dropLast ++ [tk]) rest.tail).2.2.2.length ≤ n) ∧
          ((joinT rp md' (acc.dropLast ++ [tk]) rest.tail).1 ≠ 0 → FaC X (joinT rp md' (acc.dropLast ++ [tk]) rest.tail).1 (pQ md) (qK r) h ∧ (joinT rp md' (acc.dropLast ++ [tk]) rest.tail).2.1 = rp) := by
        intro h1 v tk md' hm f1 z1 y1 o1 X hX
        have hm' := z1.2
        have e88 : ∀ j, j < 402 + md → mGi h1 88 j = mGi h 88 j := fun j hj => f1.2.2.1 88 j (by unfold pQ; omega)
        have f2 : FW (pQ md) (qK r) h (mPl h1 (r + 3) (acc.length - 1) v) := FW.pl (f1.sub (fun _ _ q => q) (fun _ _ q => q.elim)) rfl
        have hdl : acc.dropLast.length = acc.length - 1 := List.length_dropLast
        have s3 : TSg (mPl h1 (r + 3) (acc.length - 1) v) (402 + md') (r + 3) 0 (um (acc.dropLast ++ [tk])) := by
          rw [um_app, TSg.app]
          refine ⟨TSg.cg (h := h) (fun j hj => by rw [gi_pl]; exact e88 j hj) (by omega) (by omega) (fun j _ hj => by rw [um_len, hdl] at hj; rw [gl_pl, if_neg (by omega)]; exact f1.2.2.2 _ j id) (dl_seg s1), ?_, trivial⟩
          rw [um_len, hdl, Nat.zero_add, gl_pl, if_pos ⟨rfl, rfl⟩]
          exact y1.cg (fun j _ => gi_pl) (Nat.le_refl _) (by omega)
        have s4 : TSg (mPl h1 (r + 3) (acc.length - 1) v) (402 + md') (r + 3) (k + 1 + 1) rest.tail := by
          cases rest with
          | nil => trivial
          | cons y rest =>
            obtain ⟨b, mb⟩ := y
            exact TSg.cg (h := h) (fun j hj => by rw [gi_pl]; exact e88 j hj) (by omega) (by omega) (fun j hj _ => by rw [gl_pl, if_neg (by omega)]; exact f1.2.2.2 _ j id) s2'.2.2
        have el : X = itr (fun self (q : Nat × Nat × Int × Int × Int × MH) => F_To_joinAll_5_b (fun v1 v1n v2 v3 v4 h => self (v1, v1n, v2, v3, v4, h)) q.1 q.2.1 q.2.2.1 q.2.2.2.1 q.2.2.2.2.1 q.2.2.2.2.2) f (r + 3, 1200, (n : Int), ((acc.dropLast ++ [tk]).length : Int), ((k + 1 + 1 : Nat) : Int), mPl h1 (r + 3) (acc.length - 1) v) := by
          rw [hX]
          unfold F_To_joinAll_192
          rw [gd_b (by omega) (by omega), Int.toNat_natCast]
          simp only [sto_e]
          rw [gd_rg (by omega) (by omega), gd_rg (by omega) (by omega), List.length_append, List.length_singleton, hdl, show ((acc.length - 1 + 1 : Nat) : Int) = ((acc.length - 1 : Nat) : Int) + 1 by omega, show ((k + 1 + 1 : Nat) : Int) = ((k + 1 : Nat) : Int) + 1 by omega]
        have R' : rmE (mPl h1 (r + 3) (acc.length - 1) v) := rmE_c R f2.1
        have ot : ∀ t ∈ acc.dropLast ++ [tk], okT t := fun x hx => by
          rcases List.mem_append.mp hx with q | q
          · exact rg x (List.dropLast_subset _ q)
          · rw [List.mem_singleton.mp q]; exact o1
        have orr : ∀ x ∈ rest.tail, okT x.1 := fun x hx => s88 x (List.mem_cons_of_mem _ (List.mem_of_mem_tail hx))
        have i := ih rest.tail f (k + 1 + 1) (mPl h1 (r + 3) (acc.length - 1) v) rp md' (acc.dropLast ++ [tk]) (by rw [List.length_tail]; omega) (by omega) (fun hne => by
          cases rest with
          | nil => exact absurd rfl hne
          | cons y rest' => rw [List.length_cons] at hk; show k + 1 + 1 + rest'.length = n; omega) (by rw [List.length_tail]; omega) (by rw [List.length_append, List.length_singleton, hdl]; omega) (by rw [List.length_append, List.length_singleton, hdl]; omega) R' z1 ot orr s3 s4
        rw [el]
        refine ⟨fun q => ?_, fun q => ?_⟩
        · obtain ⟨h2, a1, a2, a3, a4, a5⟩ := i.1 q
          exact ⟨h2, a1, f2.tr (a2.sub (fun b i => by unfold pQ; omega) (fun _ _ q => q)), a3, by omega, a5⟩
        · obtain ⟨⟨h0, a1, a2⟩, a3⟩ := i.2 q
          exact ⟨⟨h0, a1, f2.tr (a2.sub (fun b i => by unfold pQ; omega) (fun _ _ q => q))⟩, a3⟩
      by_cases c1 : 900 < md + (jX acc rest).length
      · rw [if_pos c1]
        exact ⟨fun q => absurd q (by show ¬ (1 : Nat) = 0; decide), fun _ => ⟨k1 c1, rfl⟩⟩
      rw [if_neg c1]
      by_cases c2 : jX acc rest = []
      · rw [if_pos c2]
        obtain ⟨h1, v, e1, f1, z1, y1⟩ := k2 (by omega) c2
        exact go h1 v nTk md (Nat.le_refl _) f1 z1 y1 okT_n _ e1
      rw [if_neg c2]
      by_cases c3 : (scn (jX acc rest)).2 ≠ (jX acc rest).length ∨ (scn (jX acc rest)).1 = 3
      · rw [if_pos c3]
        exact ⟨fun q => absurd q (by show ¬ (7 : Nat) = 0; decide), fun _ => ⟨k3 (by omega) c2 c3, rfl⟩⟩
      rw [if_neg c3]
      obtain ⟨h1, v, e1, f1, z1, y1⟩ := k4 (by omega) c2 c3
      refine go h1 v _ _ (by omega) f1 z1 y1 ⟨fun c hc => ?_, fun q => absurd q c2⟩ _ e1
      rcases List.mem_append.mp (show c ∈ (acc.getLastD nTk).2.1 ++ (rest.headD (nTk, false)).1.2.1 from hc) with q | q
      · exact (okT_last rg).1 c q
      · exact oB.1 c q
theorem to_joinAll {cm : List (Tk × Bool)} {rp md : Nat} (h88 : r + 3 ≠ 88) (R : rmE h) (z : PlC h md) (ok : ∀ x ∈ cm, okT x.1) (y : RowK h (402 + md) r cm) :
    ((joinT rp md [] cm).1 = 0 → ∃ h', F_To_joinAll (r + 3) 1200 (mGi h r 5) h = some (.inl ((joinT rp md [] cm).2.2.2.length : Int), h') ∧ FW (pQ md) (qK r) h h' ∧ (joinT rp md [] cm).2.1 = rp ∧ md ≤ (joinT rp md [] cm).2.2.1 ∧ PlC h' (joinT rp md [] cm).2.2.1 ∧ TSg h' (402 + (joinT rp md [] cm).2.2.1) (r + 3) 0 (um (joinT rp md [] cm).2.2.2) ∧ (joinT rp md [] cm).2.2.2.length ≤ cm.length) ∧
    ((joinT rp md [] cm).1 ≠ 0 → FaC (F_To_joinAll (r + 3) 1200 (mGi h r 5) h) (joinT rp md [] cm).1 (pQ md) (qK r) h ∧ (joinT rp md [] cm).2.1 = rp) := by
  obtain ⟨y1, y2, y3⟩ := y
  rw [y1]
  exact jn_l h88 y2 cm.length cm FU 0 h rp md [] (Nat.le_refl _) (by unfold FU; omega) (fun _ => by omega) (by omega) (Nat.le_refl _) (Nat.zero_le _) R z (fun t ht => absurd ht List.not_mem_nil) ok trivial y3
end Join
