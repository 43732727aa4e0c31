/-! the class's made characters -/
section Pool
variable {α : Type} {P P' Q Q' : Nat → Nat → Prop} {h h' h'' : MH} {M r md : Nat} {v : Int64} {t : Tk} {m : Bool}
def PlC (h : MH) (md : Nat) : Prop := mGi h 87 1 = (md : Int) ∧ md ≤ 900
def pQ (md b i : Nat) : Prop := (b = 88 ∧ 402 + md ≤ i) ∨ (b = 87 ∧ i = 1)
def noQ (_ _ : Nat) : Prop := False
/-- it failed so, and only these cells had changed -/
def FaC (x : RS α) (why : Nat) (P Q : Nat → Nat → Prop) (h : MH) : Prop := ∃ h0, x = some (.inr 13, mNew (mPi h0 87 2 (why : Int)) 13 6) ∧ FW P Q h h0
theorem to_fail {β : Type} {why : Nat} (R : rmE h) (K : Unit → MH → RS β) : bnd (F_To_fail (why : Int) h) K = some (.inr 13, mNew (mPi h 87 2 (why : Int)) 13 6) := by
  unfold F_To_fail thr
  rw [sto_e, gd_t (show rmE (mPi h 87 2 (why : Int)) from R), bnd_r]
theorem rmE_c (R : rmE h) (e : h'.1 = h.1) : rmE h' := by
  unfold rmE mSlt at R ⊢
  rw [e]
  exact R
theorem to_appC {c : Int} (z : PlC h md) (hm : md < 900) : ∃ h', F_To_append_C c h = some (.inl (), h') ∧ FW (pQ md) noQ h h' ∧ PlC h' (md + 1) ∧ Seg h' 88 (402 + md) [c] := by
  refine ⟨mPi (mPi h 88 (402 + md) c) 87 1 ((md : Int) + 1), ?_, FW.pi (FW.pi FW.rf (by unfold pQ; omega)) (by unfold pQ; omega), ⟨?_, by omega⟩, Seg.one ?_⟩
  · unfold F_To_append_C
    rw [z.1, gd_rg (by omega) (by omega), gd_b (by omega) (by omega)]
    simp only [sto_e]
    rw [gi_pi, if_neg (by omega), z.1, gd_rg (by omega) (by omega), show ((402 : Int) + (md : Int)).toNat = 402 + md by omega]
  · rw [gi_s]; omega
  · rw [gi_pi, if_neg (by omega), gi_s]
theorem to_appJ (z : PlC h md) (y : TC h M v t m) (hM : M ≤ 402 + md) (hm : md + t.2.1.length ≤ 900) : ∃ h', F_To_append_J v h = some (.inl (), h') ∧ FW (pQ md) noQ h h' ∧ PlC h' (md + t.2.1.length) ∧ Seg h' 88 (402 + md) t.2.1 := by
  obtain ⟨s, g, z1, z2, z3, z4, z5⟩ := y
  refine ⟨mPi (mCpI h 88 88 s (402 + md) t.2.1.length) 87 1 ((md : Int) + (t.2.1.length : Int)), ?_, FW.pi (FW.cp FW.rf (fun j _ _ => by unfold pQ; omega)) (by unfold pQ; omega), ⟨?_, by omega⟩, ?_⟩
  · unfold F_To_append_J F_To_start F_To_length
    rw [z1.start, bnd_l, z.1, gd_rg (by omega) (by omega), z1.len, bnd_l, gd_cp (by omega) (by omega) (by omega) (by omega) (by omega)]
    simp only [sto_e, bnd_l]
    rw [gi_cp, if_neg (by omega), z.1, gd_rg (by omega) (by omega), Int.toNat_natCast, Int.toNat_natCast, show ((402 : Int) + (md : Int)).toNat = 402 + md by omega]
  · rw [gi_s]; omega
  · exact Seg.pio (Seg.cp z3) (.inl (by decide))
/-- what a row of tokens gives, from here on -/
def stR : Bool → List Tk → List Int
  | _, [] => [34]
  | b, t :: r => (if b = true then [] else [32]) ++ (t.2.1 ++ stR false r)
theorem stR_e : ∀ (l : List Tk), stxT l ++ [34] = stR true l
  | [] => rfl
  | [t] => by
    show t.2.1 ++ [34] = [] ++ (t.2.1 ++ [34])
    rfl
  | t :: u :: r => by
    have q := stR_e (u :: r)
    show (t.2.1 ++ 32 :: stxT (u :: r)) ++ [34] = [] ++ (t.2.1 ++ ([32] ++ (u.2.1 ++ stR false r)))
    have e : stR true (u :: r) = [] ++ (u.2.1 ++ stR false r) := rfl
    rw [e, List.nil_append] at q
    rw [List.nil_append, List.append_assoc, List.cons_append, q]
    rfl
theorem strK_e (l : List Tk) : strK l = 34 :: stR true l := by
  unfold strK
  rw [stR_e]
def sumT : List Tk → Nat
  | [] => 0
  | t :: r => t.2.1.length + sumT r
theorem stR_len : ∀ (b : Bool) (l : List Tk), (stR b l).length = 1 + sumT l + (if b = true then l.length - 1 else l.length)
  | b, [] => by cases b <;> rfl
  | b, t :: r => by
    have q := stR_len false r
    rw [if_neg (by decide)] at q
    rw [stR, List.length_append, List.length_append, q, sumT, List.length_cons]
    cases b
    · simp; omega
    · simp; omega
theorem s16_l {a an fr e : Nat} (han : an ≤ 1000) (z : PlC h md) : ∀ (l : List Tk) (f p : Nat) (acc : Nat), l.length < f → p + l.length = e → e ≤ an → acc + 1303 * l.length ≤ 200000 → TSg h M a p (um l) → itr (fun self (q : Nat × Nat × Int × Int × Int × Int × MH) => F_To_stringOf_16_b (fun v1 v1n v2 v3 v4 v5 h => self (v1, v1n, v2, v3, v4, v5, h)) q.1 q.2.1 q.2.2.1 q.2.2.2.1 q.2.2.2.2.1 q.2.2.2.2.2.1 q.2.2.2.2.2.2) f (a, an, (fr : Int), (e : Int), (acc : Int), (p : Int), h) = if acc + sumT l ≤ 900 - md then F_To_stringOf_58 a an (fr : Int) (e : Int) ((acc + sumT l : Nat) : Int) h else bnd (F_To_fail (1 : Int) h) fun _ h34 => F_To_stringOf_58 a an (fr : Int) (e : Int) ((acc + sumT l : Nat) : Int) h34 := by
  obtain ⟨z1, z2⟩ := z
  intro l
  induction l with
  | nil =>
    intro f p acc hf hp he hacc s
    obtain ⟨f, rfl⟩ : ∃ g, f = g + 1 := ⟨f - 1, by omega⟩
    rw [List.length_nil] at hp
    rw [itr_s]
    dsimp only
    rw [F_To_stringOf_16_b, if_pos (by omega), z1, gd_rg (by omega) (by omega), sumT, Nat.add_zero]
    by_cases c : acc ≤ 900 - md
    · rw [if_pos (by omega), if_pos c]
    · rw [if_neg (by omega), if_neg c]
  | cons t l ih =>
    intro f p acc hf hp he hacc s
    obtain ⟨f, rfl⟩ : ∃ g, f = g + 1 := ⟨f - 1, by omega⟩
    rw [List.length_cons] at hp hf hacc
    have s' : TC h M (mGl h a p) t false ∧ TSg h M a (p + 1) (um l) := s
    have hb : t.2.1.length ≤ 1302 := by obtain ⟨s, g, a1, a2, a3, a4, a5⟩ := s'.1; omega
    rw [itr_s]
    dsimp only
    rw [F_To_stringOf_16_b, if_neg (by omega), gd_b (by omega) (by omega), Int.toNat_natCast, to_len s'.1, bnd_l, gd_rg (by omega) (by omega), gd_rg (by omega) (by omega), show (acc : Int) + (t.2.1.length : Int) = ((acc + t.2.1.length : Nat) : Int) by omega, show (p : Int) + 1 = ((p + 1 : Nat) : Int) by omega, sumT, ← Nat.add_assoc]
    exact ih f (p + 1) (acc + t.2.1.length) (by omega) (by omega) he (by omega) s'.2
theorem s77_l {a an fr e n st : Nat} (han : an ≤ 1000) (ha : a ≠ 88) : ∀ (l : List Tk) (f p : Nat) (h : MH) (md : Nat), l.length < f → p + l.length = e → e ≤ an → fr ≤ p → M ≤ 402 + md → PlC h md → md + (stR (decide (p = fr)) l).length ≤ 900 → TSg h M a p (um l) →
    ∃ h', itr (fun self (q : Nat × Nat × Int × Int × Int × Int × Int × MH) => F_To_stringOf_77_b (fun v1 v1n v2 v3 v4 v5 v6 h => self (v1, v1n, v2, v3, v4, v5, v6, h)) q.1 q.2.1 q.2.2.1 q.2.2.2.1 q.2.2.2.2.1 q.2.2.2.2.2.1 q.2.2.2.2.2.2.1 q.2.2.2.2.2.2.2) f (a, an, (fr : Int), (e : Int), (n : Int), (st : Int), (p : Int), h) = bnd (F_To_token 3 (st : Int) (n : Int) h') (fun x h => some (.inl x, h)) ∧ FW (pQ md) noQ h h' ∧ PlC h' (md + (stR (decide (p = fr)) l).length) ∧ Seg h' 88 (402 + md) (stR (decide (p = fr)) l) := by
  intro l
  induction l with
  | nil =>
    intro f p h md hf hp he hfr hM z hr s
    obtain ⟨f, rfl⟩ : ∃ g, f = g + 1 := ⟨f - 1, by omega⟩
    rw [List.length_nil] at hp
    have e1 : stR (decide (p = fr)) [] = [34] := by cases decide (p = fr) <;> rfl
    rw [e1] at hr ⊢
    rw [List.length_singleton] at hr
    obtain ⟨h1, x1, f1, y1, y2⟩ := to_appC (c := 34) z (by omega)
    refine ⟨h1, ?_, f1, y1, y2⟩
    rw [itr_s]
    dsimp only
    rw [F_To_stringOf_77_b, if_pos (by omega), x1, bnd_l]
  | cons t l ih =>
    intro f p h md hf hp he hfr hM z hr s
    obtain ⟨f, rfl⟩ : ∃ g, f = g + 1 := ⟨f - 1, by omega⟩
    rw [List.length_cons] at hp hf
    have s' : TC h M (mGl h a p) t false ∧ TSg h M a (p + 1) (um l) := s
    have hb : M ≤ 1302 := by obtain ⟨s, g, a1, a2, a3, a4, a5⟩ := s'.1; exact a5
    have en : stR (decide (p + 1 = fr)) l = stR false l := by rw [decide_eq_false (by omega)]
    -- the token itself
    have main : ∀ (h : MH) (md : Nat), M ≤ 402 + md → PlC h md → md + (t.2.1 ++ stR false l).length ≤ 900 → TSg h M a p (um (t :: l)) → ∃ h', F_To_stringOf_95 (fun v1 v1n v2 v3 v4 v5 v6 h => itr (fun self (q : Nat × Nat × Int × Int × Int × Int × Int × MH) => F_To_stringOf_77_b (fun v1 v1n v2 v3 v4 v5 v6 h => self (v1, v1n, v2, v3, v4, v5, v6, h)) q.1 q.2.1 q.2.2.1 q.2.2.2.1 q.2.2.2.2.1 q.2.2.2.2.2.1 q.2.2.2.2.2.2.1 q.2.2.2.2.2.2.2) f (v1, v1n, v2, v3, v4, v5, v6, h)) a an (fr : Int) (e : Int) (n : Int) (st : Int) (p : Int) h = bnd (F_To_token 3 (st : Int) (n : Int) h') (fun x h => some (.inl x, h)) ∧ FW (pQ md) noQ h h' ∧ PlC h' (md + (t.2.1 ++ stR false l).length) ∧ Seg h' 88 (402 + md) (t.2.1 ++ stR false l) := by
      intro h md hM z hr s
      have s' : TC h M (mGl h a p) t false ∧ TSg h M a (p + 1) (um l) := s
      rw [List.length_append] at hr
      obtain ⟨h1, x1, f1, y1, y2⟩ := to_appJ z s'.1 hM (by omega)
      have e88 : ∀ j, j < 402 + md → mGi h1 88 j = mGi h 88 j := fun j hj => f1.2.2.1 88 j (by unfold pQ; omega)
      obtain ⟨h2, x2, f2, y3, y4⟩ := ih f (p + 1) h1 (md + t.2.1.length) (by omega) (by omega) he (by omega) (by omega) y1 (by rw [en]; omega) (TSg.cg (fun j hj => e88 j (by omega)) (Nat.le_refl _) hb (fun j _ _ => f1.2.2.2 a j id) s'.2)
      rw [en] at y3 y4
      refine ⟨h2, ?_, f1.tr (f2.sub (fun b i => by unfold pQ; omega) (fun _ _ q => q)), ?_, ?_⟩
      · unfold F_To_stringOf_95
        rw [gd_b (by omega) (by omega), Int.toNat_natCast, x1, bnd_l, gd_rg (by omega) (by omega), show (p : Int) + 1 = ((p + 1 : Nat) : Int) by omega]
        exact x2
      · rw [List.length_append, ← Nat.add_assoc]; exact y3
      · rw [Seg.app]
        refine ⟨Seg.cg (fun j _ hj => f2.2.2.1 88 j (by unfold pQ; omega)) y2, ?_⟩
        rw [show 402 + md + t.2.1.length = 402 + (md + t.2.1.length) by omega]
        exact y4
    rw [itr_s]
    dsimp only
    rw [F_To_stringOf_77_b, if_neg (by omega), stR]
    rw [stR] at hr
    by_cases c : p = fr
    · rw [decide_eq_true c, if_pos rfl, List.nil_append] at hr ⊢
      rw [if_pos (by omega)]
      exact main h md hM z hr s
    · rw [decide_eq_false c, if_neg (by decide), List.singleton_append, List.length_cons] at hr
      rw [decide_eq_false c, if_neg (show ¬ (p : Int) ≤ (fr : Int) by omega), if_neg (show ¬ (false = true) by decide), List.singleton_append]
      obtain ⟨h1, x1, f1, y1, y2⟩ := to_appC (c := 32) z (by omega)
      have e88 : ∀ j, j < 402 + md → mGi h1 88 j = mGi h 88 j := fun j hj => f1.2.2.1 88 j (by unfold pQ; omega)
      obtain ⟨h2, x2, f2, y3, y4⟩ := main h1 (md + 1) (by omega) y1 (by omega) (TSg.cg (fun j hj => e88 j (by omega)) (Nat.le_refl _) hb (fun j _ _ => f1.2.2.2 a j id) s)
      rw [x1, bnd_l]
      refine ⟨h2, x2, f1.tr (f2.sub (fun b i => by unfold pQ; omega) (fun _ _ q => q)), ?_, ?_⟩
      · rw [List.length_cons, show md + ((t.2.1 ++ stR false l).length + 1) = md + 1 + (t.2.1 ++ stR false l).length by omega]; exact y3
      · refine ⟨?_, ?_⟩
        · rw [f2.2.2.1 88 _ (by unfold pQ; omega)]; exact y2.1
        · rw [show 402 + md + 1 = 402 + (md + 1) by omega]; exact y4
theorem strK_len (l : List Tk) : (strK l).length = 2 + sumT l + (l.length - 1) := by
  rw [strK_e, List.length_cons, stR_len, if_pos rfl]
  omega
theorem to_str {a an p : Nat} {l : List Tk} (R : rmE h) (han : an ≤ 1000) (ha : a ≠ 88) (z : PlC h md) (hl : l.length ≤ 100) (hp : p + l.length ≤ an) (s : TSg h (402 + md) a p (um l)) :
    (900 < md + (strK l).length → F_To_stringOf a an (p : Int) ((p + l.length : Nat) : Int) h = some (.inr 13, mNew (mPi h 87 2 ((1 : Nat) : Int)) 13 6)) ∧
    (md + (strK l).length ≤ 900 → ∃ h' v, F_To_stringOf a an (p : Int) ((p + l.length : Nat) : Int) h = some (.inl v, h') ∧ FW (pQ md) noQ h h' ∧ PlC h' (md + (strK l).length) ∧ TC h' (402 + (md + (strK l).length)) v (3, strK l, noH) false) := by
  have hm := z.2
  have q := s16_l (M := 402 + md) (fr := p) han z l FU p (2 + (l.length - 1)) (by unfold FU; omega) rfl hp (by omega) s
  have hk := strK_len l
  have hd : F_To_stringOf a an (p : Int) ((p + l.length : Nat) : Int) h = if (strK l).length ≤ 900 - md then F_To_stringOf_58 a an (p : Int) ((p + l.length : Nat) : Int) ((strK l).length : Int) h else bnd (F_To_fail (1 : Int) h) fun _ h34 => F_To_stringOf_58 a an (p : Int) ((p + l.length : Nat) : Int) ((strK l).length : Int) h34 := by
    unfold F_To_stringOf
    rw [gd_rg (by omega) (by omega), gd_rg (by omega) (by omega)]
    have e : (2 : Int) + (if (0 : Int) < ((p + l.length : Nat) : Int) - (p : Int) - 1 then ((p + l.length : Nat) : Int) - (p : Int) - 1 else 0) = ((2 + (l.length - 1) : Nat) : Int) := by split <;> omega
    rw [e, gd_rg (by omega) (by omega)]
    rw [show 2 + (l.length - 1) + sumT l = (strK l).length by omega] at q
    exact q
  rw [hd]
  refine ⟨fun c => ?_, fun c => ?_⟩
  · rw [if_neg (by omega)]
    exact to_fail (why := 1) R _
  · rw [if_pos (by omega)]
    obtain ⟨h1, x1, f1, y1, y2⟩ := to_appC (c := 34) z (by omega)
    have e88 : ∀ j, j < 402 + md → mGi h1 88 j = mGi h 88 j := fun j hj => f1.2.2.1 88 j (by unfold pQ; omega)
    have hst : (stR (decide (p = p)) l).length + 1 = (strK l).length := by rw [decide_eq_true rfl, strK_e, List.length_cons]
    obtain ⟨h2, x2, f2, y3, y4⟩ := s77_l (M := 402 + md) (fr := p) (e := p + l.length) (n := (strK l).length) (st := 402 + md) han ha l FU p h1 (md + 1) (by unfold FU; omega) rfl hp (Nat.le_refl _) (by omega) y1 (by omega) (TSg.cg (fun j hj => e88 j (by omega)) (Nat.le_refl _) (by omega) (fun j _ _ => f1.2.2.2 a j id) s)
    have x2' : F_To_stringOf_77 a an (p : Int) ((p + l.length : Nat) : Int) ((strK l).length : Int) ((402 + md : Nat) : Int) (p : Int) h1 = bnd (F_To_token 3 ((402 + md : Nat) : Int) ((strK l).length : Int) h2) (fun x h => some (.inl x, h)) := x2
    unfold F_To_stringOf_58
    rw [z.1, gd_rg (by omega) (by omega), x1, bnd_l, show (402 : Int) + (md : Int) = ((402 + md : Nat) : Int) by omega, x2']
    have ek : strK l = 34 :: stR (decide (p = p)) l := by rw [decide_eq_true rfl, strK_e]
    refine ⟨h2, _, rfl, f1.tr (f2.sub (fun b i => by unfold pQ; omega) (fun _ _ q => q)), ?_, 402 + md, 0, isC.mk (k := 3) (s := 402 + md) (n := (strK l).length) (by decide) (by omega) (by omega), ⟨by decide, fun k _ => by rw [Nat.zero_testBit]; rfl⟩, ?_, ?_, ?_⟩
    · rw [show md + (strK l).length = md + 1 + (stR (decide (p = p)) l).length by omega]; exact y3
    · show Seg h2 88 (402 + md) (strK l)
      rw [ek]
      refine ⟨?_, ?_⟩
      · rw [f2.2.2.1 88 _ (by unfold pQ; omega)]; exact y2.1
      · rw [show 402 + md + 1 = 402 + (md + 1) by omega]; exact y4
    · show 402 + md + (strK l).length ≤ _
      omega
    · omega
end Pool
