/-! the reference's conditions -/
section Cd
variable {B h h' : MH} {M E : Nat} {t x : List Int} {s : S2} {nm : Nm} {P Q : Nat → Nat → Prop} {L : List LnT} {lv : List (Bool × Bool × Bool)} {res : List Int} {rp md rp' md' : Nat} {T why : Nat}
/-! no token of a row is empty -/
def neT (t : Tk) : Prop := t.2.1 ≠ []
theorem hide_ne {H : Hd} : ∀ (l : List Tk), ∀ t ∈ hideT H l, neT t
  | [], t, ht => absurd ht List.not_mem_nil
  | (k, x, g) :: l, t, ht => by
    rw [hideT] at ht
    split at ht
    · exact hide_ne l t ht
    · rename_i c
      rcases List.mem_cons.mp ht with q | q
      · rw [q]; exact c
      · exact hide_ne l t q
theorem callT_ne {t : Tk} {w : List Tk} {k : Nat} {q : NmD} {H : Hd} {ar : List (List Tk)} {r' : List Tk} (e : callT nm t w = some (some (k, q, H, ar, r'))) (hw : ∀ t ∈ w, neT t) : ∀ t ∈ r', neT t := by
  unfold callT at e
  cases hfn : (if t.1 = 1 then fnd nm t.2.1 else none) with
  | none => rw [hfn] at e; cases e
  | some k' =>
    rw [hfn] at e
    dsimp only at e
    cases hq : nm k' with
    | none => rw [hq] at e; cases e
    | some q' =>
      rw [hq] at e
      dsimp only at e
      by_cases c1 : t.2.2 k' = true
      · rw [if_pos c1] at e; cases e
      rw [if_neg c1] at e
      cases hps : q'.2.1 with
      | none =>
        rw [hps] at e
        cases e
        exact hw
      | some ps =>
        rw [hps] at e
        dsimp only at e
        cases w with
        | nil => cases e
        | cons c w =>
          dsimp only at e
          by_cases c2 : isSg c 40 = true
          · rw [if_pos c2] at e
            cases hcu : cutA 0 [] [] (c :: w) with
            | none => rw [hcu] at e; cases e
            | some y =>
              obtain ⟨ar1, cl, r1⟩ := y
              rw [hcu] at e
              dsimp only at e
              by_cases c3 : arOk ps ar1 = true
              · rw [if_pos c3] at e
                cases e
                exact (cutA_mem (P := neT) (c :: w) 0 [] [] ar cl r' hcu (fun a ha => absurd ha List.not_mem_nil) (fun a ha => absurd ha List.not_mem_nil) hw).2
              · rw [if_neg c3] at e; cases e
          · rw [if_neg c2] at e; cases e
theorem stpT_ne {X : Nat → Nat → List Tk → RT (List Tk)} {t : Tk} {w dn : List Tk} (hw : ∀ t' ∈ t :: w, neT t') (hd : ∀ t ∈ dn, neT t) : (∀ t' ∈ (stpT nm X rp md t w dn).2.2.2.1, neT t') ∧ ∀ t' ∈ (stpT nm X rp md t w dn).2.2.2.2, neT t' := by
  have hw' : ∀ x ∈ w, neT x := fun x hx => hw x (List.mem_cons_of_mem _ hx)
  unfold stpT
  cases hc : callT nm t w with
  | none =>
    dsimp only
    split
    · exact ⟨fun x hx => absurd hx List.not_mem_nil, hd⟩
    · refine ⟨hw', fun x hx => ?_⟩
      rcases List.mem_append.mp hx with q | q
      · exact hd x q
      · rw [List.mem_singleton.mp q]; exact hw t List.mem_cons_self
  | some y =>
    cases y with
    | none => exact ⟨fun x hx => absurd hx List.not_mem_nil, hd⟩
    | some y =>
      obtain ⟨k, q, H, ar, r'⟩ := y
      dsimp only
      refine ⟨?_, hd⟩
      have hr := callT_ne hc hw'
      unfold repS
      split
      · exact fun x hx => absurd hx List.not_mem_nil
      · split
        · exact fun x hx => absurd hx List.not_mem_nil
        · split
          · exact fun x hx => absurd hx List.not_mem_nil
          · split
            · exact fun x hx => absurd hx List.not_mem_nil
            · intro x hx
              rcases List.mem_append.mp hx with q | q
              · exact hide_ne _ x q
              · exact hr x q
theorem expT_ne : ∀ (f d rp md : Nat) (w dn : List Tk), (∀ t ∈ w, neT t) → (∀ t ∈ dn, neT t) → ∀ t ∈ (expT nm f d rp md w dn).2.2.2, neT t := by
  intro f
  induction f with
  | zero => intro d rp md w dn hw hd; exact hd
  | succ f ih =>
    intro d rp md w dn hw hd
    cases w with
    | nil => rw [expT]; exact hd
    | cons t w =>
      rw [expT_s]
      obtain ⟨a, b⟩ := stpT_ne (nm := nm) (X := inX nm f d) (rp := rp) (md := md) hw hd
      split
      · exact ih _ _ _ _ _ a b
      · exact hd
theorem rowT_ne {w : List Tk} (hw : ∀ t ∈ w, neT t) : ∀ t ∈ (rowT nm rp md w).2.2.2, neT t := by
  unfold rowT
  split
  · exact fun x hx => absurd hx List.not_mem_nil
  · exact expT_ne _ _ _ _ _ _ hw (fun x hx => absurd hx List.not_mem_nil)
theorem dfd_mem {P : Tk → Prop} (hd : ∀ b, P (dgT b)) : ∀ (N : Nat) (l : List Tk), l.length ≤ N → (∀ t ∈ l, P t) → ∀ t ∈ dfd nm l, P t := by
  intro N
  induction N with
  | zero =>
    intro l hN hl
    have : l = [] := List.eq_nil_of_length_eq_zero (by omega)
    subst this
    exact fun t ht => absurd ht List.not_mem_nil
  | succ N ih =>
    intro l hN hl
    cases l with
    | nil => exact fun t ht => absurd ht List.not_mem_nil
    | cons u r =>
      rw [List.length_cons] at hN
      have hr : ∀ t ∈ r, P t := fun t ht => hl t (List.mem_cons_of_mem _ ht)
      rw [dfd_u]
      split
      · intro t ht
        rcases List.mem_cons.mp ht with q | q
        · rw [q]; exact hd _
        · exact ih (r.drop 1) (by rw [List.length_drop]; omega) (fun t ht => hr t (List.mem_of_mem_drop ht)) t q
      · split
        · intro t ht
          rcases List.mem_cons.mp ht with q | q
          · rw [q]; exact hd _
          · exact ih (r.drop 3) (by rw [List.length_drop]; omega) (fun t ht => hr t (List.mem_of_mem_drop ht)) t q
        · intro t ht
          rcases List.mem_cons.mp ht with q | q
          · rw [q]; exact hl u List.mem_cons_self
          · exact ih r (by omega) hr t q
theorem dfd_len : ∀ (N : Nat) (l : List Tk), l.length ≤ N → (dfd nm l).length ≤ l.length := by
  intro N
  induction N with
  | zero =>
    intro l hN
    have : l = [] := List.eq_nil_of_length_eq_zero (by omega)
    subst this
    exact Nat.le_refl _
  | succ N ih =>
    intro l hN
    cases l with
    | nil => exact Nat.le_refl _
    | cons u r =>
      rw [List.length_cons] at hN
      rw [dfd_u]
      split
      · have := ih (r.drop 1) (by rw [List.length_drop]; omega)
        rw [List.length_drop] at this
        rw [List.length_cons, List.length_cons]; omega
      · split
        · have := ih (r.drop 3) (by rw [List.length_drop]; omega)
          rw [List.length_drop] at this
          rw [List.length_cons, List.length_cons]; omega
        · have := ih r (by omega)
          rw [List.length_cons, List.length_cons]; omega
/-! the line from a place on -/
def LnF (h : MH) (E : Nat) (L : List LnT) (k : Nat) : Prop := mGi h 107 29 = (L.length : Int) ∧ L.length ≤ 400 ∧ LnR h k (L.drop k) ∧ (∀ l ∈ L, lnV l ∧ l.2.2 + l.2.1.length ≤ E) ∧ E ≤ 400
theorem LnS.lf {k : Nat} (z : LnS h E L) (hk : k ≤ L.length) : LnF h E L k := by
  have q := z.2.2.1
  rw [← List.take_append_drop k L, LnR.app, Nat.zero_add, List.length_take, Nat.min_eq_left hk] at q
  exact ⟨z.1, z.2.1, q.2, z.2.2.2⟩
theorem LnF.tc {p k : Nat} {x : LnT} (z : LnF h E L k) (hp : k ≤ p) (hM : E + 2 ≤ M) (hM2 : M ≤ 1302) (e : L[p]? = some x) : TR h M (mGl h 123 p) (ltk x) false := by
  have q := z.2.2.1.get (j := p - k) (x := x) (by rw [List.getElem?_drop, show k + (p - k) = p by omega]; exact e)
  rw [show k + (p - k) = p by omega] at q
  have w := z.2.2.2.1 x (List.mem_of_getElem? e)
  exact lnTR w.1 (by omega) hM2 q
theorem lf_sign {p k : Nat} {c : Int} (z : LnF h E L k) (hp : k ≤ p) : F_M_isSignAt (p : Int) c h = some (.inl (bI (sgAt L p c)), h) := by
  have hl := z.2.1
  have hE := z.2.2.2.2
  unfold F_M_isSignAt F_M_isSignAt_26 sgAt
  rw [z.1]
  by_cases q : L.length ≤ p
  · rw [if_pos (by omega), List.getElem?_eq_none q]; rfl
  · have e := List.getElem?_eq_getElem (l := L) (i := p) (by omega)
    rw [if_neg (by omega), gd_b (by omega) (by omega), Int.toNat_natCast, e, m_sign2 (z.tc (M := 402) hp (by omega) (by decide) e), bnd_l]
    dsimp only
    cases isSg (ltk L[p]) c <;> rfl
theorem lf_kind {p k : Nat} (z : LnF h E L k) (hp : k ≤ p) : ∃ kk : Int, F_M_kindAt (p : Int) h = some (.inl kk, h) ∧ (kk = 1 ↔ wdAt L p = true) := by
  have hl := z.2.1
  have hE := z.2.2.2.2
  unfold F_M_kindAt wdAt
  rw [z.1]
  by_cases q : L.length ≤ p
  · rw [if_pos (by omega), List.getElem?_eq_none q]
    exact ⟨0, rfl, by decide⟩
  · have e := List.getElem?_eq_getElem (l := L) (i := p) (by omega)
    rw [if_neg (by omega), gd_b (by omega) (by omega), Int.toNat_natCast, e, mk_e (z.tc (M := 402) hp (by omega) (by decide) e), bnd_l]
    refine ⟨_, rfl, ?_⟩
    have hk := (z.2.2.2.1 _ (List.mem_of_getElem? e)).1.k.2
    have hk' : rk (ltk L[p]).1 = L[p].1 := hk
    rw [hk', decide_eq_true_eq]
    omega
theorem LnF.fw {k k' : Nat} (z : LnF h E L k) (hk : k ≤ k') (f : FW noP (fun b i => b = 123 ∧ i < k') h h') : LnF h' E L k' := by
  refine ⟨(f.2.2.1 107 29 id).trans z.1, z.2.1, ?_, z.2.2.2⟩
  have q := z.2.2.1
  by_cases c : k' ≤ L.length
  · rw [show L.drop k = (L.drop k).take (k' - k) ++ L.drop k' by rw [show L.drop k' = (L.drop k).drop (k' - k) by rw [List.drop_drop, show k + (k' - k) = k' by omega], List.take_append_drop], LnR.app, List.length_take, List.length_drop, Nat.min_eq_left (by omega), show k + (k' - k) = k' by omega] at q
    exact LnR.cg (fun j _ => f.2.2.1 121 j id) (fun j hj _ => f.2.2.2 123 j (by omega)) q.2
  · rw [List.drop_eq_nil_of_le (by omega)]; trivial
theorem by15 : byW 28259022560191844 (strL 15) := by
  refine ⟨by decide, by decide, fun j hj => ?_⟩
  have : j = 0 ∨ j = 1 ∨ j = 2 ∨ j = 3 ∨ j = 4 ∨ j = 5 ∨ j = 6 ∨ j = 7 := by omega
  rcases this with rfl | rfl | rfl | rfl | rfl | rfl | rfl | rfl <;> decide +kernel
end Cd
