section Def2
variable {h h' : MH} {m : Nat → Nat} {ds : List Nat} {wd tx : Nat → List Int} {fs : List Fm1}
theorem DefC.inj {i j : Nat} (z : DefC h m ds wd tx fs) (hi : i < 16) (hj : j < 16) (e : mGi h 10 i = mGi h 10 j) : i = j := z.2.1.2 i j hi hj e
theorem DefC.nd (z : DefC h m ds wd tx fs) (hd : ds.length ≤ 10) {i j k : Nat} (e1 : ds[i]? = some k) (e2 : ds[j]? = some k) : i = j := by
  have l1 := (List.getElem?_eq_some_iff.mp e1).1
  have l2 := (List.getElem?_eq_some_iff.mp e2).1
  have q1 := z.2.2.1.get e1
  have q2 := z.2.2.1.get e2
  rw [Nat.zero_add] at q1 q2
  exact z.inj (by omega) (by omega) (q1.trans q2.symm)
theorem de_remove (z : DefC h m ds wd tx fs) (hd : ds.length ≤ 10) {o : Option Nat} (ho : ∀ k, o = some k → k ∈ ds) : ∃ h', F_De_remove (latV m o) h = some (.inl (), h') ∧ Fr [6, 10] h h' ∧ DefC h' m (ds.filter fun k => decide (some k ≠ o)) wd tx fs := by
  have zz := z
  obtain ⟨z1, z2, z3, z4, z5, z6, z7⟩ := z
  cases o with
  | none =>
    obtain ⟨h1, e1, f1, a1, a2⟩ := rm_1 (s := -1) (n := ds.length) (ord := fun i => mGi h 10 i) hd ds.length FU 0 h (by unfold FU; omega) (by omega) (fun i h1 _ => by have := (z2.1 i (by omega)).1; show mGi h 10 i ≠ -1; omega) z1 (fun _ => rfl)
    refine ⟨h1, e1, f1, ?_⟩
    have e : (ds.filter fun k => decide (some k ≠ none)) = ds := List.filter_eq_self.mpr (fun a _ => by simp)
    rw [e]
    refine ⟨a1, permO.cg (fun i _ => a2 i) z2, OrC.cg (fun j _ _ => a2 j) z3, MaC.cg (fun j _ => f1.2.2 81 (by decide) j) z4, fun s hs => (f1.2.2 9 (by decide) s).trans (z5 s hs), fun k hk => ?_, z7⟩
    obtain ⟨y1, y2, y3⟩ := z6 k hk
    exact ⟨y1, y2.fr f1 (by simp; omega) (by simp; omega), y3.fr f1 (by simp; omega) (by simp; omega)⟩
  | some k0 =>
    obtain ⟨l1, l2, hl⟩ := List.append_of_mem (ho k0 rfl)
    have hj : ds[l1.length]? = some k0 := by rw [hl]; simp
    have hjl : l1.length < ds.length := (List.getElem?_eq_some_iff.mp hj).1
    have ej := z3.get hj
    rw [Nat.zero_add] at ej
    have n1 : k0 ∉ l1 := fun q => by
      obtain ⟨i, hi⟩ := List.mem_iff_getElem?.mp q
      have l := (List.getElem?_eq_some_iff.mp hi).1
      have := zz.nd hd (i := i) (j := l1.length) (by rw [hl, List.getElem?_append_left l]; exact hi) hj
      omega
    have n2 : k0 ∉ l2 := fun q => by
      obtain ⟨i, hi⟩ := List.mem_iff_getElem?.mp q
      have := zz.nd hd (i := l1.length + 1 + i) (j := l1.length) (by rw [hl, List.getElem?_append_right (by omega), show l1.length + 1 + i - l1.length = i + 1 by omega]; exact hi) hj
      omega
    have ef : (ds.filter fun k => decide (some k ≠ some k0)) = l1 ++ l2 := by
      rw [hl, List.filter_append, List.filter_cons_of_neg (by simp), List.filter_eq_self.mpr (fun a ha => by simp; intro q; exact n1 (q ▸ ha)), List.filter_eq_self.mpr (fun a ha => by simp; intro q; exact n2 (q ▸ ha))]
    have hlen : ds.length = l1.length + (l2.length + 1) := by rw [hl, List.length_append, List.length_cons]
    obtain ⟨h1, e1, f1, a1, a2⟩ := rm_0 (s := (m k0 : Int)) (n := ds.length) (j := l1.length) (ord := fun i => mGi h 10 i) hd hjl (fun i hi hn q => hn (zz.inj (by omega) (by omega) (q.trans ej.symm))) ej ds.length FU 0 h (by unfold FU; omega) (by omega) (by omega) z1 (fun _ => rfl)
    have a3 : ∀ i, i < 16 → mGi h1 10 i = mGi h 10 (if i + 1 = ds.length then l1.length else if l1.length ≤ i ∧ i + 1 < ds.length then i + 1 else i) := fun i hi => by
      rw [a2]
      by_cases c1 : i + 1 = ds.length
      · rw [if_pos c1, if_pos c1, ej]
      · rw [if_neg c1, if_neg c1]
        by_cases c2 : l1.length ≤ i ∧ i + 1 < ds.length
        · rw [if_pos c2, if_pos c2]
        · rw [if_neg c2, if_neg c2]
    have lx : ∀ k, lv (l1 ++ l2) fs k → lv ds fs k := fun k hk => by
      rcases hk with hk | hk
      · refine .inl ?_
        rw [hl]
        simp only [List.mem_append, List.mem_cons] at hk ⊢
        rcases hk with hk | hk
        · exact .inl hk
        · exact .inr (.inr hk)
      · exact .inr hk
    refine ⟨h1, e1, f1, ?_⟩
    rw [ef]
    refine ⟨?_, ⟨fun i hi => ?_, fun i i' hi hi' q => ?_⟩, ?_, MaC.cg (fun j _ => f1.2.2 81 (by decide) j) z4, fun s hs => (f1.2.2 9 (by decide) s).trans (z5 s hs), fun k hk => ?_, fun k k' hk hk' => z7 k k' (lx k hk) (lx k' hk')⟩
    · rw [a1, List.length_append]
      omega
    · rw [a3 i hi]
      exact z2.1 _ (by split <;> (try split) <;> omega)
    · rw [a3 i hi, a3 i' hi'] at q
      have r := zz.inj (by split <;> (try split) <;> omega) (by split <;> (try split) <;> omega) q
      revert r
      (repeat' split) <;> omega
    · rw [OrC.app]
      refine ⟨OrC.mk fun i k q => ?_, OrC.mk fun i k q => ?_⟩
      · have l := (List.getElem?_eq_some_iff.mp q).1
        rw [Nat.zero_add, a3 i (by omega), if_neg (by omega), if_neg (by omega)]
        have r := z3.get (j := i) (k := k) (by rw [hl, List.getElem?_append_left l]; exact q)
        rw [Nat.zero_add] at r
        exact r
      · have l := (List.getElem?_eq_some_iff.mp q).1
        rw [Nat.zero_add, a3 _ (by omega), if_neg (by omega), if_pos (by omega)]
        have r := z3.get (j := l1.length + 1 + i) (k := k) (by rw [hl, List.getElem?_append_right (by omega), show l1.length + 1 + i - l1.length = i + 1 by omega]; exact q)
        rw [Nat.zero_add] at r
        rw [show l1.length + i + 1 = l1.length + 1 + i by omega]
        exact r
    · obtain ⟨y1, y2, y3⟩ := z6 k (lx k hk)
      exact ⟨y1, y2.fr f1 (by simp; omega) (by simp; omega), y3.fr f1 (by simp; omega) (by simp; omega)⟩
/-! a pigeonhole -/
theorem pigeon : ∀ (n : Nat) (g : Nat → Nat) (U : List Nat), (∀ i j, i < n → j < n → g i = g j → i = j) → (∀ i, i < n → g i ∈ U) → n ≤ U.length
  | 0, _, _, _, _ => Nat.zero_le _
  | n + 1, g, U, hi, hm => by
    have q := pigeon n g (U.erase (g n)) (fun i j h1 h2 => hi i j (by omega) (by omega)) (fun i h1 => (List.mem_erase_of_ne (fun e => by have := hi i n (by omega) (by omega) e; omega)).mpr (hm i (by omega)))
    have r := List.length_erase_of_mem (hm n (by omega))
    have s := List.length_pos_of_mem (hm n (by omega))
    omega
theorem awN_nn : ∀ (fs : List Fm1) (s : Nat), 0 ≤ awN m s fs
  | [], _ => Int.le_refl 0
  | (w, pv, cu, op) :: r, s => by
    unfold awN
    have := awN_nn r s
    split <;> omega
theorem awN_pos : ∀ (fs : List Fm1) (s : Nat), awN m s fs ≠ 0 → s ∈ (idsF fs).map m
  | [], _, e => absurd rfl e
  | (w, pv, cu, op) :: r, s, e => by
    unfold awN at e
    unfold idsF
    by_cases c : 0 ≤ w ∧ m w.toNat = s
    · rw [if_pos c.1, List.map_cons, c.2]
      exact List.mem_cons_self
    · rw [if_neg c, Int.zero_add] at e
      have q := awN_pos r s e
      split
      · exact List.mem_cons_of_mem _ q
      · exact q
theorem awN_in : ∀ (fs : List Fm1) {k : Nat}, k ∈ idsF fs → 0 < awN m (m k) fs
  | [], k, e => by cases e
  | (w, pv, cu, op) :: r, k, e => by
    unfold awN
    unfold idsF at e
    have nn := awN_nn (m := m) r (m k)
    by_cases c : 0 ≤ w
    · rw [if_pos c] at e
      rcases List.mem_cons.mp e with q | q
      · rw [if_pos ⟨c, by rw [q]⟩]; omega
      · have := awN_in r q
        split <;> omega
    · rw [if_neg c] at e
      have := awN_in r e
      split <;> omega
theorem idsF_len : ∀ (fs : List Fm1), (idsF fs).length ≤ fs.length
  | [] => Nat.le_refl _
  | (w, pv, cu, op) :: r => by
    unfold idsF
    have := idsF_len r
    split <;> simp <;> omega
/-! make -/
theorem mk_l {c cn p n : Nat} {t : List Int} (hcn : cn < 100000) (hp : p + t.length ≤ cn) (s : Seg h c p t) (hc : 75 ≤ c) (e4 : mGi h 6 4 = (n : Int)) (hn : n < 10) (z : permO h) : ∀ (q f v : Nat), q < f → v + q = 16 → n ≤ v → (∃ k, v ≤ k ∧ k < 16 ∧ mGi h 9 (mGi h 10 k).toNat = 0) →
    ∃ k s' h', itr (fun self (q : Nat × Nat × Int × Int × Int × MH) => F_De_make_6_b (fun v1 v1n v2 v3 v4 h => self (v1, v1n, v2, v3, v4, h)) q.1 q.2.1 q.2.2.1 q.2.2.2.1 q.2.2.2.2.1 q.2.2.2.2.2) f (c, cn, (p : Int), (t.length : Int), (v : Int), h) = some (.inl ((s' : Nat) : Int), h') ∧ n ≤ k ∧ k < 16 ∧ mGi h 10 k = (s' : Int) ∧ mGi h 9 s' = 0 ∧ Fr [6, 10, 11 + 4 * s', 11 + 4 * s' + 1] h h' ∧ mGi h' 6 4 = (n : Int) + 1 ∧ (∀ i, mGi h' 10 i = if i = n then (s' : Int) else if i = k then mGi h 10 n else mGi h 10 i) ∧ Let h' (11 + 4 * s') 8 t := by
  intro q
  induction q with
  | zero => intro f v hf hv hnv hk; obtain ⟨k, h1, h2, -⟩ := hk; omega
  | succ q ih =>
    intro f v hf hv hnv hk
    obtain ⟨f, rfl⟩ : ∃ g, f = g + 1 := ⟨f - 1, by omega⟩
    have b := z.1 v (by omega)
    by_cases c0 : mGi h 9 (mGi h 10 v).toNat = 0
    · obtain ⟨s', hs'⟩ : ∃ s' : Nat, mGi h 10 v = (s' : Int) := ⟨(mGi h 10 v).toNat, by omega⟩
      rw [hs', Int.toNat_natCast] at c0
      have g1 : ∀ x, mGi (mPi h 10 v x) 6 4 = (n : Int) := fun x => by rw [gi_pi, if_neg (by omega), e4]
      have g2 : ∀ x y, mGi (mPi (mPi h 10 v x) 10 n y) 6 4 = (n : Int) := fun x y => by rw [gi_pi, if_neg (by omega), g1]
      have fA : Fr [6, 10, 11 + 4 * s', 11 + 4 * s' + 1] h (mPi (mPi (mPi h 10 v (mGi h 10 n)) 10 n (s' : Int)) 6 4 ((n : Int) + 1)) := Fr.pi (Fr.pi (Fr.pi Fr.rf (by simp)) (by simp)) (by simp)
      obtain ⟨h1, e1, f1, a1⟩ := let_empty (a := 11 + 4 * s') (n := 8) (h := mPi (mPi (mPi h 10 v (mGi h 10 n)) 10 n (s' : Int)) 6 4 ((n : Int) + 1))
      have f1' : Fr [6, 10, 11 + 4 * s', 11 + 4 * s' + 1] h h1 := fA.tr (f1.sub (by simp))
      have s1 : Seg h1 c p t := s.fr f1' (by simp; omega)
      obtain ⟨h2, e2, f2, a2⟩ := let_all a1 (by decide) hcn s1 hp
      have f2' : Fr [6, 10, 11 + 4 * s', 11 + 4 * s' + 1] h h2 := f1'.tr (f2.sub (by simp))
      refine ⟨v, s', h2, ?_, hnv, by omega, hs', c0, f2', ?_, fun i => ?_, a2⟩
      · rw [itr_s]
        dsimp only
        rw [F_De_make_6_b, if_neg (by omega), e4, if_neg (by omega), gd_b (by omega) (by omega), Int.toNat_natCast, hs', gd_b (by omega) (by omega), Int.toNat_natCast, if_pos c0, gd_b (by omega) (by omega)]
        simp only [sto_e, Int.toNat_natCast]
        rw [g1, gd_b (by omega) (by omega), Int.toNat_natCast, g2, gd_rg (by omega) (by omega), e1, bnd_l, e2, bnd_l]
      · rw [f2.2.2 6 (by simp; omega), f1.2.2 6 (by simp; omega), gi_pi, if_pos ⟨rfl, rfl⟩]
      · rw [f2.2.2 10 (by simp; omega), f1.2.2 10 (by simp; omega), gi_pi, if_neg (by omega), gi_pi]
        by_cases d1 : i = n
        · rw [if_pos ⟨rfl, d1⟩, if_pos d1]
        · rw [if_neg (by omega), if_neg d1, gi_pi]
          by_cases d2 : i = v
          · rw [if_pos ⟨rfl, d2⟩, if_pos d2]
          · rw [if_neg (by omega), if_neg d2]
    · obtain ⟨k, h1, h2, h3⟩ := hk
      have hkv : k ≠ v := fun q => c0 (q ▸ h3)
      obtain ⟨k', s', h', e, r⟩ := ih f (v + 1) (by omega) (by omega) (by omega) ⟨k, by omega, h2, h3⟩
      refine ⟨k', s', h', ?_, r⟩
      rw [itr_s]
      dsimp only
      rw [F_De_make_6_b, if_neg (by omega), e4, if_neg (by omega), gd_b (by omega) (by omega), Int.toNat_natCast, gd_b (by omega) (by omega), if_neg c0, gd_rg (by omega) (by omega)]
      rw [show ((v + 1 : Nat) : Int) = (v : Int) + 1 by omega] at e
      exact e
theorem de_make0 {c cn p : Nat} {t : List Int} (z : DefC h m ds wd tx fs) (hd : ds.length ≤ 10) (hd2 : 10 ≤ ds.length) : F_De_make c cn (p : Int) (t.length : Int) h = some (.inl (-1), h) := by
  unfold F_De_make F_De_make_6
  rw [show FU = 99999999 + 1 from rfl, itr_s]
  dsimp only
  rw [F_De_make_6_b, z.1, if_neg (by omega), if_pos (by omega)]
theorem de_make {c cn p : Nat} {t : List Int} (z : DefC h m ds wd tx fs) (hd : ds.length < 10) (hf : fs.length ≤ 6) (hcn : cn < 100000) (hp : p + t.length ≤ cn) (s : Seg h c p t) (hc : 75 ≤ c) :
    ∃ k s' h', F_De_make c cn (p : Int) (t.length : Int) h = some (.inl ((s' : Nat) : Int), h') ∧ ds.length ≤ k ∧ k < 16 ∧ mGi h 10 k = (s' : Int) ∧ mGi h 9 s' = 0 ∧ Fr [6, 10, 11 + 4 * s', 11 + 4 * s' + 1] h h' ∧ mGi h' 6 4 = (ds.length : Int) + 1 ∧ (∀ i, mGi h' 10 i = if i = ds.length then (s' : Int) else if i = k then mGi h 10 ds.length else mGi h 10 i) ∧ Let h' (11 + 4 * s') 8 t := by
  have hex : ∃ k, ds.length ≤ k ∧ k < 16 ∧ mGi h 9 (mGi h 10 k).toNat = 0 := by
    refine Classical.byContradiction fun hno => ?_
    have q := pigeon (16 - ds.length) (fun i => (mGi h 10 (ds.length + i)).toNat) ((idsF fs).map m) (fun i j h1 h2 e => ?_) (fun i h1 => ?_)
    · rw [List.length_map] at q
      have := idsF_len fs
      omega
    · have b1 := z.2.1.1 (ds.length + i) (by omega)
      have b2 := z.2.1.1 (ds.length + j) (by omega)
      have := z.inj (i := ds.length + i) (j := ds.length + j) (by omega) (by omega) (by have e' : (mGi h 10 (ds.length + i)).toNat = (mGi h 10 (ds.length + j)).toNat := e; omega)
      omega
    · have b1 := z.2.1.1 (ds.length + i) (by omega)
      refine awN_pos fs _ fun e => hno ⟨ds.length + i, by omega, by omega, ?_⟩
      rw [z.2.2.2.2.1 _ (by omega)]
      exact e
  unfold F_De_make
  rw [z.1]
  exact mk_l hcn hp s hc z.1 hd z.2.1 (16 - ds.length) FU ds.length (by unfold FU; omega) (by omega) (Nat.le_refl _) hex
end Def2
