section MXA
variable {d : Nat} {k : MK} {pc : Nat} {ls st : List MV} {h : MH} {Q : MO → MH → Prop}
theorem fv_pi {t a i : Nat} {x : Int} (hk : mFk t i = 0) : mFv (mPi h a i x) t a i = mI x := by
  unfold mFv; rw [hk]; show mI (if a = a ∧ i = i then x else _) = mI x; rw [if_pos ⟨rfl, rfl⟩]
theorem fv_pi' {t a i j : Nat} {x : Int} (hj : j ≠ i) : mFv (mPi h a i x) t a j = mFv h t a j := by
  have e : mGi (mPi h a i x) a j = mGi h a j := if_neg (fun z => hj z.2)
  unfold mFv; rw [e]; rfl
theorem fv_pr {t a i : Nat} {x : Option Nat} (hk : mFk t i = 2) : mFv (mPr h a i x) t a i = mO x := by
  unfold mFv; rw [hk]; show mO (if a = a ∧ i = i then x else _) = mO x; rw [if_pos ⟨rfl, rfl⟩]
theorem fv_pr' {t a i j : Nat} {x : Option Nat} (hj : j ≠ i) : mFv (mPr h a i x) t a j = mFv h t a j := by
  have e : mGr (mPr h a i x) a j = mGr h a j := if_neg (fun z => hj z.2)
  unfold mFv; rw [e]; rfl
def clN (t n : Nat) : Prop := ∃ r : vw_C, mcl[t]? = some r ∧ r.2.2 ≤ n
theorem x_putI {a t n i idx : Nat} {x : Int} (hd : decode (kB k) pc = .ok (.putfield idx, 3)) (hf : pOK (kY k).cls idx t i .int false) (ha : h.1[a]? = some (t, n)) (ht : t < 100) (hN : clN t n) (hk : mFk t i = 0) (hx : MX d k (pc + 3) ls st (mPi h a i x) Q) : MX d k pc ls (mI x :: mR a :: st) h Q :=
  x_put (h' := mPi h a i x) hd hf ha ht hN (fun _ => rfl) (fun _ => rfl) ⟨rfl, rfl⟩ (fun _ b hb t n => mE_pi b hb t n) (fv_pi hk) (fun _ hj => fv_pi' hj) hx
theorem x_putZ {a t n i idx : Nat} {x : Int} (hd : decode (kB k) pc = .ok (.putfield idx, 3)) (hf : pOK (kY k).cls idx t i .boolean false) (ha : h.1[a]? = some (t, n)) (ht : t < 100) (hN : clN t n) (hk : mFk t i = 0) (h01 : x = 0 ∨ x = 1) (hx : MX d k (pc + 3) ls st (mPi h a i x) Q) : MX d k pc ls (mI x :: mR a :: st) h Q :=
  x_put (h' := mPi h a i x) hd hf ha ht hN (fun _ => by rcases h01 with rfl | rfl <;> rfl) (fun _ => by rcases h01 with rfl | rfl <;> rfl) ⟨rfl, rfl⟩ (fun _ b hb t n => mE_pi b hb t n) (fv_pi hk) (fun _ hj => fv_pi' hj) hx
/-- a type of references -/
def refTy (ty : FieldType) : Prop := (∀ a, narrow ty (.ref a) = .ref a) ∧ (∀ a, fits ty (.ref a) = true)
theorem x_putFR {a t n i idx b : Nat} {ty : FieldType} (hd : decode (kB k) pc = .ok (.putfield idx, 3)) (hf : pOK (kY k).cls idx t i ty true) (hini : (kY k).name = "<init>") (hr : refTy ty) (ha : h.1[a]? = some (t, n)) (ht : t < 100) (hN : clN t n) (hk : mFk t i = 2) (hx : MX d k (pc + 3) ls st (mPr h a i (some b)) Q) : MX d k pc ls (mR b :: mR a :: st) h Q :=
  x_putF (h' := mPr h a i (some b)) hd hf hini ha ht hN (fun _ => hr.1 _) (fun _ => hr.2 _) ⟨rfl, rfl⟩ (fun _ b hb t n => mE_pr b hb t n) (fv_pr hk) (fun _ hj => fv_pr' hj) hx
theorem x_putR {a t n i idx b : Nat} {ty : FieldType} (hd : decode (kB k) pc = .ok (.putfield idx, 3)) (hf : pOK (kY k).cls idx t i ty false) (hr : refTy ty) (ha : h.1[a]? = some (t, n)) (ht : t < 100) (hN : clN t n) (hk : mFk t i = 2) (hx : MX d k (pc + 3) ls st (mPr h a i (some b)) Q) : MX d k pc ls (mR b :: mR a :: st) h Q :=
  x_put (h' := mPr h a i (some b)) hd hf ha ht hN (fun _ => hr.1 _) (fun _ => hr.2 _) ⟨rfl, rfl⟩ (fun _ b hb t n => mE_pr b hb t n) (fv_pr hk) (fun _ hj => fv_pr' hj) hx
/-! arrays -/
theorem x_iald {a n : Nat} {j : Int} (hd : decode (kB k) pc = .ok (.iaload, 1)) (ha : h.1[a]? = some (100, n)) (hj0 : 0 ≤ j) (hj1 : j < n) (hn : n < 2147483648) (hx : MX d k (pc + 1) ls (mI (mGi h a j.toNat) :: st) h Q) : MX d k pc ls (mI j :: mR a :: st) h Q := by
  intro l G p e R s m args below meth c H locs cells slots LS c0 s0 hl C P L h1 h2 h3 h4
  refine va_iald C.1 C.2.1 C.2.2.2.2.2.2.2.1 (P.at ha) 0 0 (cA := gA G 100) (n := n) (f := fun j => Int32.ofInt (mGi h a j)) (by rw [mE_int (by decide) (by decide) (by decide)]; rfl) rfl (ofI_in hj0 hj1 hn) hd ?_
  show W _ _ _ _ _ _ _ _ _ _ _ _ _ _ _ (F0 m (pc + 1) LS (.int (Int32.ofInt (mGi h a (Int32.ofInt j).toNatClampNeg)) :: st.map (rz G)))
  rw [ofI_clamp hj0 (by omega)]
  exact hx l G p e R s m args below meth c H locs cells slots LS c0 s0 hl C P L h1 h2 h3 h4
theorem x_cald {a n : Nat} {j : Int} (hd : decode (kB k) pc = .ok (.caload, 1)) (ha : h.1[a]? = some (101, n)) (hj0 : 0 ≤ j) (hj1 : j < n) (hn : n < 2147483648) (hx : MX d k (pc + 1) ls (mI (mGi h a j.toNat) :: st) h Q) : MX d k pc ls (mI j :: mR a :: st) h Q := by
  intro l G p e R s m args below meth c H locs cells slots LS c0 s0 hl C P L h1 h2 h3 h4
  refine va_cald C.1 C.2.1 C.2.2.2.2.2.2.2.1 (P.at ha) 0 1 (cA := gA G 101) (n := n) (f := fun j => Int32.ofInt (mGi h a j)) (by rw [mE_int (by decide) (by decide) (by decide)]; rfl) rfl (ofI_in hj0 hj1 hn) hd ?_
  show W _ _ _ _ _ _ _ _ _ _ _ _ _ _ _ (F0 m (pc + 1) LS (.int (Int32.ofInt (mGi h a (Int32.ofInt j).toNatClampNeg)) :: st.map (rz G)))
  rw [ofI_clamp hj0 (by omega)]
  exact hx l G p e R s m args below meth c H locs cells slots LS c0 s0 hl C P L h1 h2 h3 h4
theorem x_zald {a n : Nat} {j : Int} (hd : decode (kB k) pc = .ok (.baload, 1)) (ha : h.1[a]? = some (102, n)) (hj0 : 0 ≤ j) (hj1 : j < n) (hn : n < 2147483648) (hx : MX d k (pc + 1) ls (mI (mGi h a j.toNat) :: st) h Q) : MX d k pc ls (mI j :: mR a :: st) h Q := by
  intro l G p e R s m args below meth c H locs cells slots LS c0 s0 hl C P L h1 h2 h3 h4
  refine va_zald C.1 C.2.1 C.2.2.2.2.2.2.2.1 (P.at ha) 0 2 (cA := gA G 102) (n := n) (f := fun j => Int32.ofInt (mGi h a j)) (by rw [mE_int (by decide) (by decide) (by decide)]; rfl) rfl (ofI_in hj0 hj1 hn) hd ?_
  show W _ _ _ _ _ _ _ _ _ _ _ _ _ _ _ (F0 m (pc + 1) LS (.int (Int32.ofInt (mGi h a (Int32.ofInt j).toNatClampNeg)) :: st.map (rz G)))
  rw [ofI_clamp hj0 (by omega)]
  exact hx l G p e R s m args below meth c H locs cells slots LS c0 s0 hl C P L h1 h2 h3 h4
theorem x_lald {a n : Nat} {j : Int} (hd : decode (kB k) pc = .ok (.laload, 1)) (ha : h.1[a]? = some (103, n)) (hj0 : 0 ≤ j) (hj1 : j < n) (hn : n < 2147483648) (hx : MX d k (pc + 1) ls (mL (mGl h a j.toNat) :: st) h Q) : MX d k pc ls (mI j :: mR a :: st) h Q := by
  intro l G p e R s m args below meth c H locs cells slots LS c0 s0 hl C P L h1 h2 h3 h4
  refine va_lald C.1 C.2.1 C.2.2.2.2.2.2.2.1 (P.at ha) 0 3 (cA := gA G 103) (n := n) (f := fun j => mGl h a j) rfl rfl (ofI_in hj0 hj1 hn) hd ?_
  show W _ _ _ _ _ _ _ _ _ _ _ _ _ _ _ (F0 m (pc + 1) LS (.long (mGl h a (Int32.ofInt j).toNatClampNeg) :: st.map (rz G)))
  rw [ofI_clamp hj0 (by omega)]
  exact hx l G p e R s m args below meth c H locs cells slots LS c0 s0 hl C P L h1 h2 h3 h4
theorem x_aald {a t n b : Nat} {j : Int} (hd : decode (kB k) pc = .ok (.aaload, 1)) (ha : h.1[a]? = some (t, n)) (ht : t = 110 ∨ t = 111) (hj0 : 0 ≤ j) (hj1 : j < n) (hn : n < 2147483648) (hb : mGr h a j.toNat = some b) (hx : MX d k (pc + 1) ls (mR b :: st) h Q) : MX d k pc ls (mI j :: mR a :: st) h Q := by
  intro l G p e R s m args below meth c H locs cells slots LS c0 s0 hl C P L h1 h2 h3 h4
  have hk : ∃ (t0 : Nat) (C : String), (mtys G)[t0]? = some (gA G t, FieldType.object C) := by
    rcases ht with rfl | rfl
    · exact ⟨4, mC110, rfl⟩
    · exact ⟨5, mC111, rfl⟩
  obtain ⟨t0, C0, ht0⟩ := hk
  refine va_aldq C.1 C.2.1 C.2.2.2.2.2.2.2.1 (P.at ha) 0 t0 (cA := gA G t) (n := n) (f := fun j => (mGr h a j).map fun b => gB G + b) (by rw [mE_ref (by omega) (by omega) (by omega)]; rfl) ht0 (ofI_in hj0 hj1 hn) hd ?_
  show W _ _ _ _ _ _ _ _ _ _ _ _ _ _ _ (F0 m (pc + 1) LS (va_rf ((mGr h a (Int32.ofInt j).toNatClampNeg).map fun b => gB G + b) :: st.map (rz G)))
  rw [ofI_clamp hj0 (by omega), hb]
  exact hx l G p e R s m args below meth c H locs cells slots LS c0 s0 hl C P L h1 h2 h3 h4
theorem x_aaldN {a t n : Nat} {j : Int} (hd : decode (kB k) pc = .ok (.aaload, 1)) (ha : h.1[a]? = some (t, n)) (ht : t = 110 ∨ t = 111) (hj0 : 0 ≤ j) (hj1 : j < n) (hn : n < 2147483648) (hb : mGr h a j.toNat = none) (hx : MX d k (pc + 1) ls (mN :: st) h Q) : MX d k pc ls (mI j :: mR a :: st) h Q := by
  intro l G p e R s m args below meth c H locs cells slots LS c0 s0 hl C P L h1 h2 h3 h4
  have hk : ∃ (t0 : Nat) (C : String), (mtys G)[t0]? = some (gA G t, FieldType.object C) := by
    rcases ht with rfl | rfl
    · exact ⟨4, mC110, rfl⟩
    · exact ⟨5, mC111, rfl⟩
  obtain ⟨t0, C0, ht0⟩ := hk
  refine va_aldq C.1 C.2.1 C.2.2.2.2.2.2.2.1 (P.at ha) 0 t0 (cA := gA G t) (n := n) (f := fun j => (mGr h a j).map fun b => gB G + b) (by rw [mE_ref (by omega) (by omega) (by omega)]; rfl) ht0 (ofI_in hj0 hj1 hn) hd ?_
  show W _ _ _ _ _ _ _ _ _ _ _ _ _ _ _ (F0 m (pc + 1) LS (va_rf ((mGr h a (Int32.ofInt j).toNatClampNeg).map fun b => gB G + b) :: st.map (rz G)))
  rw [ofI_clamp hj0 (by omega), hb]
  exact hx l G p e R s m args below meth c H locs cells slots LS c0 s0 hl C P L h1 h2 h3 h4
theorem x_alen {a t n : Nat} (hd : decode (kB k) pc = .ok (.arraylength, 1)) (ha : h.1[a]? = some (t, n)) (ht : t ∈ mTags) (hx : MX d k (pc + 1) ls (mI (n : Int) :: st) h Q) : MX d k pc ls (mR a :: st) h Q := by
  intro l G p e R s m args below meth c H locs cells slots LS c0 s0 hl C P L h1 h2 h3 h4
  obtain ⟨t0, ht0⟩ := List.getElem?_of_mem ht
  have htt : (mtys G)[t0]? = some (gA G t, mAty t) := by unfold mtys; rw [List.getElem?_map, ht0]; rfl
  have he : ∃ x : vp_A, mE G h a t n = .inl (gA G t, x) ∧ x.1 = n := by
    unfold mE
    have h100 : ¬ t < 100 := by simp [mTags] at ht; omega
    rw [if_neg h100]
    split
    · exact ⟨_, rfl, rfl⟩
    · split
      · exact ⟨_, rfl, rfl⟩
      · exact ⟨_, rfl, rfl⟩
  obtain ⟨x, hx1, hx2⟩ := he
  exact va_alen C.1 C.2.1 C.2.2.2.2.2.2.2.1 (P.at ha) 0 t0 (x := x) (by rw [hx1]; rfl) htt (v := Int32.ofInt (n : Int)) (by rw [hx2]; exact (ofI_nat n).symm) hd (hx l G p e R s m args below meth c H locs cells slots LS c0 s0 hl C P L h1 h2 h3 h4)
theorem gi_self {a i : Nat} {x : Int} : mGi (mPi h a i x) a i = x := if_pos ⟨rfl, rfl⟩
theorem gi_slot {a i j : Nat} {x : Int} (hj : j ≠ i) : mGi (mPi h a i x) a j = mGi h a j := if_neg (fun z => hj z.2)
theorem gl_self {a i : Nat} {x : Int64} : mGl (mPl h a i x) a i = x := if_pos ⟨rfl, rfl⟩
theorem gl_slot {a i j : Nat} {x : Int64} (hj : j ≠ i) : mGl (mPl h a i x) a j = mGl h a j := if_neg (fun z => hj z.2)
theorem gr_self {a i : Nat} {x : Option Nat} : mGr (mPr h a i x) a i = x := if_pos ⟨rfl, rfl⟩
theorem gr_slot {a i j : Nat} {x : Option Nat} (hj : j ≠ i) : mGr (mPr h a i x) a j = mGr h a j := if_neg (fun z => hj z.2)
theorem at_ist {G : MG} {a t n i : Nat} {x : Int} {H' : Heap} (q1 : ¬ t < 100) (q2 : ¬ t = 103) (q3 : t < 110) (e : H'[gB G + a]? = some ((arrV (gA G t) n (fun j => .int (Int32.ofInt (mGi h a j)))).setSlot i (.int (Int32.ofInt x)))) : va_at (gD G) mcl (gB G + a, mE G (mPi h a i x) a t n) H' := by
  rw [mE_int q1 q2 q3]
  show H'[gB G + a]? = some (vp_cell _ _)
  rw [e, vp_cell_i, arrV_store]
  congr 2
  funext q
  unfold updV
  by_cases hq : q = i
  · subst hq
    rw [if_pos rfl, gi_self]
  · rw [if_neg hq, gi_slot hq]
theorem at_icell {G : MG} {s : State} {H : Heap} {locs : List Loc} (P : mP G s H locs h) {a t n : Nat} (ha : h.1[a]? = some (t, n)) (q1 : ¬ t < 100) (q2 : ¬ t = 103) (q3 : t < 110) : H[gB G + a]? = some (arrV (gA G t) n (fun j => .int (Int32.ofInt (mGi h a j)))) := by
  have z := P.2.1 a t n ha
  rw [mE_int q1 q2 q3] at z
  exact z
theorem arr_in {cA : ClassId} {n : Nat} {f : Nat → Value} {j : Int} (h0 : 0 ≤ j) (h1 : j < n) (hn : n < 2147483648) : ¬ (Int32.ofInt j < 0 ∨ (arrV cA n f).slots.size ≤ (Int32.ofInt j).toNatClampNeg) := by
  rw [arrV_size]; exact ofI_in h0 h1 hn
theorem nar_char {x : Int} (h0 : 0 ≤ x) (h1 : x < 65536) : narrow .char (.int (Int32.ofInt x)) = .int (Int32.ofInt x) := by
  obtain ⟨q, rfl⟩ : ∃ q : Nat, x = q := ⟨x.toNat, by omega⟩
  rw [ofI_nat]
  exact (pk_charN (q := q) (by omega)).1
theorem x_iast {a n : Nat} {j x : Int} (hd : decode (kB k) pc = .ok (.iastore, 1)) (ha : h.1[a]? = some (100, n)) (hj0 : 0 ≤ j) (hj1 : j < n) (hn : n < 2147483648) (hx : MX d k (pc + 1) ls st (mPi h a j.toNat x) Q) : MX d k pc ls (mI x :: mI j :: mR a :: st) h Q := by
  intro l G p e R s m args below meth c H locs cells slots LS c0 s0 hl C P L h1 h2 h3 h4
  refine W.iast C.1 C.2.1 (at_icell P ha (by decide) (by decide) (by decide)) ((C.2.2.2.2.2.2.2.1.2 0 _ rfl).1 n _) (fun q => by cases q) (arr_in hj0 hj1 hn) rfl rfl hd fun H' e1 e2 e3 => ?_
  · rw [ofI_clamp hj0 (by omega)] at e1
    exact hx l G p e R s m args below meth c H' _ cells slots LS c0 s0 hl C (P.put ha ⟨rfl, rfl⟩ (fun b hb t n => mE_pi b hb t n) (at_ist (by decide) (by decide) (by decide) e1) e2 e3) L h1 h2 h3 h4
theorem x_cast {a n : Nat} {j x : Int} (hd : decode (kB k) pc = .ok (.castore, 1)) (ha : h.1[a]? = some (101, n)) (hj0 : 0 ≤ j) (hj1 : j < n) (hn : n < 2147483648) (hx0 : 0 ≤ x) (hx1 : x < 65536) (hx : MX d k (pc + 1) ls st (mPi h a j.toNat x) Q) : MX d k pc ls (mI x :: mI j :: mR a :: st) h Q := by
  intro l G p e R s m args below meth c H locs cells slots LS c0 s0 hl C P L h1 h2 h3 h4
  refine W.cast C.1 C.2.1 (at_icell P ha (by decide) (by decide) (by decide)) ((C.2.2.2.2.2.2.2.1.2 1 _ rfl).1 n _) (fun q => by cases q) (arr_in hj0 hj1 hn) rfl rfl hd fun H' e1 e2 e3 => ?_
  · rw [nar_char hx0 hx1] at e1; rw [ofI_clamp hj0 (by omega)] at e1
    exact hx l G p e R s m args below meth c H' _ cells slots LS c0 s0 hl C (P.put ha ⟨rfl, rfl⟩ (fun b hb t n => mE_pi b hb t n) (at_ist (by decide) (by decide) (by decide) e1) e2 e3) L h1 h2 h3 h4
theorem x_zast {a n : Nat} {j x : Int} (hd : decode (kB k) pc = .ok (.bastore, 1)) (ha : h.1[a]? = some (102, n)) (hj0 : 0 ≤ j) (hj1 : j < n) (hn : n < 2147483648) (h01 : x = 0 ∨ x = 1) (hx : MX d k (pc + 1) ls st (mPi h a j.toNat x) Q) : MX d k pc ls (mI x :: mI j :: mR a :: st) h Q := by
  intro l G p e R s m args below meth c H locs cells slots LS c0 s0 hl C P L h1 h2 h3 h4
  refine W.zast C.1 C.2.1 (at_icell P ha (by decide) (by decide) (by decide)) ((C.2.2.2.2.2.2.2.1.2 2 _ rfl).1 n _) (fun q => by cases q) (arr_in hj0 hj1 hn) rfl rfl hd fun H' e1 e2 e3 => ?_
  · have hz : narrow .boolean (.int (Int32.ofInt x)) = .int (Int32.ofInt x) := by rcases h01 with rfl | rfl <;> rfl
    rw [hz] at e1; rw [ofI_clamp hj0 (by omega)] at e1
    exact hx l G p e R s m args below meth c H' _ cells slots LS c0 s0 hl C (P.put ha ⟨rfl, rfl⟩ (fun b hb t n => mE_pi b hb t n) (at_ist (by decide) (by decide) (by decide) e1) e2 e3) L h1 h2 h3 h4
theorem x_last {a n : Nat} {j : Int} {x : Int64} (hd : decode (kB k) pc = .ok (.lastore, 1)) (ha : h.1[a]? = some (103, n)) (hj0 : 0 ≤ j) (hj1 : j < n) (hn : n < 2147483648) (hx : MX d k (pc + 1) ls st (mPl h a j.toNat x) Q) : MX d k pc ls (mL x :: mI j :: mR a :: st) h Q := by
  intro l G p e R s m args below meth c H locs cells slots LS c0 s0 hl C P L h1 h2 h3 h4
  have hcell : H[gB G + a]? = some (arrV (gA G 103) n (fun j => .long (mGl h a j))) := P.2.1 a 103 n ha
  refine W.last C.1 C.2.1 hcell ((C.2.2.2.2.2.2.2.1.2 3 _ rfl).1 n _) (fun q => by cases q) (arr_in hj0 hj1 hn) rfl rfl hd fun H' e1 e2 e3 => ?_
  rw [ofI_clamp hj0 (by omega)] at e1
  refine hx l G p e R s m args below meth c H' _ cells slots LS c0 s0 hl C (P.put ha ⟨rfl, rfl⟩ (fun b hb t n => mE_pl b hb t n) ?_ e2 e3) L h1 h2 h3 h4
  show H'[gB G + a]? = some (vp_cell _ _)
  rw [e1]
  show _ = some (arrV _ _ fun q => Value.long (mGl (mPl h a j.toNat x) a q))
  rw [arrV_store]
  congr 2
  funext q
  unfold updV
  by_cases hq : q = j.toNat
  · subst hq
    rw [if_pos rfl, gl_self]
  · rw [if_neg hq, gl_slot hq]
end MXA
