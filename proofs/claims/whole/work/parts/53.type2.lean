section Typ2
/-- only ints of these cells differ -/
def Fr (S : List Nat) (h h' : MH) : Prop := h'.1 = h.1 ∧ h'.2.2 = h.2.2 ∧ ∀ b, b ∉ S → ∀ i, mGi h' b i = mGi h b i
theorem Fr.rf {S : List Nat} {h : MH} : Fr S h h := ⟨rfl, rfl, fun _ _ _ => rfl⟩
theorem Fr.tr {S : List Nat} {h h' h'' : MH} (a : Fr S h h') (b : Fr S h' h'') : Fr S h h'' := ⟨b.1.trans a.1, b.2.1.trans a.2.1, fun c hc i => (b.2.2 c hc i).trans (a.2.2 c hc i)⟩
theorem Fr.pi {S : List Nat} {h h' : MH} {a i : Nat} {x : Int} (f : Fr S h h') (ha : a ∈ S) : Fr S h (mPi h' a i x) := by
  refine ⟨f.1, f.2.1, fun b hb j => ?_⟩
  rw [gi_pi, if_neg (fun q : b = a ∧ j = i => hb (q.1 ▸ ha))]
  exact f.2.2 b hb j
theorem Fr.sub {S S' : List Nat} {h h' : MH} (f : Fr S h h') (hs : ∀ b, b ∈ S → b ∈ S') : Fr S' h h' := ⟨f.1, f.2.1, fun b hb i => f.2.2 b (fun q => hb (hs b q)) i⟩
theorem Fr.gl {S : List Nat} {h h' : MH} (f : Fr S h h') (b i : Nat) : mGl h' b i = mGl h b i := by
  show h'.2.2.1 b i = h.2.2.1 b i
  rw [f.2.1]
theorem Fr.gr {S : List Nat} {h h' : MH} (f : Fr S h h') (b i : Nat) : mGr h' b i = mGr h b i := by
  show h'.2.2.2.1 b i = h.2.2.2.1 b i
  rw [f.2.1]
theorem Fr.sc {S : List Nat} {h h' : MH} (f : Fr S h h') : mSc h' = mSc h := by
  show h'.2.2.2.2 = h.2.2.2.2
  rw [f.2.1]
theorem add_e {a an : Nat} {x : Int} {h : MH} (h0 : 0 ≤ mGi h a 1) (h1 : mGi h a 1 < an) (h2 : an < 100000) : F_Le_add a an x h = some (.inl (), mPi (mPi h (a + 1) (mGi h a 1).toNat x) a 1 (mGi h a 1 + 1)) := by
  unfold F_Le_add
  have e1 : mGi (mPi h (a + 1) (mGi h a 1).toNat x) a 1 = mGi h a 1 := by rw [gi_pi, if_neg (by omega)]
  rw [if_neg (by omega), gd_b h0 h1]
  simp only [sto_e]
  rw [e1, gd_rg (by omega) (by omega)]
theorem room_e {a an : Nat} {n : Int} {h : MH} (h0 : 0 ≤ mGi h a 1) (h1 : mGi h a 1 ≤ an) (h2 : an < 100000) : F_Le_hasRoomFor a an n h = some (.inl (if mGi h a 1 + n ≤ an then 1 else 0), h) := by
  unfold F_Le_hasRoomFor
  rw [gd_rg (by omega) (by omega)]
  by_cases c : mGi h a 1 + n ≤ an
  · rw [if_pos c, if_neg (by omega)]
  · rw [if_neg c, if_pos (by omega)]
def tyI (v : Int64) (L : Int) (k : Int) (h h' : MH) : Prop := mGi h' 1 1 = L + k ∧ (∀ i : Nat, (i : Int) < L → mGi h' 2 i = mGi h 2 i) ∧ (∀ j : Nat, (j : Int) < k → mGi h' 2 (L.toNat + j) = bi v j) ∧ Fr [1, 2] h h'
theorem ty_l {v : Int64} {n L : Int} {h : MH} (hn : n ≤ 8) (hL : 0 ≤ L) (hr : L + n ≤ 400) : ∀ (m : Nat) (f : Nat) (k : Int) (h' : MH), m < f → n - k ≤ m → 0 ≤ k → k ≤ n → tyI v L k h h' →
    ∃ h'', itr (fun self (q : Int64 × Int × Int × MH) => F_T_type_49_b (fun v1 v3 v4 h => self (v1, v3, v4, h)) q.1 q.2.1 q.2.2.1 q.2.2.2) f (v, n, k, h') = some (.inl (L + n), h'') ∧ tyI v L n h h'' := by
  intro m
  induction m with
  | zero =>
    intro f k h' hf hk h0 hkn hI
    obtain ⟨f, rfl⟩ : ∃ g, f = g + 1 := ⟨f - 1, by omega⟩
    have e : k = n := by omega
    subst e
    rw [itr_s]
    dsimp only
    unfold F_T_type_49_b
    rw [if_pos (by omega), hI.1]
    exact ⟨h', rfl, hI⟩
  | succ m ih =>
    intro f k h' hf hk h0 hkn hI
    obtain ⟨f, rfl⟩ : ∃ g, f = g + 1 := ⟨f - 1, by omega⟩
    rw [itr_s]
    dsimp only
    unfold F_T_type_49_b
    by_cases hc : n ≤ k
    · have e : k = n := by omega
      subst e
      rw [if_pos (by omega), hI.1]
      exact ⟨h', rfl, hI⟩
    · obtain ⟨i1, i2, i3, i4⟩ := hI
      have hb := bi_r v k
      rw [if_neg hc, byteOf_e h0 (by omega), bnd_l, gd_b hb.1 (by omega), add_e (by omega) (by rw [i1]; show L + k < 400; omega) (by decide), bnd_l, gd_rg (by omega) (by omega)]
      refine ih f (k + 1) _ (by omega) (by omega) (by omega) (by omega) ⟨?_, fun i hi => ?_, fun j hj => ?_, Fr.pi (Fr.pi i4 (by decide)) (by decide)⟩
      · rw [gi_pi, if_pos ⟨rfl, rfl⟩, i1]; omega
      · rw [gi_pi, if_neg (by omega), gi_pi, if_neg (by omega)]
        exact i2 i hi
      · rw [gi_pi, if_neg (by omega), gi_pi]
        by_cases hjk : (j : Int) < k
        · rw [if_neg (by omega)]
          exact i3 j hjk
        · rw [if_pos ⟨rfl, by omega⟩]
          have : (j : Int) = k := by omega
          rw [this]
theorem T_type_e {v : Int64} {n : Int} {h : MH} (h0 : 0 ≤ mGi h 1 1) (h1 : mGi h 1 1 ≤ 400) :
    (¬ (1 ≤ n ∧ n ≤ 8 ∧ lgs v n 0) → F_T_type v n h = thr 14 h) ∧ (1 ≤ n ∧ n ≤ 8 ∧ lgs v n 0 → 400 < mGi h 1 1 + n → F_T_type v n h = thr 15 h) ∧
    (1 ≤ n ∧ n ≤ 8 ∧ lgs v n 0 → mGi h 1 1 + n ≤ 400 → ∃ h', F_T_type v n h = some (.inl (mGi h 1 1 + n), h') ∧ tyI v (mGi h 1 1) n h h') := by
  have ha : n ≤ 8 → (lgs v n 0 → F_T_areCharacters v n h = some (.inl 1, h)) ∧ (¬ lgs v n 0 → F_T_areCharacters v n h = some (.inl 0, h)) := fun hn => areC_l hn 8 FU 0 (by decide) (by omega) (by omega)
  unfold F_T_type
  simp only [F_T_type_19]
  refine ⟨fun hg => ?_, fun hg hr => ?_, fun hg hr => ?_⟩
  · by_cases c1 : n < 1
    · rw [if_pos c1]
    · rw [if_neg c1]
      by_cases c2 : 8 < n
      · rw [if_pos c2]
      · rw [if_neg c2, (ha (by omega)).2 (fun q => hg ⟨by omega, by omega, q⟩), bnd_l, if_pos rfl]
  · obtain ⟨g1, g2, g3⟩ := hg
    rw [if_neg (by omega), if_neg (by omega), (ha g2).1 g3, bnd_l, if_neg (by decide), room_e h0 h1 (by decide), if_neg (by show ¬ mGi h 1 1 + n ≤ 400; omega), bnd_l, if_pos rfl]
  · obtain ⟨g1, g2, g3⟩ := hg
    rw [if_neg (by omega), if_neg (by omega), (ha g2).1 g3, bnd_l, if_neg (by decide), room_e h0 h1 (by decide), if_pos (by show mGi h 1 1 + n ≤ 400; omega), bnd_l, if_neg (by decide)]
    exact ty_l g2 h0 hr 8 FU 0 h (by decide) (by omega) (by omega) (by omega) ⟨by omega, fun _ _ => rfl, fun j hj => by omega, Fr.rf⟩
/-! the reference's -/
theorem i64_eq {x : Int64} {n : Int64} : x = n ↔ x.toInt = n.toInt := Int64.toInt_inj.symm
theorem isC_1 {v : Int64} {k : Int} {h : MH} (hl : lgl (bi v k)) : F_M_isCharacter (bt v k) h = some (.inl 1, h) := by
  unfold F_M_isCharacter
  simp only [F_M_isCharacter_24, F_M_isCharacter_28, lg_eq, lg_lt, lg_gt, i64_eq, Int64.lt_iff_toInt_lt]
  rw [show (10 : Int64).toInt = 10 from rfl, show (32 : Int64).toInt = 32 from rfl, show (126 : Int64).toInt = 126 from rfl, show (bt v k).toInt = bi v k from rfl]
  unfold lgl at hl
  by_cases c : bi v k = 10
  · rw [if_pos c]
  · rw [if_neg c, if_neg (by omega), if_neg (by omega)]
theorem isC_0 {v : Int64} {k : Int} {h : MH} (hl : ¬ lgl (bi v k)) : F_M_isCharacter (bt v k) h = some (.inl 0, h) := by
  unfold F_M_isCharacter
  simp only [F_M_isCharacter_24, F_M_isCharacter_28, lg_eq, lg_lt, lg_gt, i64_eq, Int64.lt_iff_toInt_lt]
  rw [show (10 : Int64).toInt = 10 from rfl, show (32 : Int64).toInt = 32 from rfl, show (126 : Int64).toInt = 126 from rfl, show (bt v k).toInt = bi v k from rfl]
  unfold lgl at hl
  rw [if_neg (by omega)]
  by_cases c : bi v k < 32
  · rw [if_pos c]
  · rw [if_neg c, if_pos (by omega)]
theorem Mty_g {v : Int64} {n : Int} {h : MH} (hn : n ≤ 8) : ∀ (m : Nat) (f : Nat) (k : Int), m < f → n - k ≤ m → 0 ≤ k →
    (lgs v n k → itr (fun self (q : Int64 × Int × Int × Int × MH) => F_M_type_21_b (fun v1 v3 v4 v5 h => self (v1, v3, v4, v5, h)) q.1 q.2.1 q.2.2.1 q.2.2.2.1 q.2.2.2.2) f (v, n, 1, k, h) = F_M_type_54 v n 1 h) ∧
    (¬ lgs v n k → itr (fun self (q : Int64 × Int × Int × Int × MH) => F_M_type_21_b (fun v1 v3 v4 v5 h => self (v1, v3, v4, v5, h)) q.1 q.2.1 q.2.2.1 q.2.2.2.1 q.2.2.2.2) f (v, n, 1, k, h) = F_M_type_54 v n 0 h) := by
  intro m
  induction m with
  | zero =>
    intro f k hf hk h0
    obtain ⟨f, rfl⟩ : ∃ g, f = g + 1 := ⟨f - 1, by omega⟩
    have z : lgs v n k := fun j h1 h2 => by omega
    refine ⟨fun _ => ?_, fun q => absurd z q⟩
    rw [itr_s]
    dsimp only
    unfold F_M_type_21_b
    rw [if_pos (by omega)]
  | succ m ih =>
    intro f k hf hk h0
    obtain ⟨f, rfl⟩ : ∃ g, f = g + 1 := ⟨f - 1, by omega⟩
    rw [itr_s]
    dsimp only
    rw [F_M_type_21_b]
    by_cases hc : n ≤ k
    · have z : lgs v n k := fun j h1 h2 => by omega
      refine ⟨fun _ => ?_, fun q => absurd z q⟩
      rw [if_pos hc]
    · have hs := lgs_s (v := v) (n := n) (k := k) (by omega)
      have hi := ih f (k + 1) (by omega) (by omega) (by omega)
      rw [if_neg hc, if_neg (by decide), gd_rg (by omega) (by omega), show ((v >>> ((Int32.ofInt ((8 : Int) * k)).toInt64 &&& 63)) &&& (255 : Int64)) = bt v k from rfl]
      by_cases c : lgl (bi v k)
      · rw [isC_1 c, bnd_l, gd_rg (by omega) (by omega)]
        exact ⟨fun q => hi.1 (hs.mp q).2, fun q => hi.2 (fun w => q (hs.mpr ⟨c, w⟩))⟩
      · rw [isC_0 c, bnd_l, gd_rg (by omega) (by omega)]
        refine ⟨fun q => absurd (hs.mp q).1 c, fun _ => ?_⟩
        obtain ⟨f, rfl⟩ : ∃ g, f = g + 1 := ⟨f - 1, by omega⟩
        rw [itr_s]
        dsimp only
        rw [F_M_type_21_b]
        rw [if_pos rfl]
        split <;> rfl
/-- what a call of the reference's type left -/
def MtI (L r : Int) (h h' : MH) : Prop := mGi h' 107 0 = r ∧ mGi h' 107 2 = L ∧ (∀ i, i ≠ 0 → i ≠ 2 → mGi h' 107 i = mGi h 107 i) ∧ Fr [107, 108] h h'
theorem Mty_n {v : Int64} {n r : Int} {h : MH} (hr : r ≠ 0) (hi : -2147483648 ≤ mGi h 107 2 ∧ mGi h 107 2 < 2147483648) : ∃ h', F_M_type_81 v n r h = some (.inl 0, h') ∧ MtI (mGi h 107 2) r h h' ∧ ∀ i, mGi h' 108 i = mGi h 108 i := by
  have e0 : mGi (mPi h 107 0 r) 107 0 = r := by rw [gi_pi, if_pos ⟨rfl, rfl⟩]
  have e2 : mGi (mPi h 107 0 r) 107 2 = mGi h 107 2 := by rw [gi_pi, if_neg (by decide)]
  have h131 : ∃ h', F_M_type_131 n (mPi h 107 0 r) = some (.inl 0, h') ∧ MtI (mGi h 107 2) r h h' ∧ ∀ i, mGi h' 108 i = mGi h 108 i := by
    unfold F_M_type_131 F_M_type_148
    have e3 : mGi (mPi (mPi h 107 0 r) 107 2 (mGi h 107 2 + 0)) 107 0 = r := by rw [gi_pi, if_neg (by decide), e0]
    rw [e0, if_neg hr, e2, gd_rg (by omega) (by omega)]
    simp only [sto_e]
    rw [e3, if_neg hr]
    refine ⟨_, rfl, ⟨e3, ?_, fun i h1 h2 => ?_, Fr.pi (Fr.pi Fr.rf (by decide)) (by decide)⟩, fun i => ?_⟩
    · rw [gi_pi, if_pos ⟨rfl, rfl⟩]; omega
    · rw [gi_pi, if_neg (by omega), gi_pi, if_neg (by omega)]
    · rw [gi_pi, if_neg (by omega), gi_pi, if_neg (by omega)]
  unfold F_M_type_81
  simp only [sto_e]
  unfold F_M_type_87
  rw [show FU = 99999999 + 1 from rfl, itr_s]
  dsimp only
  unfold F_M_type_87_b
  rw [e0, if_neg hr]
  split <;> exact h131
def MwI (v : Int64) (L k : Int) (h h' : MH) : Prop := mGi h' 107 0 = 0 ∧ mGi h' 107 2 = L ∧ (∀ i, i ≠ 0 → i ≠ 2 → mGi h' 107 i = mGi h 107 i) ∧ (∀ i : Nat, (i : Int) < L → mGi h' 108 i = mGi h 108 i) ∧ (∀ j : Nat, (j : Int) < k → mGi h' 108 (L.toNat + j) = bi v j) ∧ Fr [107, 108] h h'
theorem Mty_w {v : Int64} {n L : Int} {h : MH} (hn : n ≤ 8) (hL : 0 ≤ L) (hr : L + n ≤ 400) : ∀ (m : Nat) (f : Nat) (k : Int) (h' : MH), m < f → n - k ≤ m → 0 ≤ k → k ≤ n → MwI v L k h h' →
    ∃ h'', itr (fun self (q : Int64 × Int × Int × MH) => F_M_type_87_b (fun v1 v3 v5 h => self (v1, v3, v5, h)) q.1 q.2.1 q.2.2.1 q.2.2.2) f (v, n, k, h') = F_M_type_131 n h'' ∧ MwI v L n h h'' := by
  intro m
  induction m with
  | zero =>
    intro f k h' hf hk h0 hkn hI
    obtain ⟨f, rfl⟩ : ∃ g, f = g + 1 := ⟨f - 1, by omega⟩
    have e : k = n := by omega
    subst e
    rw [itr_s]
    dsimp only
    unfold F_M_type_87_b
    rw [if_pos (by omega)]
    exact ⟨h', rfl, hI⟩
  | succ m ih =>
    intro f k h' hf hk h0 hkn hI
    obtain ⟨f, rfl⟩ : ∃ g, f = g + 1 := ⟨f - 1, by omega⟩
    rw [itr_s]
    dsimp only
    unfold F_M_type_87_b
    by_cases hc : n ≤ k
    · have e : k = n := by omega
      subst e
      rw [if_pos (by omega)]
      exact ⟨h', rfl, hI⟩
    · obtain ⟨i0, i1, i2, i3, i4, i5⟩ := hI
      have hb := bi_r v k
      rw [if_neg hc, if_pos i0, i1, gd_rg (by omega) (by omega), gd_rg (by omega) (by omega), show (((v >>> ((Int32.ofInt ((8 : Int) * k)).toInt64 &&& 63)) &&& (255 : Int64)).toInt32.toInt) = bi v k from and255_i _, gd_b hb.1 (by omega), gd_b (by omega) (by omega)]
      simp only [sto_e]
      rw [gd_rg (by omega) (by omega)]
      refine ih f (k + 1) _ (by omega) (by omega) (by omega) (by omega) ⟨?_, ?_, fun i h1 h2 => ?_, fun i hi => ?_, fun j hj => ?_, Fr.pi i5 (by decide)⟩
      · rw [gi_pi, if_neg (by omega)]; exact i0
      · rw [gi_pi, if_neg (by omega)]; exact i1
      · rw [gi_pi, if_neg (by omega)]; exact i2 i h1 h2
      · rw [gi_pi, if_neg (by omega)]; exact i3 i hi
      · rw [gi_pi]
        by_cases hjk : (j : Int) < k
        · rw [if_neg (by omega)]
          exact i4 j hjk
        · rw [if_pos ⟨rfl, by omega⟩]
          have : (j : Int) = k := by omega
          rw [this]
theorem M_type_e {v : Int64} {n : Int} {h : MH} (h0 : 0 ≤ mGi h 107 2) (h1 : mGi h 107 2 ≤ 400) :
    (¬ (1 ≤ n ∧ n ≤ 8 ∧ lgs v n 0) → ∃ h', F_M_type v n h = some (.inl 0, h') ∧ MtI (mGi h 107 2) 1 h h' ∧ ∀ i, mGi h' 108 i = mGi h 108 i) ∧ (1 ≤ n ∧ n ≤ 8 ∧ lgs v n 0 → 400 < mGi h 107 2 + n → ∃ h', F_M_type v n h = some (.inl 0, h') ∧ MtI (mGi h 107 2) 2 h h' ∧ ∀ i, mGi h' 108 i = mGi h 108 i) ∧
    (1 ≤ n ∧ n ≤ 8 ∧ lgs v n 0 → mGi h 107 2 + n ≤ 400 → ∃ h', F_M_type v n h = some (.inl (mGi h 107 2 + n), h') ∧ MtI (mGi h 107 2 + n) 0 h h' ∧ (∀ i : Nat, (i : Int) < mGi h 107 2 → mGi h' 108 i = mGi h 108 i) ∧ (∀ j : Nat, (j : Int) < n → mGi h' 108 ((mGi h 107 2).toNat + j) = bi v j)) := by
  have h54 : F_M_type_54 v n 0 h = F_M_type_81 v n 1 h := by unfold F_M_type_54; rw [if_pos rfl]
  have h21 : F_M_type_21 v n 0 0 h = F_M_type_54 v n 0 h := by
    unfold F_M_type_21
    rw [show FU = 99999999 + 1 from rfl, itr_s]
    dsimp only
    unfold F_M_type_21_b
    rw [if_pos rfl]
    split <;> rfl
  have hg : n ≤ 8 → (lgs v n 0 → F_M_type_21 v n 1 0 h = F_M_type_54 v n 1 h) ∧ (¬ lgs v n 0 → F_M_type_21 v n 1 0 h = F_M_type_54 v n 0 h) := fun hn => Mty_g hn 8 FU 0 (by decide) (by omega) (by omega)
  unfold F_M_type
  simp only [F_M_type_15, F_M_type_16]
  refine ⟨fun hgd => ?_, fun hgd hr => ?_, fun hgd hr => ?_⟩
  · have e : (if n < (1 : Int) then F_M_type_21 v n 0 0 h else if (8 : Int) < n then F_M_type_21 v n 0 0 h else F_M_type_21 v n 1 0 h) = F_M_type_81 v n 1 h := by
      by_cases c1 : n < 1
      · rw [if_pos c1, h21, h54]
      · rw [if_neg c1]
        by_cases c2 : 8 < n
        · rw [if_pos c2, h21, h54]
        · rw [if_neg c2, (hg (by omega)).2 (fun q => hgd ⟨by omega, by omega, q⟩), h54]
    rw [e]
    exact Mty_n (by decide) ⟨by omega, by omega⟩
  · obtain ⟨g1, g2, g3⟩ := hgd
    rw [if_neg (by omega), if_neg (by omega), (hg g2).1 g3]
    unfold F_M_type_54
    rw [if_neg (by decide), gd_rg (by omega) (by omega), if_neg (by omega)]
    exact Mty_n (by decide) ⟨by omega, by omega⟩
  · obtain ⟨g1, g2, g3⟩ := hgd
    rw [if_neg (by omega), if_neg (by omega), (hg g2).1 g3]
    unfold F_M_type_54
    rw [if_neg (by decide), gd_rg (by omega) (by omega), if_pos (by omega)]
    unfold F_M_type_81
    simp only [sto_e]
    have e2 : mGi (mPi h 107 0 0) 107 2 = mGi h 107 2 := by rw [gi_pi, if_neg (by decide)]
    obtain ⟨h'', z1, z2⟩ := Mty_w (v := v) (n := n) (L := mGi h 107 2) (h := h) g2 h0 hr 8 FU 0 (mPi h 107 0 0) (by decide) (by omega) (by omega) (by omega) ⟨by rw [gi_pi, if_pos ⟨rfl, rfl⟩], e2, fun i h1 h2 => by rw [gi_pi, if_neg (by omega)], fun i hi => by rw [gi_pi, if_neg (by omega)], fun j hj => by omega, Fr.pi Fr.rf (by decide)⟩
    unfold F_M_type_87
    rw [z1]
    obtain ⟨i0, i1, i2, i3, i4, i5⟩ := z2
    unfold F_M_type_131 F_M_type_148
    have e3 : mGi (mPi h'' 107 2 (mGi h 107 2 + n)) 107 0 = 0 := by rw [gi_pi, if_neg (by decide), i0]
    have e4 : mGi (mPi h'' 107 2 (mGi h 107 2 + n)) 107 2 = mGi h 107 2 + n := by rw [gi_pi, if_pos ⟨rfl, rfl⟩]
    rw [if_pos i0, i1, gd_rg (by omega) (by omega)]
    simp only [sto_e]
    rw [if_pos e3, e4]
    refine ⟨_, rfl, ⟨e3, e4, fun i h1 h2 => ?_, Fr.pi i5 (by decide)⟩, fun i hi => ?_, fun j hj => ?_⟩
    · rw [gi_pi, if_neg (by omega)]; exact i2 i h1 h2
    · rw [gi_pi, if_neg (by omega)]; exact i3 i hi
    · rw [gi_pi, if_neg (by omega)]; exact i4 j hj
end Typ2
