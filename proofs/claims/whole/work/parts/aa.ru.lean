/-! the reference's substitution, whole -/
section Ru
variable {h h' h'' : MH} {M T d D C c p : Nat} {v : Int64} {t : Tk} {m : Bool} {nm : Nm} {rp md rp' md' : Nat} {k g pa pa' : Nat} {R dn l : List Tk} {ar : List (List Tk)} {cm cm' : List (Tk × Bool)} {q : NmD} {X : Nat → Nat → List Tk → RT (List Tk)}
def HXr (nm : Nm) (T d : Nat) (X : Nat → Nat → List Tk → RT (List Tk)) : Prop := (7 ≤ d → ∀ rp md a, X rp md a = (1, rp, md, [])) ∧ (d < 7 → ∀ (h1 : MH) (rp md : Nat) (a : List Tk), SR nm T (d + 1) h1 rp md a [] → (∀ t ∈ a, tkW t) →
  ((X rp md a).1 = 0 → ∃ n h', RE n h1 h' ∧ RX2 (d + 1) (T + 2 + md) h1 h' ∧ md ≤ (X rp md a).2.2.1 ∧ SR nm T (d + 1) h' (X rp md a).2.1 (X rp md a).2.2.1 [] (X rp md a).2.2.2 ∧ (∀ t ∈ (X rp md a).2.2.2, tkW t) ∧ n + 2000 * rp ≤ (X rp md a).2.2.2.length + 2000 * (X rp md a).2.1) ∧
  ((X rp md a).1 ≠ 0 → ∃ n h', RF n h1 h' ∧ XB (d + 1) (T + 2 + md) h1 h' (X rp md a).1 (X rp md a).2.1 ∧ n + 2000 * rp ≤ 102 + 2000 * (X rp md a).2.1))
def OS (nm : Nm) (T d k g B : Nat) (R dn : List Tk) (ar : List (List Tk)) (n0 rp md : Nat) (h : MH) (S : RT (List (Tk × Bool))) : Prop :=
  (S.1 = 0 → ∃ n h', RE n h h' ∧ RX2 d (T + 2 + md) h h' ∧ md ≤ S.2.2.1 ∧ UR nm T d h' S.2.1 S.2.2.1 k g B R dn ar S.2.2.2 ∧ (∀ x ∈ S.2.2.2, tkW x.1) ∧ n + 2000 * rp ≤ n0 + 2000 * S.2.1) ∧
  (S.1 ≠ 0 → ∃ n h', RF n h h' ∧ XB d (T + 2 + md) h h' S.1 S.2.1 ∧ n + 2000 * rp ≤ n0 + 2 + 2000 * S.2.1)
theorem OS.step {B n0 n1 n2 : Nat} {S : RT (List (Tk × Bool))} (z : OS nm T d k g B R dn ar n0 rp' md' h' S) (e : RE n1 h h') (f : RX2 d (T + 2 + md) h h') (hm : md ≤ md') (hn : n1 + 2000 * rp ≤ n2 + 2000 * rp') : OS nm T d k g B R dn ar (n0 + n2) rp md h S := by
  refine ⟨fun q => ?_, fun q => ?_⟩
  · obtain ⟨n, h2, a1, a2, a3, a4, a5, a6⟩ := z.1 q
    exact ⟨n1 + n, h2, e.tr a1, f.tr a2 (by omega), by omega, a4, a5, by omega⟩
  · obtain ⟨n, h2, a1, a2, a3⟩ := z.2 q
    exact ⟨n1 + n, h2, e.fl a1, XB.tr f a2 (by omega), by omega⟩
theorem OS.bad {B n0 n : Nat} {S : RT (List (Tk × Bool))} (hS : S.1 ≠ 0) (e : RF n h h') (x : XB d (T + 2 + md) h h' S.1 S.2.1) (hn : n + 2000 * rp ≤ n0 + 2 + 2000 * S.2.1) : OS nm T d k g B R dn ar n0 rp md h S := ⟨fun q => absurd q hS, fun _ => ⟨n, h', e, x, hn⟩⟩
theorem OS.le {B n0 n1 : Nat} {S : RT (List (Tk × Bool))} (z : OS nm T d k g B R dn ar n0 rp md h S) (hn : n0 ≤ n1) : OS nm T d k g B R dn ar n1 rp md h S := by
  refine ⟨fun q => ?_, fun q => ?_⟩
  · obtain ⟨n, h2, a1, a2, a3, a4, a5, a6⟩ := z.1 q
    exact ⟨n, h2, a1, a2, a3, a4, a5, by omega⟩
  · obtain ⟨n, h2, a1, a2, a3⟩ := z.2 q
    exact ⟨n, h2, a1, a2, by omega⟩
theorem sub_84 (hd : d < 8) (hk : k < 8) (hp : p < 12) : F_M_substituteNext_84 (d : Int) ((7 - k : Nat) : Int) (p : Int) v h = F_M_substituteNext_128 (d : Int) ((7 - k : Nat) : Int) (p : Int) v 0 (mGi h 129 (12 * (7 - k) + p)) (d : Int) (mGi h 145 d) 1 h := by
  unfold F_M_substituteNext_84 F_M_substituteNext_85 F_M_substituteNext_107
  rw [gd_rg (by omega) (by omega), if_pos rfl, gd_rg (by omega) (by omega), gd_b (by omega) (by omega), gd_b (by omega) (by omega), if_pos rfl, Int.toNat_natCast, show ((12 : Int) * ((7 - k : Nat) : Int) + (p : Int)).toNat = 12 * (7 - k) + p by omega]
theorem sub_85 (hd : d < 8) (hk : k < 8) (hp : p + 1 < 12) : F_M_substituteNext_85 (d : Int) ((7 - k : Nat) : Int) (p : Int) v 1 h = F_M_substituteNext_128 (d : Int) ((7 - k : Nat) : Int) (p : Int) v 1 (mGi h 129 (12 * (7 - k) + (p + 1))) (d : Int) (mGi h 145 d) 2 h := by
  unfold F_M_substituteNext_85 F_M_substituteNext_107
  rw [gd_rg (by omega) (by omega), if_neg (by decide), gd_rg (by omega) (by omega), gd_rg (by omega) (by omega), gd_b (by omega) (by omega), gd_b (by omega) (by omega), if_neg (by decide), Int.toNat_natCast, show ((12 : Int) * ((7 - k : Nat) : Int) + ((p : Int) + 1)).toNat = 12 * (7 - k) + (p + 1) by omega]
theorem ra_1 {a e b : Int} : F_M_substituteNext_286 (d : Int) 1 a e b h = some (.inl (), h) := by
  show raL (99999999 + 1) (d : Int) 1 e b a h = _
  rw [raL_s, F_M_substituteNext_290_b]
  split
  · rfl
  · split
    · rfl
    · rw [if_neg (by decide)]
theorem ra_0 {a e : Int} : F_M_substituteNext_286 (d : Int) 0 a e 0 h = some (.inl (), h) := by
  show raL (99999999 + 1) (d : Int) 0 e 0 a h = _
  rw [raL_s, F_M_substituteNext_290_b]
  split
  · rfl
  · rw [if_pos rfl]
theorem r_str {a e b : Int} {h' : MH} (x : F_M_appendString (d : Int) a e h = some (.inl (), h')) : F_M_substituteNext_226 (d : Int) 1 a e b h = some (.inl (), h') := by
  unfold F_M_substituteNext_226
  rw [if_neg (by decide), x, bnd_l, ra_1]
theorem r_row {a n : Nat} {h' : MH} (ha : a + n ≤ 1000) (hd : d < 8) (x : F_M_beginRow ((d + 1 : Nat) : Int) (a : Int) (n : Int) h = some (.inl (), h')) : F_M_substituteNext_226 (d : Int) 0 (a : Int) ((a + n : Nat) : Int) (bI false) h = some (.inl (), h') := by
  unfold F_M_substituteNext_226
  rw [if_pos rfl, if_pos (show bI false = 0 from rfl), gd_rg (by omega) (by omega), gd_rg (by omega) (by omega), show (d : Int) + 1 = ((d + 1 : Nat) : Int) by omega, show ((a + n : Nat) : Int) - (a : Int) = (n : Int) by omega, x, bnd_l]
  exact ra_0
theorem r_raw {a : Nat} (hd : d < 8) (z : UR nm T d h rp md k g pa R dn ar cm) (ha : a + l.length ≤ 800) (s : RSg h (T + 2 + md) 137 a (um l)) (hc : cm.length + l.length + 1 ≤ 1300) : ∃ h', F_M_substituteNext_226 (d : Int) 0 (a : Int) ((a + l.length : Nat) : Int) (bI true) h = some (.inl (), h') ∧ RX2 d (T + 2 + md) h h' ∧ UR nm T d h' rp md k g pa R dn ar (cm ++ (if l = [] then [(nTk, false)] else um l)) := by
  have hM := z.1.mx
  unfold F_M_substituteNext_226
  rw [if_pos rfl, if_neg (show ¬ bI true = 0 by decide)]
  cases l with
  | nil =>
    rw [List.length_nil] at *
    obtain ⟨w, e1, e2⟩ := TR.no (h := h) (h' := h) hM
    obtain ⟨h1, a1, a2, a3, -⟩ := m_app hd z e2 (by omega)
    rw [if_pos (by omega), e1, bnd_l, a1, bnd_l, if_pos rfl]
    refine ⟨h1, ?_, a2, a3⟩
    show raL (99999999 + 1) (d : Int) 0 _ (bI true) _ h1 = _
    rw [raL_s, F_M_substituteNext_290_b, if_pos (by omega)]
  | cons t l =>
    rw [if_neg (by rw [List.length_cons]; omega), if_neg (by simp)]
    rw [List.length_cons] at hc
    obtain ⟨h1, a1, a2, a3⟩ := ra_l (e := a + (t :: l).length) hd ha (t :: l) FU a h cm (by unfold FU; rw [List.length_cons]; omega) rfl z s (by rw [List.length_cons]; omega)
    exact ⟨h1, a1, a2, a3⟩
theorem pix_in {ps : List (List Int)} {x : List Int} {j : Nat} (e : pix ps x = some j) (h3 : ps.length ≤ 3) (ha : ps.length ≤ ar.length) : j < ar.length ∧ j < 3 := by
  have := (pix_lt e).1
  omega
theorem su_r (N : nmW nm) (HX : HXr nm T d X) (hk : k < 8) (hq : nm k = some q) (hd : d < 8) (hpa : (q.2.1.getD []).length ≤ ar.length) (hW : ∀ a ∈ ar, ∀ t ∈ a, tkW t) :
    ∀ (N0 : Nat) (B' : List (Nat × List Int)) (p : Nat) (h : MH) (rp md : Nat) (cm : List (Tk × Bool)) (pj : Bool), B'.length ≤ N0 → q.2.2.drop p = B' → p + B'.length = q.2.2.length → pj = isJn (bTk q.2.2 ((p : Int) - 1)).1 (bTk q.2.2 ((p : Int) - 1)).2.1 → UR nm T d h rp md k g p R dn ar cm → (∀ x ∈ cm, tkW x.1) → cm.length + 102 * B'.length ≤ 1300 →
    OS nm T d k g q.2.2.length R dn ar (102 * B'.length) rp md h (subT X (q.2.1.getD []) ar pj rp md cm B') := by
  intro N0
  induction N0 with
  | zero =>
    intro B' p h rp md cm pj hN hk' hp hpj z ok hc
    have : B' = [] := List.eq_nil_of_length_eq_zero (by omega)
    subst this
    rw [List.length_nil, Nat.add_zero] at hp
    rw [subT]
    rw [← hp]
    exact ⟨fun _ => ⟨0, h, RE.rf, RX2.rf, Nat.le_refl _, z, ok, by show 0 + 2000 * rp ≤ _ + 2000 * rp; omega⟩, fun q => absurd rfl q⟩
  | succ N0 ih =>
    intro B' p h rp md cm pj hN hk' hp hpj z ok hc
    cases B' with
    | nil =>
      rw [List.length_nil, Nat.add_zero] at hp
      rw [subT]
      rw [← hp]
      exact ⟨fun _ => ⟨0, h, RE.rf, RX2.rf, Nat.le_refl _, z, ok, by show 0 + 2000 * rp ≤ _ + 2000 * rp; omega⟩, fun q => absurd rfl q⟩
    | cons y B' =>
      obtain ⟨kd, x⟩ := y
      rw [List.length_cons] at hN hc hp
      rw [List.length_cons]
      obtain ⟨hkl, hget, hdr⟩ := dr_cons hk'
      obtain ⟨n1, n2, n3, n4⟩ := N k hk q hq
      have b0 : bTk q.2.2 (p : Int) = (kd, x, noH) := bTk_hd hk'
      have b1 : bTk q.2.2 ((p : Int) + 1) = ((hdx B').1, (hdx B').2, noH) := by
        have := bTk_hd hdr
        rw [show ((p + 1 : Nat) : Int) = (p : Int) + 1 by omega] at this
        exact this
      have wx := (n4 (kd, x) (List.mem_of_getElem? hget)).1
      have y0 := bd_get z.1 hk hq hget
      obtain ⟨ss1, ss2⟩ := st_sub hd hk hq z hkl
      have hps := n1
      -- go on behind this token
      have next : ∀ (B2 : List (Nat × List Int)) (p2 : Nat) (h2 : MH) (rp2 md2 : Nat) (cm2 : List (Tk × Bool)) (pj2 : Bool) (n2 : Nat), (p2 = p + 1 ∧ B2 = B' ∨ p2 = p + 2 ∧ B2 = B'.tail ∧ B' ≠ []) → pj2 = isJn (bTk q.2.2 ((p2 : Int) - 1)).1 (bTk q.2.2 ((p2 : Int) - 1)).2.1 → UR nm T d h2 rp2 md2 k g p2 R dn ar cm2 → (∀ x ∈ cm2, tkW x.1) → cm2.length ≤ cm.length + 102 → RE n2 h h2 → RX2 d (T + 2 + md) h h2 → md ≤ md2 → n2 + 2000 * rp ≤ 102 + 2000 * rp2 →
          OS nm T d k g q.2.2.length R dn ar (102 * (B'.length + 1)) rp md h (subT X (q.2.1.getD []) ar pj2 rp2 md2 cm2 B2) := by
        intro B2 p2 h2 rp2 md2 cm2 pj2 m2 hB hpj2 z2 ok2 hc2 e2 f2 hm2 hn2
        have hB2 : q.2.2.drop p2 = B2 ∧ B2.length ≤ B'.length ∧ p2 + B2.length = q.2.2.length := by
          rcases hB with ⟨rfl, rfl⟩ | ⟨rfl, rfl, hne⟩
          · exact ⟨hdr, Nat.le_refl _, by omega⟩
          · have := List.length_pos_iff.mpr hne
            refine ⟨?_, by rw [List.length_tail]; omega, by rw [List.length_tail]; omega⟩
            rw [show p + 2 = p + 1 + 1 by omega, ← List.drop_drop, hdr, List.drop_one]
        exact ((ih B2 p2 h2 rp2 md2 cm2 pj2 (by omega) hB2.1 hB2.2.2 hpj2 z2 ok2 (by omega)).step e2 f2 hm2 hn2).le (by omega)
      have apW : ∀ (c2 : List (Tk × Bool)), (∀ x ∈ c2, tkW x.1) → ∀ x ∈ cm ++ c2, tkW x.1 := fun c2 h2 x hx => by
        rcases List.mem_append.mp hx with q | q
        · exact ok x q
        · exact h2 x q
      have umW : ∀ (l : List Tk), (∀ t ∈ l, tkW t) → ∀ x ∈ um l, tkW x.1 := fun l h2 x hx => by
        unfold um at hx
        obtain ⟨t, ht, rfl⟩ := List.mem_map.mp hx
        exact h2 t ht
      have gdW : ∀ j, ∀ t ∈ ar.getD j [], tkW t := fun j t ht => by
        by_cases cj : j < ar.length
        · rw [List.getD_eq_getElem?_getD, List.getElem?_eq_getElem cj] at ht
          exact hW _ (List.getElem_mem cj) t ht
        · rw [List.getD_eq_getElem?_getD, List.getElem?_eq_none (by omega)] at ht
          exact absurd ht List.not_mem_nil
      have way := sub_way N hd hk hq z hk'
      rw [subT_u hps.ne]
      by_cases cs : kd = 4 ∧ x = [35] ∧ (pix (q.2.1.getD []) (hdx B').2).isSome = true
      · rw [if_pos cs]
        rw [if_pos cs] at way
        obtain ⟨j, hj⟩ := Option.isSome_iff_exists.mp cs.2.2
        cases hB' : B' with
        | nil =>
          rw [hB'] at hj
          have hj' : pix (q.2.1.getD []) [] = some j := hj
          exact absurd (pix_lt hj').2 hps.ne
        | cons y B2 =>
          obtain ⟨k', x'⟩ := y
          rw [← hB', hj]
          rw [hB'] at hdr
          obtain ⟨hkl', hget', hdr'⟩ := dr_cons hdr
          have y1 := (bd_get z.1 hk hq hget').2
          rw [hB'] at hj
          have hj' : pix (q.2.1.getD []) x' = some j := hj
          rw [hj'] at y1
          obtain ⟨hja, hj3⟩ := pix_in hj' n2 hpa
          obtain ⟨a, e1, e2, ha, sg⟩ := z.2.2.2.2.2.2.2.1.arg hja
          obtain ⟨F1, U1⟩ := z.at' (pa' := p + 2)
          have hM := z.1.mx
          have ee : F_M_substituteNext h = F_M_substituteNext_226 (d : Int) 1 ((100 * d + a : Nat) : Int) ((100 * d + a + (ar.getD j []).length : Nat) : Int) (bI (isJn (bTk q.2.2 ((p : Int) - 1)).1 (bTk q.2.2 ((p : Int) - 1)).2.1 || isJn (bTk q.2.2 ((p : Int) + 1)).1 (bTk q.2.2 ((p : Int) + 1)).2.1)) (mPi h 145 d ((p + 2 : Nat) : Int)) := by
            rw [way, sub_85 hd hk (by omega), y1, z.2.2.2.1]
            exact sub_128 N hd hk hq (by omega) (by decide) hj3 z.1 e1 e2 ha
          obtain ⟨s1, s2⟩ := m_apS (p := 100 * d + a) hd U1 (by omega) (by omega) (RSg.cg (h := h) (fun j _ => by rw [gi_pi, if_neg (by omega)]) (Nat.le_refl _) hM (fun j _ _ => rfl) sg) (fun t ht => (gdW j t ht).ok) (by omega)
          show OS _ _ _ _ _ _ _ _ _ _ _ _ _ (if 900 < md + (strK (ar.getD j [])).length then _ else _)
          by_cases c9 : 900 < md + (strK (ar.getD j [])).length
          · rw [if_pos c9]
            obtain ⟨h2, a1, a2⟩ := s1 c9
            have x2 := XB.tr F1 a2 (Nat.le_refl _)
            exact OS.bad (show (1 : Nat) ≠ 0 by decide) (ss2 h2 (ee.trans (r_str a1)) (by rw [x2.2.1]; decide)) x2 (by show 2 + 2000 * rp ≤ _ + 2 + 2000 * rp; omega)
          · rw [if_neg c9]
            obtain ⟨h2, a1, a2, a3⟩ := s2 (by omega)
            refine next B'.tail (p + 2) h2 rp _ _ false 1 (.inr ⟨rfl, rfl, by rw [hB']; simp⟩) ?_ a3 (apW _ (fun x hx => by rw [List.mem_singleton.mp hx]; exact strK_W (gdW j))) (by rw [List.length_append, List.length_singleton]; omega) (ss1 h2 (ee.trans (r_str a1)) a3.1.2.2.2.2) (F1.tr a2 (Nat.le_refl _)) (by omega) (by omega)
            rw [show ((p + 2 : Nat) : Int) - 1 = (p : Int) + 1 by omega, b1, hB']
            exact (wds.jn hps hj').symm
      · rw [if_neg cs]
        rw [if_neg cs] at way
        rw [way, sub_84 hd hk (by omega), y0.2, z.2.2.2.1] at ss1 ss2
        obtain ⟨F1, U1⟩ := z.at' (pa' := p + 1)
        have hM := z.1.mx
        cases hpx : pix (q.2.1.getD []) x with
        | none =>
          rw [hpx] at ss1
          dsimp only
          have y0' := y0.1.cg (h' := mPi h 145 d ((p + 1 : Nat) : Int)) (fun j _ => by rw [gi_pi, if_neg (by omega)]) (Nat.le_refl _) hM
          have ee : ∃ h2, F_M_substituteNext_128 (d : Int) ((7 - k : Nat) : Int) (p : Int) (mGl h 125 (12 * (7 - k) + p)) 0 (oI none) (d : Int) (p : Int) 1 h = some (.inl (), h2) ∧ RX2 d (T + 2 + md) (mPi h 145 d ((p + 1 : Nat) : Int)) h2 ∧ UR nm T d h2 rp md k g (p + 1) R dn ar (cm ++ [((kd, x, noH), isJn kd x)]) := by
            unfold F_M_substituteNext_128
            rw [gd_rg (by omega) (by omega), gd_b (by omega) (by omega), Int.toNat_natCast, show (p : Int) + 1 = ((p + 1 : Nat) : Int) by omega]
            simp only [sto_e]
            rw [if_neg (by show ¬ (0 : Int) ≤ -1; decide), m_join2 y0' wx, bnd_l]
            unfold F_M_substituteNext_157
            show ∃ h2, (if bI (isJn kd x) = 0 then _ else _) = _ ∧ _
            cases hjn : isJn kd x with
            | true =>
              rw [if_neg (show ¬ bI true = 0 by decide)]
              obtain ⟨h2, a1, a2, a3, -⟩ := m_app hd U1 y0'.jn (by omega)
              exact ⟨h2, by rw [a1, bnd_l], a2, a3⟩
            | false =>
              rw [if_pos (show bI false = 0 from rfl)]
              obtain ⟨h2, a1, a2, a3, -⟩ := m_app hd U1 y0' (by omega)
              exact ⟨h2, by rw [a1, bnd_l], a2, a3⟩
          obtain ⟨h2, a1, a2, a3⟩ := ee
          refine next B' (p + 1) h2 rp md _ _ 1 (.inl ⟨rfl, rfl⟩) ?_ a3 (apW _ (fun x hx => by rw [List.mem_singleton.mp hx]; exact wx)) (by rw [List.length_append, List.length_singleton]; omega) (ss1 h2 a1 a3.1.2.2.2.2) (F1.tr a2 (Nat.le_refl _)) (Nat.le_refl _) (by omega)
          rw [show ((p + 1 : Nat) : Int) - 1 = (p : Int) by omega, b0]
        | some j =>
          dsimp only
          obtain ⟨hja, hj3⟩ := pix_in hpx n2 hpa
          obtain ⟨a, e1, e2, ha, sg⟩ := z.2.2.2.2.2.2.2.1.arg hja
          have ee : F_M_substituteNext_128 (d : Int) ((7 - k : Nat) : Int) (p : Int) (mGl h 125 (12 * (7 - k) + p)) 0 (oI (some j)) (d : Int) (p : Int) 1 h = _ := sub_128 (s3 := 1) N hd hk hq (by omega) (by decide) hj3 z.1 e1 e2 ha
          rw [hpx, ee, ← hpj, b1] at ss1 ss2
          have pj1 : false = isJn (bTk q.2.2 (((p + 1 : Nat) : Int) - 1)).1 (bTk q.2.2 (((p + 1 : Nat) : Int) - 1)).2.1 := by
            rw [show ((p + 1 : Nat) : Int) - 1 = (p : Int) by omega, b0]
            exact (wds.jn hps hpx).symm
          have sg' := RSg.cg (h := h) (h' := mPi h 145 d ((p + 1 : Nat) : Int)) (fun j _ => by rw [gi_pi, if_neg (by omega)]) (Nat.le_refl _) hM (fun j _ _ => rfl) sg
          by_cases cj : pj = true ∨ isJn (hdx B').1 (hdx B').2 = true
          · rw [if_pos cj]
            have cb : (pj || isJn (hdx B').1 (hdx B').2) = true := by
              rcases cj with q | q
              · rw [q]; rfl
              · rw [q, Bool.or_true]
            have cb' : (pj || isJn ((hdx B').1, (hdx B').2, noH).1 ((hdx B').1, (hdx B').2, noH).2.1) = true := cb
            rw [cb'] at ss1
            obtain ⟨h2, a1, a2, a3⟩ := r_raw hd U1 (by omega) sg' (by omega)
            refine next B' (p + 1) h2 rp md _ _ 1 (.inl ⟨rfl, rfl⟩) pj1 a3 (apW _ ?_) ?_ (ss1 h2 a1 a3.1.2.2.2.2) (F1.tr a2 (Nat.le_refl _)) (Nat.le_refl _) (by omega)
            · split
              · intro x hx
                rw [List.mem_singleton.mp hx]; exact tkW_n
              · exact umW _ (gdW j)
            · rw [List.length_append]
              split
              · rw [List.length_singleton]; omega
              · rw [um_len]; omega
          · rw [if_neg cj]
            have cb : (pj || isJn ((hdx B').1, (hdx B').2, noH).1 ((hdx B').1, (hdx B').2, noH).2.1) = false := by
              show (pj || isJn (hdx B').1 (hdx B').2) = false
              rw [Bool.or_eq_false_iff]
              exact ⟨Bool.eq_false_iff.mpr (fun q => cj (.inl q)), Bool.eq_false_iff.mpr (fun q => cj (.inr q))⟩
            rw [cb] at ss1 ss2
            by_cases d7 : 7 ≤ d
            · rw [HX.1 d7]
              have a1 := m_nobegin (h := mPi h 145 d ((p + 1 : Nat) : Int)) (D := d + 1) (p := 100 * d + a) (n := (ar.getD j []).length) (.inl (by omega)) U1.1.2.2.2.2
              have x2 : XB d (T + 2 + md) h (mPi (mPi h 145 d ((p + 1 : Nat) : Int)) 107 1 1) 1 rp := XB.tr F1 (XB.one (why := 1) U1.1) (Nat.le_refl _)
              exact OS.bad (show (1 : Nat) ≠ 0 by decide) (ss2 _ (r_row (by omega) hd a1) (by rw [x2.2.1]; decide)) x2 (by show 2 + 2000 * rp ≤ _ + 2 + 2000 * rp; omega)
            · obtain ⟨h2, a1, a2, a3⟩ := m_begin (D := d + 1) (c := 137) (p := 100 * d + a) (by omega) (by rw [if_neg (by omega)]) U1.1 (by omega) (by rw [if_neg (by omega)]; omega) sg'
              have R1 := ss1 h2 (r_row (by omega) hd a1) a3.1.2.2.2.2
              have U2 := U1.uf.dp a2 (Nat.le_refl _) (Nat.le_refl _) hM
              have F2 : RX2 d (T + 2 + md) h h2 := F1.tr a2.up (Nat.le_refl _)
              obtain ⟨i1, i2⟩ := HX.2 (by omega) h2 rp md (ar.getD j []) a3 (gdW j)
              by_cases c0 : (X rp md (ar.getD j [])).1 = 0
              · rw [if_pos c0]
                obtain ⟨n, h3, c1, c2, c3, c4, c5, c6⟩ := i1 c0
                have hl := c4.2.2.2.2.2.1
                obtain ⟨h4, p1, p2, p3⟩ := m_popR (by omega) c4 (U2.dp c2 (Nat.le_refl _) c3 c4.1.mx) (by omega)
                have R3 := (st_scan (by omega) c4).1 h4 p1 p3.1.2.2.2.2
                exact next B' (p + 1) h4 _ _ _ _ (1 + n + 1) (.inl ⟨rfl, rfl⟩) pj1 p3 (apW _ (umW _ c5)) (by rw [List.length_append, um_len]; omega) ((R1.tr c1).tr R3) ((F2.tr c2.up (Nat.le_refl _)).tr p2 (by omega)) c3 (by omega)
              · rw [if_neg c0]
                obtain ⟨n, h3, c1, c2, c3⟩ := i2 c0
                exact OS.bad c0 (R1.fl c1) (XB.tr F2 c2.up (Nat.le_refl _)) (by show 1 + n + 2000 * rp ≤ _ + 2 + 2000 * (X rp md (ar.getD j [])).2.1; omega)
end Ru
