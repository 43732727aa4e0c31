/-! the class's Definitions: m tells in which of its slots a definition lies -/
section Def
def mcd (m : Nat → Nat) (w : Int) : Int := if 0 ≤ w then (m w.toNat : Int) else 98 - w
def MaC (h : MH) (m : Nat → Nat) : List Fm1 → Prop
  | [] => True
  | (w, _, _, _) :: r => mGi h 81 r.length = mcd m w ∧ MaC h m r
def awN (m : Nat → Nat) (s : Nat) : List Fm1 → Int
  | [] => 0
  | (w, _, _, _) :: r => (if 0 ≤ w ∧ m w.toNat = s then 1 else 0) + awN m s r
def OrC (h : MH) (m : Nat → Nat) : Nat → List Nat → Prop
  | _, [] => True
  | p, d :: l => mGi h 10 p = (m d : Int) ∧ OrC h m (p + 1) l
def lv (ds : List Nat) (fs : List Fm1) (k : Nat) : Prop := k ∈ ds ∨ k ∈ idsF fs
def DefC (h : MH) (m : Nat → Nat) (ds : List Nat) (wd tx : Nat → List Int) (fs : List Fm1) : Prop :=
  mGi h 6 4 = (ds.length : Int) ∧ permO h ∧ OrC h m 0 ds ∧ MaC h m fs ∧ (∀ s, s < 16 → mGi h 9 s = awN m s fs) ∧
  (∀ k, lv ds fs k → m k < 16 ∧ Let h (11 + 4 * m k) 8 (wd k) ∧ Let h (13 + 4 * m k) 40 (tx k)) ∧ (∀ k k', lv ds fs k → lv ds fs k' → m k = m k' → k = k')
variable {h h' : MH} {m : Nat → Nat} {ds : List Nat} {wd tx : Nat → List Int} {fs : List Fm1}
theorem MaC.cg : ∀ {fs : List Fm1}, (∀ j, j < fs.length → mGi h' 81 j = mGi h 81 j) → MaC h m fs → MaC h' m fs
  | [], _, _ => trivial
  | (w, pv, cu, op) :: r, e, z => ⟨(e _ (by rw [List.length_cons]; omega)).trans z.1, MaC.cg (fun j hj => e j (by rw [List.length_cons]; omega)) z.2⟩
theorem OrC.cg : ∀ {l : List Nat} {p : Nat}, (∀ j, p ≤ j → j < p + l.length → mGi h' 10 j = mGi h 10 j) → OrC h m p l → OrC h' m p l
  | [], _, _, _ => trivial
  | x :: l, p, e, z => ⟨(e p (Nat.le_refl _) (by rw [List.length_cons]; omega)).trans z.1, OrC.cg (fun j h1 h2 => e j (by omega) (by rw [List.length_cons]; omega)) z.2⟩
theorem OrC.app : ∀ {l1 : List Nat} {p : Nat} {l2 : List Nat}, OrC h m p (l1 ++ l2) ↔ OrC h m p l1 ∧ OrC h m (p + l1.length) l2
  | [], p, l2 => ⟨fun z => ⟨trivial, z⟩, fun z => z.2⟩
  | x :: l, p, l2 => by
    have z := OrC.app (l1 := l) (p := p + 1) (l2 := l2)
    rw [List.length_cons, show p + (l.length + 1) = p + 1 + l.length by omega]
    exact ⟨fun q => ⟨⟨q.1, (z.mp q.2).1⟩, (z.mp q.2).2⟩, fun q => ⟨q.1.1, z.mpr ⟨q.1.2, q.2⟩⟩⟩
theorem OrC.get : ∀ {l : List Nat} {p : Nat} (_ : OrC h m p l) {j k : Nat}, l[j]? = some k → mGi h 10 (p + j) = (m k : Int)
  | [], _, _, j, k, e => by simp at e
  | x :: l, p, z, 0, k, e => by simp at e; subst e; exact z.1
  | x :: l, p, z, j + 1, k, e => by
    rw [show p + (j + 1) = p + 1 + j by omega]
    exact OrC.get z.2 (by simpa using e)
theorem OrC.mk : ∀ {l : List Nat} {p : Nat}, (∀ j k, l[j]? = some k → mGi h 10 (p + j) = (m k : Int)) → OrC h m p l
  | [], _, _ => trivial
  | x :: l, p, e => ⟨e 0 x rfl, OrC.mk fun j k q => by have z := e (j + 1) k (by simpa using q); rw [show p + (j + 1) = p + 1 + j by omega] at z; exact z⟩
theorem permO.cg (e : ∀ i, i < 16 → mGi h' 10 i = mGi h 10 i) (z : permO h) : permO h' := by
  refine ⟨fun k hk => ?_, fun k k' hk hk' q => ?_⟩
  · rw [e k hk]; exact z.1 k hk
  · rw [e k hk, e k' hk'] at q; exact z.2 k k' hk hk' q
/-- cells that are no definition's -/
def noD (S : List Nat) : Prop := ∀ b ∈ S, b ∉ [6, 9, 10, 81] ∧ (b < 11 ∨ 75 ≤ b)
theorem DefC.fr {S : List Nat} (z : DefC h m ds wd tx fs) (f : Fr S h h') (hS : noD S) : DefC h' m ds wd tx fs := by
  obtain ⟨z1, z2, z3, z4, z5, z6, z7⟩ := z
  have g : ∀ b ∈ [6, 9, 10, 81], b ∉ S := fun b hb q => (hS b q).1 hb
  have g2 : ∀ b, 11 ≤ b → b < 75 → b ∉ S := fun b h1 h2 q => by have := (hS b q).2; omega
  refine ⟨(f.2.2 6 (g 6 (by decide)) 4).trans z1, permO.cg (fun i _ => f.2.2 10 (g 10 (by decide)) i) z2, OrC.cg (fun j _ _ => f.2.2 10 (g 10 (by decide)) j) z3, MaC.cg (fun j _ => f.2.2 81 (g 81 (by decide)) j) z4, fun s hs => (f.2.2 9 (g 9 (by decide)) s).trans (z5 s hs), fun k hk => ?_, z7⟩
  obtain ⟨y1, y2, y3⟩ := z6 k hk
  exact ⟨y1, y2.fr f (g2 _ (by omega) (by omega)) (g2 _ (by omega) (by omega)), y3.fr f (g2 _ (by omega) (by omega)) (g2 _ (by omega) (by omega))⟩
theorem snocC {α : Type} : ∀ l : List α, l = [] ∨ ∃ i x, l = i ++ [x]
  | [] => .inl rfl
  | x :: t => .inr ⟨(x :: t).dropLast, (x :: t).getLast (by simp), (List.dropLast_concat_getLast (by simp)).symm⟩
theorem lat_s (w : List Int) (l : List Nat) (x : Nat) : lat wd w (l ++ [x]) = if wd x = w then some x else lat wd w l := by
  unfold lat
  rw [List.foldl_append]
  rfl
theorem lat_m {w : List Int} : ∀ (n : Nat) (l : List Nat), l.length = n → ∀ k, lat wd w l = some k → k ∈ l ∧ wd k = w := by
  intro n
  induction n with
  | zero =>
    intro l hl k e
    have : l = [] := List.eq_nil_of_length_eq_zero hl
    subst this
    cases e
  | succ n ih =>
    intro l hl k e
    rcases snocC l with rfl | ⟨i, x, rfl⟩
    · simp at hl
    · rw [lat_s] at e
      by_cases c : wd x = w
      · rw [if_pos c] at e
        cases e
        exact ⟨by simp, c⟩
      · rw [if_neg c] at e
        have q := ih i (by simpa using hl) k e
        exact ⟨by simp [q.1], q.2⟩
theorem lat_mem {w : List Int} {l : List Nat} {k : Nat} (e : lat wd w l = some k) : k ∈ l := (lat_m l.length l rfl k e).1
def latV (m : Nat → Nat) : Option Nat → Int
  | none => -1
  | some k => (m k : Int)
theorem la_l {c cn p : Nat} {t : List Int} (hcn : cn < 100000) (hp : p + t.length ≤ cn) (s : Seg h c p t) : ∀ (n : Nat) (l : List Nat) (f : Nat), l.length = n → n ≤ 16 → n < f → OrC h m 0 l → (∀ k ∈ l, m k < 16 ∧ Let h (11 + 4 * m k) 8 (wd k) ∧ (wd k).length ≤ 8) →
    itr (fun self (q : Nat × Nat × Int × Int × Int × MH) => F_De_latest_8_b (fun v1 v1n v2 v3 v4 h => self (v1, v1n, v2, v3, v4, h)) q.1 q.2.1 q.2.2.1 q.2.2.2.1 q.2.2.2.2.1 q.2.2.2.2.2) f (c, cn, (p : Int), (t.length : Int), (n : Int) - 1, h) = some (.inl (latV m (lat wd t l)), h) := by
  intro n
  induction n with
  | zero =>
    intro l f hl hn hf z y
    obtain ⟨f, rfl⟩ : ∃ g, f = g + 1 := ⟨f - 1, by omega⟩
    have : l = [] := List.eq_nil_of_length_eq_zero hl
    subst this
    rw [itr_s]
    dsimp only
    rw [F_De_latest_8_b, if_pos (by omega)]
    rfl
  | succ n ih =>
    intro l f hl hn hf z y
    obtain ⟨f, rfl⟩ : ∃ g, f = g + 1 := ⟨f - 1, by omega⟩
    rcases snocC l with rfl | ⟨i, x, rfl⟩
    · simp at hl
    · have hi : i.length = n := by simpa using hl
      obtain ⟨y1, y2, y3⟩ := y x (by simp)
      have zx := (OrC.app.mp z).2.1
      rw [Nat.zero_add, hi] at zx
      rw [itr_s]
      dsimp only
      rw [F_De_latest_8_b, if_neg (by omega), gd_b (by omega) (by omega), show (((n + 1 : Nat) : Int) - 1).toNat = n by omega, zx, gd_b (by omega) (by omega), Int.toNat_natCast, is_e hcn (by decide) y2 y3 s hp, bnd_l, lat_s]
      by_cases c0 : wd x = t
      · rw [if_pos c0, if_pos c0, if_neg (by decide)]
        rw [zx]
        rfl
      · rw [if_neg c0, if_neg c0, if_pos rfl, gd_rg (by omega) (by omega)]
        have r := ih i f hi (by omega) (by omega) (OrC.app.mp z).1 (fun k hk => y k (by simp [hk]))
        rw [show ((n + 1 : Nat) : Int) - 1 + -1 = (n : Int) - 1 by omega]
        exact r
theorem de_latest {c cn p : Nat} {t : List Int} (z : DefC h m ds wd tx fs) (hcn : cn < 100000) (hp : p + t.length ≤ cn) (s : Seg h c p t) (hd : ds.length ≤ 10) (hw : ∀ k ∈ ds, (wd k).length ≤ 8) : F_De_latest c cn (p : Int) (t.length : Int) h = some (.inl (latV m (lat wd t ds)), h) := by
  obtain ⟨z1, z2, z3, z4, z5, z6, z7⟩ := z
  unfold F_De_latest
  rw [z1, gd_rg (by omega) (by omega)]
  exact la_l hcn hp s ds.length ds FU rfl (by omega) (by unfold FU; omega) z3 (fun k hk => ⟨(z6 k (.inl hk)).1, (z6 k (.inl hk)).2.1, hw k hk⟩)
/-! remove -/
theorem rm_2 {s : Int} {n j : Nat} {ord : Nat → Int} (hn : n ≤ 10) (hj : j < n) (hs : ∀ i, i < n → i ≠ j → ord i ≠ s) : ∀ (q f v : Nat) (h : MH), q < f → v + q = n → j < v → mGi h 6 4 = (n : Int) → (∀ i, mGi h 10 i = if j ≤ i ∧ i + 1 < v then ord (i + 1) else ord i) →
    ∃ h', itr (fun self (q : Int × Int × Int × MH) => F_De_remove_4_b (fun v1 v2 v3 h => self (v1, v2, v3, h)) q.1 q.2.1 q.2.2.1 q.2.2.2) f (s, (v : Int) - 1, (v : Int), h) = some (.inl (), h') ∧ Fr [6, 10] h h' ∧ mGi h' 6 4 = (n : Int) - 1 ∧ ∀ i, mGi h' 10 i = if i + 1 = n then s else if j ≤ i ∧ i + 1 < n then ord (i + 1) else ord i := by
  intro q
  induction q with
  | zero =>
    intro f v h hf hv hjv e4 eo
    obtain ⟨f, rfl⟩ : ∃ g, f = g + 1 := ⟨f - 1, by omega⟩
    have : v = n := by omega
    subst this
    refine ⟨mPi (mPi h 10 ((v : Int) - 1).toNat s) 6 4 ((v : Int) - 1), ?_, Fr.pi (Fr.pi Fr.rf (by simp)) (by simp), ?_, fun i => ?_⟩
    · rw [itr_s]
      dsimp only
      rw [F_De_remove_4_b, e4, if_pos (by omega), if_neg (by omega), gd_b (by omega) (by omega)]
      rfl
    · rw [gi_pi, if_pos ⟨rfl, rfl⟩]
    · rw [gi_pi, if_neg (by omega), gi_pi]
      by_cases c : i + 1 = v
      · rw [if_pos ⟨rfl, by omega⟩, if_pos c]
      · rw [if_neg (by omega), if_neg c, eo]
  | succ q ih =>
    intro f v h hf hv hjv e4 eo
    obtain ⟨f, rfl⟩ : ∃ g, f = g + 1 := ⟨f - 1, by omega⟩
    have ev : mGi h 10 v = ord v := by rw [eo, if_neg (by omega)]
    obtain ⟨h1, e1, f1, a1, a2⟩ := ih f (v + 1) (mPi h 10 ((v : Int) - 1).toNat (ord v)) (by omega) (by omega) (by omega) (by rw [gi_pi, if_neg (by omega), e4]) (fun i => by
      rw [gi_pi]
      by_cases c : i = v - 1
      · rw [if_pos ⟨rfl, by omega⟩, if_pos (by omega), c, show v - 1 + 1 = v by omega]
      · rw [if_neg (by omega), eo]
        by_cases c2 : j ≤ i ∧ i + 1 < v
        · rw [if_pos c2, if_pos (by omega)]
        · rw [if_neg c2, if_neg (by omega)])
    refine ⟨h1, ?_, (Fr.pi Fr.rf (by simp)).tr f1, a1, a2⟩
    rw [itr_s]
    dsimp only
    rw [F_De_remove_4_b, e4, if_neg (by omega), gd_b (by omega) (by omega), Int.toNat_natCast, ev, if_neg (hs v (by omega) (by omega)), gd_b (by omega) (by omega)]
    simp only [sto_e]
    unfold F_De_remove_37
    rw [gd_rg (by omega) (by omega), gd_rg (by omega) (by omega)]
    rw [show ((v + 1 : Nat) : Int) - 1 = (v : Int) - 1 + 1 by omega, show ((v + 1 : Nat) : Int) = (v : Int) + 1 by omega] at e1
    exact e1
theorem rm_1 {s : Int} {n : Nat} {ord : Nat → Int} (hn : n ≤ 10) : ∀ (q f v : Nat) (h : MH), q < f → v + q = n → (∀ i, i < n → v ≤ i → ord i ≠ s) → mGi h 6 4 = (n : Int) → (∀ i, mGi h 10 i = ord i) →
    ∃ h', itr (fun self (q : Int × Int × Int × MH) => F_De_remove_4_b (fun v1 v2 v3 h => self (v1, v2, v3, h)) q.1 q.2.1 q.2.2.1 q.2.2.2) f (s, (v : Int), (v : Int), h) = some (.inl (), h') ∧ Fr [6, 10] h h' ∧ mGi h' 6 4 = (n : Int) ∧ ∀ i, mGi h' 10 i = ord i := by
  intro q
  induction q with
  | zero =>
    intro f v h hf hv hs e4 eo
    obtain ⟨f, rfl⟩ : ∃ g, f = g + 1 := ⟨f - 1, by omega⟩
    have : v = n := by omega
    subst this
    refine ⟨h, ?_, Fr.rf, e4, eo⟩
    rw [itr_s]
    dsimp only
    rw [F_De_remove_4_b, e4, if_pos (by omega), if_pos (by omega)]
  | succ q ih =>
    intro f v h hf hv hs e4 eo
    obtain ⟨f, rfl⟩ : ∃ g, f = g + 1 := ⟨f - 1, by omega⟩
    obtain ⟨h1, e1, f1, a1, a2⟩ := ih f (v + 1) (mPi h 10 v (ord v)) (by omega) (by omega) (fun i h1 h2 => hs i h1 (by omega)) (by rw [gi_pi, if_neg (by omega), e4]) (fun i => by
      rw [gi_pi]
      by_cases c : i = v
      · rw [if_pos ⟨rfl, c⟩, c]
      · rw [if_neg (by omega), eo])
    refine ⟨h1, ?_, (Fr.pi Fr.rf (by simp)).tr f1, a1, a2⟩
    rw [itr_s]
    dsimp only
    rw [F_De_remove_4_b, e4, if_neg (by omega), gd_b (by omega) (by omega), Int.toNat_natCast, eo, if_neg (hs v (by omega) (by omega)), gd_b (by omega) (by omega)]
    simp only [sto_e]
    unfold F_De_remove_37
    rw [gd_rg (by omega) (by omega), gd_rg (by omega) (by omega)]
    rw [show ((v + 1 : Nat) : Int) = (v : Int) + 1 by omega] at e1
    exact e1
theorem rm_0 {s : Int} {n j : Nat} {ord : Nat → Int} (hn : n ≤ 10) (hj : j < n) (hs : ∀ i, i < n → i ≠ j → ord i ≠ s) (hjs : ord j = s) : ∀ (q f v : Nat) (h : MH), q < f → v + q = n → v ≤ j → mGi h 6 4 = (n : Int) → (∀ i, mGi h 10 i = ord i) →
    ∃ h', itr (fun self (q : Int × Int × Int × MH) => F_De_remove_4_b (fun v1 v2 v3 h => self (v1, v2, v3, h)) q.1 q.2.1 q.2.2.1 q.2.2.2) f (s, (v : Int), (v : Int), h) = some (.inl (), h') ∧ Fr [6, 10] h h' ∧ mGi h' 6 4 = (n : Int) - 1 ∧ ∀ i, mGi h' 10 i = if i + 1 = n then s else if j ≤ i ∧ i + 1 < n then ord (i + 1) else ord i := by
  intro q
  induction q with
  | zero => intro f v h hf hv hjv e4 eo; omega
  | succ q ih =>
    intro f v h hf hv hjv e4 eo
    obtain ⟨f, rfl⟩ : ∃ g, f = g + 1 := ⟨f - 1, by omega⟩
    by_cases c0 : v = j
    · subst c0
      obtain ⟨h1, e1, f1, a1, a2⟩ := rm_2 (s := s) (n := n) (j := v) (ord := ord) hn hj hs q f (v + 1) h (by omega) (by omega) (by omega) e4 (fun i => by rw [eo, if_neg (by omega)])
      refine ⟨h1, ?_, f1, a1, a2⟩
      rw [itr_s]
      dsimp only
      rw [F_De_remove_4_b, e4, if_neg (by omega), gd_b (by omega) (by omega), Int.toNat_natCast, eo, if_pos hjs]
      unfold F_De_remove_37
      rw [gd_rg (by omega) (by omega)]
      rw [show ((v + 1 : Nat) : Int) - 1 = (v : Int) by omega, show ((v + 1 : Nat) : Int) = (v : Int) + 1 by omega] at e1
      exact e1
    · obtain ⟨h1, e1, f1, a1, a2⟩ := ih f (v + 1) (mPi h 10 v (ord v)) (by omega) (by omega) (by omega) (by rw [gi_pi, if_neg (by omega), e4]) (fun i => by
        rw [gi_pi]
        by_cases c : i = v
        · rw [if_pos ⟨rfl, c⟩, c]
        · rw [if_neg (by omega), eo])
      refine ⟨h1, ?_, (Fr.pi Fr.rf (by simp)).tr f1, a1, a2⟩
      rw [itr_s]
      dsimp only
      rw [F_De_remove_4_b, e4, if_neg (by omega), gd_b (by omega) (by omega), Int.toNat_natCast, eo, if_neg (hs v (by omega) c0), gd_b (by omega) (by omega)]
      simp only [sto_e]
      unfold F_De_remove_37
      rw [gd_rg (by omega) (by omega), gd_rg (by omega) (by omega)]
      rw [show ((v + 1 : Nat) : Int) = (v : Int) + 1 by omega] at e1
      exact e1
end Def
