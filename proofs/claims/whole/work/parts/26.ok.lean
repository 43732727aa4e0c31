/-! methods as functions: an answer is none (nothing is said), a value or an exception's tag, with the heap then -/
section Ok
def Rng (h : MH) : Prop := (∀ a i, inR (mGi h a i)) ∧ (∀ a n i, h.1[a]? = some (101, n) → 0 ≤ mGi h a i ∧ mGi h a i < 65536)
/-- what stays from one heap to a later one -/
def Ext (h h' : MH) : Prop := (∀ (a : Nat) (x : Nat × Nat), h.1[a]? = some x → h'.1[a]? = some x) ∧ (∀ a i b, a < h.1.length → mGr h a i = some b → mGr h' a i = some b) ∧ mSc h' = mSc h ∧ (Rng h → Rng h')
theorem Ext.rf {h : MH} : Ext h h := ⟨fun _ _ e => e, fun _ _ _ _ e => e, rfl, id⟩
theorem Ext.len {h h' : MH} (e : Ext h h') {a : Nat} (ha : a < h.1.length) : a < h'.1.length := by
  have z := e.1 a _ (List.getElem?_eq_getElem ha)
  exact (List.getElem?_eq_some_iff.mp z).1
theorem Ext.tr {h h' h'' : MH} (e : Ext h h') (f : Ext h' h'') : Ext h h'' :=
  ⟨fun a x z => f.1 a x (e.1 a x z), fun a i b ha z => f.2.1 a i b (e.len ha) (e.2.1 a i b ha z), f.2.2.1.trans e.2.2.1, fun z => f.2.2.2 (e.2.2.2 z)⟩
theorem Ext.pi {h : MH} {a i t n : Nat} {x : Int} (ha : h.1[a]? = some (t, n)) (ht : t ≠ 101) (hx : inR x) : Ext h (mPi h a i x) := by
  refine ⟨fun _ _ e => e, fun _ _ _ _ e => e, rfl, fun hr => ⟨fun b j => ?_, fun b m j hb => ?_⟩⟩
  · show inR (if b = a ∧ j = i then x else mGi h b j)
    split
    · exact hx
    · exact hr.1 b j
  · show 0 ≤ (if b = a ∧ j = i then x else mGi h b j) ∧ (if b = a ∧ j = i then x else mGi h b j) < 65536
    split
    · rename_i z
      have hb' : h.1[b]? = some (101, m) := hb
      rw [z.1, ha] at hb'
      cases hb'
      exact absurd rfl ht
    · exact hr.2 b m j hb
theorem Ext.pc {h : MH} {a i : Nat} {x : Int} (h0 : 0 ≤ x) (h1 : x < 65536) : Ext h (mPi h a i x) := by
  refine ⟨fun _ _ e => e, fun _ _ _ _ e => e, rfl, fun hr => ⟨fun b j => ?_, fun b m j hb => ?_⟩⟩
  · show inR (if b = a ∧ j = i then x else mGi h b j)
    split
    · exact ⟨by omega, by omega⟩
    · exact hr.1 b j
  · show 0 ≤ (if b = a ∧ j = i then x else mGi h b j) ∧ (if b = a ∧ j = i then x else mGi h b j) < 65536
    split
    · exact ⟨h0, h1⟩
    · exact hr.2 b m j hb
theorem Ext.pl {h : MH} {a i : Nat} {x : Int64} : Ext h (mPl h a i x) := ⟨fun _ _ e => e, fun _ _ _ _ e => e, rfl, id⟩
theorem Ext.new {h : MH} {t n : Nat} : Ext h (mNew h t n) := by
  have hg : ∀ b j, mGi (mNew h t n) b j = if b = h.1.length then 0 else mGi h b j := fun _ _ => rfl
  refine ⟨fun a x e => ?_, fun a i b ha e => ?_, rfl, fun hr => ⟨fun b j => ?_, fun b m j hb => ?_⟩⟩
  · have ha : a < h.1.length := (List.getElem?_eq_some_iff.mp e).1
    show (h.1 ++ [(t, n)])[a]? = some x
    rw [List.getElem?_append_left ha]; exact e
  · show (if a = h.1.length then none else mGr h a i) = some b
    rw [if_neg (by omega)]; exact e
  · rw [hg]
    split
    · exact inR_0
    · exact hr.1 b j
  · rw [hg]
    by_cases hq : b = h.1.length
    · rw [if_pos hq]; exact ⟨by omega, by omega⟩
    · rw [if_neg hq]
      have hb' : (h.1 ++ [(t, n)])[b]? = some (101, m) := hb
      have hlt : b < h.1.length := by
        have z := (List.getElem?_eq_some_iff.mp hb').1
        simp at z; omega
      rw [List.getElem?_append_left hlt] at hb'
      exact hr.2 b m j hb'
theorem Ext.cpI {h : MH} {a b sp dp n na nb : Nat} (ha : h.1[a]? = some (101, na)) (hb : h.1[b]? = some (101, nb)) : Ext h (mCpI h a b sp dp n) := by
  have hg : ∀ c j, mGi (mCpI h a b sp dp n) c j = if c = b ∧ dp ≤ j ∧ j < dp + n then mGi h a (sp + (j - dp)) else mGi h c j := fun _ _ => rfl
  refine ⟨fun _ _ e => e, fun _ _ _ _ e => e, rfl, fun hr => ⟨fun c j => ?_, fun c m j hc => ?_⟩⟩
  · rw [hg]
    split
    · exact hr.1 _ _
    · exact hr.1 c j
  · rw [hg]
    split
    · exact hr.2 a na _ ha
    · exact hr.2 c m j hc
theorem Ext.cpL {h : MH} {a b sp dp n : Nat} : Ext h (mCpL h a b sp dp n) := ⟨fun _ _ e => e, fun _ _ _ _ e => e, rfl, id⟩
/-- how a typed answer stands for the machine's -/
def rl {ρ : Type} (c : ρ → Option MV) (p : ρ → Prop) (o : ρ ⊕ Nat) (h' : MH) : MO → Prop
  | .inl v => ∃ x, o = .inl x ∧ v = c x ∧ p x
  | .inr a => ∃ te, o = .inr te ∧ h'.1[a]? = some (te, 6)
abbrev RS (ρ : Type) : Type := Option ((ρ ⊕ Nat) × MH)
def OK {ρ : Type} (d : Nat) (k : MK) (pc : Nat) (ls st : List MV) (h : MH) (c : ρ → Option MV) (p : ρ → Prop) (r : RS ρ) : Prop :=
  ∀ o h', r = some (o, h') → Ext h h' ∧ (∀ x, o = .inl x → p x) ∧ ∀ Q : MO → MH → Prop, (∀ o', rl c p o h' o' → Q o' h') → MX d k pc ls st h Q
def cI (x : Int) : Option MV := some (mI x)
def cJ (x : Int64) : Option MV := some (mL x)
def cV (_ : Unit) : Option MV := none
def cA (a : Nat) : Option MV := some (mR a)
def pT {ρ : Type} (_ : ρ) : Prop := True
/-- a guard: nothing is said where it doesn't hold -/
noncomputable def gd {α : Type} (P : Prop) (r : Option α) : Option α := @ite _ P (Classical.propDecidable P) r none
theorem gd_t {α : Type} {P : Prop} {r : Option α} (h : P) : gd P r = r := if_pos h
theorem gd_some {α : Type} {P : Prop} {r : Option α} {x : α} (h : gd P r = some x) : P ∧ r = some x := by
  unfold gd at h
  split at h
  · exact ⟨by assumption, h⟩
  · cases h
def sto {α : Type} (h : MH) (K : MH → α) : α := K h
def bnd {ρ σ : Type} (r : RS ρ) (K : ρ → MH → RS σ) : RS σ := match r with
  | none => none
  | some (.inl v, h) => K v h
  | some (.inr te, h) => some (.inr te, h)
def bndC {ρ σ : Type} (r : RS ρ) (K : ρ → MH → RS σ) (H : Nat → MH → RS σ) : RS σ := match r with
  | none => none
  | some (.inl v, h) => K v h
  | some (.inr te, h) => H te h
def rmE (h : MH) : Prop := h.1.length < mCM ∧ mSlt h + 6 ≤ mSM
noncomputable def thr {ρ : Type} (te : Nat) (h : MH) : RS ρ := gd (rmE h) (some (.inr te, mNew h te 6))
def itr {α β : Type} (B : (α → Option β) → α → Option β) : Nat → α → Option β
  | 0, _ => none
  | n + 1, x => B (itr B n) x
def FU : Nat := 100000000
variable {ρ σ : Type} {d d' : Nat} {k k' : MK} {pc pc' : Nat} {ls ls' st st' rest as : List MV} {h h1 : MH} {c : ρ → Option MV} {p : ρ → Prop} {c' : σ → Option MV} {p' : σ → Prop} {r r1 r2 : RS ρ}
theorem OK.none : OK d k pc ls st h c p none := fun _ _ e => by cases e
theorem z_go (hx : ∀ Q, MX d k pc' ls' st' h Q → MX d k pc ls st h Q) (hk : OK d k pc' ls' st' h c p r) : OK d k pc ls st h c p r :=
  fun o h' e => ⟨(hk o h' e).1, (hk o h' e).2.1, fun Q hq => hx Q ((hk o h' e).2.2 Q hq)⟩
theorem z_gd {P : Prop} (hk : P → OK d k pc ls st h c p r) : OK d k pc ls st h c p (gd P r) :=
  fun o h' e => hk (gd_some e).1 o h' (gd_some e).2
theorem z_ite {P : Prop} [hD : Decidable P] (k1 : P → OK d k pc ls st h c p r1) (k2 : ¬ P → OK d k pc ls st h c p r2) : OK d k pc ls st h c p (if P then r1 else r2) := by
  by_cases hP : P
  · rw [if_pos hP]; exact k1 hP
  · rw [if_neg hP]; exact k2 hP
theorem z_br {P : Prop} [hD : Decidable P] {pc1 pc2 : Nat} (hx : ∀ Q, (P → MX d k pc1 ls' st' h Q) → (¬ P → MX d k pc2 ls' st' h Q) → MX d k pc ls st h Q)
    (k1 : P → OK d k pc1 ls' st' h c p r1) (k2 : ¬ P → OK d k pc2 ls' st' h c p r2) : OK d k pc ls st h c p (if P then r1 else r2) := by
  by_cases hP : P
  · rw [if_pos hP]
    exact fun o h' e => ⟨(k1 hP o h' e).1, (k1 hP o h' e).2.1, fun Q hq => hx Q (fun _ => (k1 hP o h' e).2.2 Q hq) (fun n => absurd hP n)⟩
  · rw [if_neg hP]
    exact fun o h' e => ⟨(k2 hP o h' e).1, (k2 hP o h' e).2.1, fun Q hq => hx Q (fun n => absurd n hP) (fun _ => (k2 hP o h' e).2.2 Q hq)⟩
theorem z_sto {K : MH → RS ρ} (e : Ext h h1) (hx : ∀ Q, MX d k pc' ls' st' h1 Q → MX d k pc ls st h Q) (hk : ∀ h2, Ext h h2 → OK d k pc' ls' st' h2 c p (K h2)) : OK d k pc ls st h c p (sto h1 K) :=
  fun o h' f => ⟨e.tr (hk h1 e o h' f).1, (hk h1 e o h' f).2.1, fun Q hq => hx Q ((hk h1 e o h' f).2.2 Q hq)⟩
/-- a call of a method; what it throws goes on -/
theorem z_bnd {K : σ → MH → RS ρ} {r' : RS σ} {en : List MV} {st1 : σ → List MV} (hs : OK d' k' 0 en [] h c' p' r') (ho : ∀ x ∈ tableOf (kH k), covers x pc = false) (hst : ∀ v, (c' v).toList ++ rest = st1 v)
    (hx : ∀ Q' Q, MX d' k' 0 en [] h Q' → (∀ v h', Q' (.inl v) h' → MX d k (pc + 3) ls (v.toList ++ rest) h' Q) → (∀ a h', Q' (.inr a) h' → MT d k pc ls rest a h' Q) → MX d k pc ls st h Q)
    (hk : ∀ v h2, Ext h h2 → p' v → OK d k (pc + 3) ls (st1 v) h2 c p (K v h2)) : OK d k pc ls st h c p (bnd r' K) := by
  intro o h' e
  match hr : r', e with
  | some (.inl v, h2), e =>
    obtain ⟨e1, e2, e3⟩ := hs _ _ rfl
    obtain ⟨f1, f2, f3⟩ := hk v h2 e1 (e2 v rfl) o h' e
    refine ⟨e1.tr f1, f2, fun Q hq => hx (fun o' h'' => rl c' p' (.inl v) h2 o' ∧ h'' = h2) Q (e3 _ fun o' z => ⟨z, rfl⟩) ?_ ?_⟩
    · rintro w h'' ⟨⟨x, hx1, hx2, -⟩, rfl⟩
      cases hx1
      rw [hx2, hst]
      exact f3 Q hq
    · rintro a h'' ⟨⟨te, z, -⟩, -⟩
      cases z
  | some (.inr te, h2), e =>
    obtain ⟨e1, -, e3⟩ := hs _ _ rfl
    cases e
    refine ⟨e1, fun x z => (by cases z), fun Q hq => hx (fun o' h'' => rl c' p' (.inr te) h' o' ∧ h'' = h') Q (e3 _ fun o' z => ⟨z, rfl⟩) ?_ ?_⟩
    · rintro w h'' ⟨⟨x, hx1, -⟩, -⟩
      cases hx1
    · rintro a h'' ⟨⟨te', z, hz⟩, rfl⟩
      cases z
      exact MT.out ho (hq (.inr a) ⟨te, rfl, hz⟩)
/-- a call under a handler -/
theorem z_bndC {K : σ → MH → RS ρ} {H : Nat → MH → RS ρ} {r' : RS σ} {en : List MV} {st1 : σ → List MV} (hs : OK d' k' 0 en [] h c' p' r') (hst : ∀ v, (c' v).toList ++ rest = st1 v)
    (hx : ∀ Q' Q, MX d' k' 0 en [] h Q' → (∀ v h', Q' (.inl v) h' → MX d k (pc + 3) ls (v.toList ++ rest) h' Q) → (∀ a h', Q' (.inr a) h' → MT d k pc ls rest a h' Q) → MX d k pc ls st h Q)
    (hk : ∀ v h2, Ext h h2 → p' v → OK d k (pc + 3) ls (st1 v) h2 c p (K v h2))
    (hc : ∀ te h2 o h', Ext h h2 → H te h2 = some (o, h') → Ext h2 h' ∧ (∀ x, o = .inl x → p x) ∧ ∀ a, h2.1[a]? = some (te, 6) → ∀ Q : MO → MH → Prop, (∀ o', rl c p o h' o' → Q o' h') → MT d k pc ls rest a h2 Q) : OK d k pc ls st h c p (bndC r' K H) := by
  intro o h' e
  match hr : r', e with
  | some (.inl v, h2), e =>
    obtain ⟨e1, e2, e3⟩ := hs _ _ rfl
    obtain ⟨f1, f2, f3⟩ := hk v h2 e1 (e2 v rfl) o h' e
    refine ⟨e1.tr f1, f2, fun Q hq => hx (fun o' h'' => rl c' p' (.inl v) h2 o' ∧ h'' = h2) Q (e3 _ fun o' z => ⟨z, rfl⟩) ?_ ?_⟩
    · rintro w h'' ⟨⟨x, hx1, hx2, -⟩, rfl⟩
      cases hx1
      rw [hx2, hst]
      exact f3 Q hq
    · rintro a h'' ⟨⟨te, z, -⟩, -⟩
      cases z
  | some (.inr te, h2), e =>
    obtain ⟨e1, -, e3⟩ := hs _ _ rfl
    obtain ⟨f1, f2, f3⟩ := hc te h2 o h' e1 e
    refine ⟨e1.tr f1, f2, fun Q hq => hx (fun o' h'' => rl c' p' (.inr te) h2 o' ∧ h'' = h2) Q (e3 _ fun o' z => ⟨z, rfl⟩) ?_ ?_⟩
    · rintro w h'' ⟨⟨x, hx1, -⟩, -⟩
      cases hx1
    · rintro a h'' ⟨⟨te', z, hz⟩, rfl⟩
      cases z
      exact f3 a hz Q hq
/-- one handler: what is thrown has its class -/
theorem z_hand {H : Nat → MH → RS ρ} {te' : Nat} {x : ExceptionTableEntry} {rx : List ExceptionTableEntry} {cls : String} {T0 : u_T} {N : Nat} (htab : tableOf (kH k) = x :: rx) (hcov : covers x pc = true) (h0 : x.catchType ≠ 0) (hcl : mcl[te']? = some (cls, T0, N)) (hte : te' < 100) (hlk : Cond.classLink (kY k).cls x.catchType cls ∈ mTs)
    (hk : ∀ a h2, Ext h h2 → OK d k x.handlerPc ls [mR a] h2 c p (H te' h2)) : ∀ te h2 o h', Ext h h2 → gd (te = te') (H te h2) = some (o, h') → Ext h2 h' ∧ (∀ x, o = .inl x → p x) ∧ ∀ a, h2.1[a]? = some (te, 6) → ∀ Q : MO → MH → Prop, (∀ o', rl c p o h' o' → Q o' h') → MT d k pc ls rest a h2 Q := by
  intro te h2 o h' e f
  obtain ⟨rfl, g⟩ := gd_some f
  exact ⟨(hk 0 h2 e o h' g).1, (hk 0 h2 e o h' g).2.1, fun a ha Q hq => MT.catch1 htab hcov h0 hcl hte ha hlk ((hk a h2 e o h' g).2.2 Q hq)⟩
theorem z_itr {α : Type} {B : (α → RS ρ) → α → RS ρ} {P : α → Prop} {ls : α → List MV} {hp : α → MH} (hB : ∀ self : α → RS ρ, (∀ x, P x → OK d k pc (ls x) st (hp x) c p (self x)) → ∀ x, P x → OK d k pc (ls x) st (hp x) c p (B self x)) :
    ∀ n x, P x → OK d k pc (ls x) st (hp x) c p (itr B n x) := by
  intro n
  induction n with
  | zero => intro x _; exact OK.none
  | succ n ih => exact hB (itr B n) ih
theorem z_reti {x : Int} (hd : decode (kB k) pc = .ok (.ireturn, 1)) (hr : kR k = some .int) (hi : inR x) : OK d k pc ls [mI x] h cI inR (some (.inl x, h)) := by
  rintro o h' ⟨⟩
  exact ⟨.rf, fun y z => (by cases z; exact hi), fun Q hq => x_ireturn hd hr (hq _ ⟨x, rfl, rfl, hi⟩)⟩
def p01 (x : Int) : Prop := x = 0 ∨ x = 1
theorem p01.inR {x : Int} (h : p01 x) : inR x := by rcases h with rfl | rfl <;> exact ⟨by omega, by omega⟩
theorem z_retz {x : Int} (hd : decode (kB k) pc = .ok (.ireturn, 1)) (hr : kR k = some .boolean) (hi : p01 x) : OK d k pc ls [mI x] h cI p01 (some (.inl x, h)) := by
  rintro o h' ⟨⟩
  exact ⟨.rf, fun y z => (by cases z; exact hi), fun Q hq => x_zreturn hd hr hi (hq _ ⟨x, rfl, rfl, hi⟩)⟩
theorem z_retj {x : Int64} (hd : decode (kB k) pc = .ok (.lreturn, 1)) (hr : kR k = some .long) : OK d k pc ls [mL x] h cJ pT (some (.inl x, h)) := by
  rintro o h' ⟨⟩
  exact ⟨.rf, fun y z => trivial, fun Q hq => x_lreturn hd hr (hq _ ⟨x, rfl, rfl, trivial⟩)⟩
theorem z_retv (hd : decode (kB k) pc = .ok (.return_, 1)) (hr : kR k = none) : OK d k pc ls [] h cV pT (some (.inl (), h)) := by
  rintro o h' ⟨⟩
  exact ⟨.rf, fun y z => trivial, fun Q hq => x_return hd hr (hq _ ⟨(), rfl, rfl, trivial⟩)⟩
theorem z_reta {a : Nat} {nm : String} (hd : decode (kB k) pc = .ok (.areturn, 1)) (hr : kR k = some (.object nm)) : OK d k pc ls [mR a] h cA pT (some (.inl a, h)) := by
  rintro o h' ⟨⟩
  exact ⟨.rf, fun y z => trivial, fun Q hq => x_areturn hd hr (hq _ ⟨a, rfl, rfl, trivial⟩)⟩
theorem z_thr {idx ic te : Nat} {cls : String} {names : List String} (hd0 : decode (kB k) pc = .ok (.new idx, 3)) (hd1 : decode (kB k) (pc + 3) = .ok (.dup, 1)) (hd2 : decode (kB k) (pc + 4) = .ok (.invokespecial ic, 3)) (hd3 : decode (kB k) (pc + 7) = .ok (.athrow, 1)) (hE : eOK (kY k).cls idx ic te cls names)
    (ho : ∀ x ∈ tableOf (kH k), covers x (pc + 7) = false) (hcat : (st.map catM).sum ≤ 16) : OK d k pc ls st h c p (thr te h) := by
  intro o h' e
  obtain ⟨hm, e⟩ := gd_some e
  cases e
  refine ⟨.new, fun x z => (by cases z), fun Q hq => x_newE hd0 hd1 hd2 hE hm.1 hm.2 hcat (x_athrow hd3 (MT.out ho (hq (.inr h.1.length) ⟨te, rfl, ?_⟩)))⟩
  show (h.1 ++ [(te, 6)])[h.1.length]? = some (te, 6)
  rw [List.getElem?_append_right (Nat.le_refl _), Nat.sub_self]
  rfl
theorem OK.up (hd : d ≤ d') (hk : OK d k pc ls st h c p r) : OK d' k pc ls st h c p r := fun o h' e => ⟨(hk o h' e).1, (hk o h' e).2.1, fun Q hq => ((hk o h' e).2.2 Q hq).up hd⟩
theorem z_brn {P : Prop} [hD : Decidable P] {pc1 pc2 : Nat} (hx : ∀ Q, (¬ P → MX d k pc1 ls' st' h Q) → (¬ ¬ P → MX d k pc2 ls' st' h Q) → MX d k pc ls st h Q)
    (k1 : P → OK d k pc2 ls' st' h c p r1) (k2 : ¬ P → OK d k pc1 ls' st' h c p r2) : OK d k pc ls st h c p (if P then r1 else r2) := by
  by_cases hP : P
  · rw [if_pos hP]
    exact fun o h' e => ⟨(k1 hP o h' e).1, (k1 hP o h' e).2.1, fun Q hq => hx Q (fun n => absurd hP n) (fun _ => (k1 hP o h' e).2.2 Q hq)⟩
  · rw [if_neg hP]
    exact fun o h' e => ⟨(k2 hP o h' e).1, (k2 hP o h' e).2.1, fun Q hq => hx Q (fun _ => (k2 hP o h' e).2.2 Q hq) (fun n => absurd hP n)⟩
/-- locals may be forgotten -/
def fgt : List MV → List MV → Prop
  | [], [] => True
  | x :: xs, y :: ys => (isN y = true ∨ x = y) ∧ fgt xs ys
  | _, _ => False
theorem fgt.at : ∀ {ls ls' : List MV}, fgt ls ls' → ls'.length = ls.length ∧ ∀ (i : Nat) (v : MV), ls'[i]? = some v → isN v = false → ls[i]? = some v
  | [], [], _ => ⟨rfl, fun i v e => by simp at e⟩
  | x :: xs, y :: ys, hf => by
    obtain ⟨h1, h2⟩ := hf
    obtain ⟨g1, g2⟩ := fgt.at h2
    refine ⟨by simp [g1], fun i v e hn => ?_⟩
    cases i with
    | zero =>
      simp only [List.getElem?_cons_zero] at e ⊢
      cases e
      rcases h1 with h1 | h1
      · rw [h1] at hn; cases hn
      · rw [h1]
    | succ i => exact g2 i v e hn
  | [], _ :: _, hf => hf.elim
  | _ :: _, [], hf => hf.elim
theorem MX.forget {Q : MO → MH → Prop} (hf : fgt ls ls') (hx : MX d k pc ls' st h Q) : MX d k pc ls st h Q := by
  intro l G p e R s m args below meth c H locs cells slots LS c0 s0 hl C P L h1 h2 h3 h4
  obtain ⟨g1, g2⟩ := hf.at
  exact hx l G p e R s m args below meth c H locs cells slots LS c0 s0 hl C P ⟨L.1, L.2.1, g1.trans L.2.2.1, fun i v e hn => L.2.2.2 i v (g2 i v e hn) hn⟩ h1 h2 h3 h4
theorem z_fgt (hf : fgt ls ls') (hk : OK d k pc ls' st h c p r) : OK d k pc ls st h c p r := z_go (fun _ => MX.forget hf) hk
/-! ints in range -/
theorem inR_lgI (x y : Int64) : inR (lgI x y) := by
  unfold lgI
  split
  · exact ⟨by omega, by omega⟩
  · split <;> exact ⟨by omega, by omega⟩
theorem inR_32 (x : Int32) : inR x.toInt := ⟨by have := Int32.le_toInt x; omega, by have := Int32.toInt_lt x; omega⟩
def iAnd (x y : Int) : Int := (Int32.ofInt x &&& Int32.ofInt y).toInt
def iOr (x y : Int) : Int := (Int32.ofInt x ||| Int32.ofInt y).toInt
def iXor (x y : Int) : Int := (Int32.ofInt x ^^^ Int32.ofInt y).toInt
def iShl (x y : Int) : Int := (Int32.ofInt x <<< (Int32.ofInt y &&& 31)).toInt
def iShr (x y : Int) : Int := (Int32.ofInt x >>> (Int32.ofInt y &&& 31)).toInt
theorem inR_and (x y : Int) : inR (iAnd x y) := inR_32 _
theorem inR_or (x y : Int) : inR (iOr x y) := inR_32 _
theorem inR_xor (x y : Int) : inR (iXor x y) := inR_32 _
theorem inR_shl (x y : Int) : inR (iShl x y) := inR_32 _
theorem inR_shr (x y : Int) : inR (iShr x y) := inR_32 _
theorem inR_min {x y : Int} (hx : inR x) (hy : inR y) : inR (min x y) := by unfold inR at *; omega
theorem inR_max {x y : Int} (hx : inR x) (hy : inR y) : inR (max x y) := by unfold inR at *; omega
theorem inR_div {x y : Int} (hx : inR x) (h0 : 0 ≤ x) (h1 : 0 < y) : inR (x / y) := by
  have := Int.ediv_le_self y h0
  have := Int.ediv_nonneg h0 (Int.le_of_lt h1)
  unfold inR at *; omega
theorem inR_mod {x y : Int} (hy : inR y) (h1 : 0 < y) : inR (x % y) := by
  have := Int.emod_nonneg x (show y ≠ 0 by omega)
  have := Int.emod_lt_of_pos x h1
  unfold inR at *; omega
theorem ofI_32 (x : Int32) : x = Int32.ofInt x.toInt := (Int32.ofInt_toInt x).symm
theorem inR_lit (x : Int) (h : (decide (-2147483648 ≤ x) && decide (x < 2147483648)) = true) : inR x := by
  rw [Bool.and_eq_true] at h
  exact ⟨of_decide_eq_true h.1, of_decide_eq_true h.2⟩
theorem ch_lit (x : Int) (h : (decide (0 ≤ x) && decide (x < 65536)) = true) : 0 ≤ x ∧ x < 65536 := by
  rw [Bool.and_eq_true] at h
  exact ⟨of_decide_eq_true h.1, of_decide_eq_true h.2⟩
theorem inR_ch {x : Int} (h : 0 ≤ x ∧ x < 65536) : inR x := ⟨by omega, by omega⟩
theorem inR_mn {x y : Int} (hx : inR x) (hy : inR y) : inR (if y < x then y else x) := by split <;> assumption
theorem inR_mx {x y : Int} (hx : inR x) (hy : inR y) : inR (if x < y then y else x) := by split <;> assumption
theorem inR_abs {x : Int} (hx : inR x) (h : -2147483648 < x) : inR (if 0 ≤ x then x else 0 - x) := by
  unfold inR at *
  split <;> omega
theorem inR_nat {n : Nat} (h : n < 2147483648) : inR (n : Int) := ⟨by omega, by omega⟩
theorem x_andI {Q : MO → MH → Prop} {x y : Int} (hd : decode (kB k) pc = .ok (.iand, 1)) (hx : MX d k (pc + 1) ls (mI (iAnd x y) :: st) h Q) : MX d k pc ls (mI y :: mI x :: st) h Q := x_iand hd (ofI_32 _) hx
theorem x_orI {Q : MO → MH → Prop} {x y : Int} (hd : decode (kB k) pc = .ok (.ior, 1)) (hx : MX d k (pc + 1) ls (mI (iOr x y) :: st) h Q) : MX d k pc ls (mI y :: mI x :: st) h Q := x_ior hd (ofI_32 _) hx
theorem x_xorI {Q : MO → MH → Prop} {x y : Int} (hd : decode (kB k) pc = .ok (.ixor, 1)) (hx : MX d k (pc + 1) ls (mI (iXor x y) :: st) h Q) : MX d k pc ls (mI y :: mI x :: st) h Q := x_ixor hd (ofI_32 _) hx
theorem x_shlI {Q : MO → MH → Prop} {x y : Int} (hd : decode (kB k) pc = .ok (.ishl, 1)) (hx : MX d k (pc + 1) ls (mI (iShl x y) :: st) h Q) : MX d k pc ls (mI y :: mI x :: st) h Q := x_ishl hd (ofI_32 _) hx
theorem x_shrI {Q : MO → MH → Prop} {x y : Int} (hd : decode (kB k) pc = .ok (.ishr, 1)) (hx : MX d k (pc + 1) ls (mI (iShr x y) :: st) h Q) : MX d k pc ls (mI y :: mI x :: st) h Q := x_ishr hd (ofI_32 _) hx
theorem x_copyCI {Q : MO → MH → Prop} {idx a b na nb : Nat} {sp dp n : Int} (hd : decode (kB k) pc = .ok (.invokestatic idx, 3)) (hlk : Cond.methodLink (kY k).cls idx arraycopyName ∈ mTs)
    (ha : h.1[a]? = some (101, na)) (hb : h.1[b]? = some (101, nb)) (hg : 0 ≤ sp ∧ 0 ≤ dp ∧ 0 ≤ n ∧ sp + n ≤ na ∧ dp + n ≤ nb) (hn1 : na < 2147483648) (hn2 : nb < 2147483648) (hr : Rng h) (hcat : (st.map catM).sum ≤ 16)
    (hx : MX d k (pc + 3) ls st (mCpI h a b sp.toNat dp.toNat n.toNat) Q) : MX d k pc ls (mI n :: mI dp :: mR b :: mI sp :: mR a :: st) h Q := by
  obtain ⟨h1, h2, h3, h4, h5⟩ := hg
  obtain ⟨sp, rfl⟩ := Int.eq_ofNat_of_zero_le h1
  obtain ⟨dp, rfl⟩ := Int.eq_ofNat_of_zero_le h2
  obtain ⟨n, rfl⟩ := Int.eq_ofNat_of_zero_le h3
  exact x_copyC hd hlk cp_na cp_st cp_iz ha hb (by omega) (by omega) hn1 hn2 (fun i _ => hr.2 a na _ ha) hcat hx
theorem x_copyJI {Q : MO → MH → Prop} {idx a b na nb : Nat} {sp dp n : Int} (hd : decode (kB k) pc = .ok (.invokestatic idx, 3)) (hlk : Cond.methodLink (kY k).cls idx arraycopyName ∈ mTs)
    (ha : h.1[a]? = some (103, na)) (hb : h.1[b]? = some (103, nb)) (hg : 0 ≤ sp ∧ 0 ≤ dp ∧ 0 ≤ n ∧ sp + n ≤ na ∧ dp + n ≤ nb) (hn1 : na < 2147483648) (hn2 : nb < 2147483648) (hcat : (st.map catM).sum ≤ 16)
    (hx : MX d k (pc + 3) ls st (mCpL h a b sp.toNat dp.toNat n.toNat) Q) : MX d k pc ls (mI n :: mI dp :: mR b :: mI sp :: mR a :: st) h Q := by
  obtain ⟨h1, h2, h3, h4, h5⟩ := hg
  obtain ⟨sp, rfl⟩ := Int.eq_ofNat_of_zero_le h1
  obtain ⟨dp, rfl⟩ := Int.eq_ofNat_of_zero_le h2
  obtain ⟨n, rfl⟩ := Int.eq_ofNat_of_zero_le h3
  exact x_copyJ hd hlk cp_na cp_st cp_iz ha hb (by omega) (by omega) hn1 hn2 hcat hx
end Ok
