section MXDet
variable {d d' : Nat} {k k' : MK} {pc : Nat} {ls st rest as : List MV} {h h1 : MH} {Q Q' : MO → MH → Prop} {v : Option MV}
theorem MX.mono (hq : ∀ o h', Q o h' → Q' o h') (hx : MX d k pc ls st h Q) : MX d k pc ls st h Q' := by
  intro l G p e R s m args below meth c H locs cells slots LS c0 s0 hl C P L h1 h2 h3 h4
  refine W.mono (fun t ht => ?_) (hx l G p e R s m args below meth c H locs cells slots LS c0 s0 hl C P L h1 h2 h3 h4)
  obtain ⟨o, h', L', ck, sk, a1, a2, a3, a4, a5, a6, a7, a8⟩ := ht
  exact ⟨o, h', L', ck, sk, a1, a2, a3, a4, a5, a6, a7, hq o h' a8⟩
theorem MX.up (hd : d ≤ d') (hx : MX d k pc ls st h Q) : MX d' k pc ls st h Q := by
  intro l G p e R s m args below meth c H locs cells slots LS c0 s0 hl C P L h1 h2 h3 h4
  obtain ⟨b1, b2, b3, b4, b5, b6, b7, b8, b9, b10, b11, b12, b13⟩ := C
  exact hx l G p e R s m args below meth c H locs cells slots LS c0 s0 hl ⟨b1, b2, b3, b4, b5, b6, b7, b8, b9, b10, by unfold mFr at *; omega, by unfold mLo at *; omega, b13⟩ P L h1 h2 h3 h4
/-- a contract: from these locals and this heap the method returns v, and the heap is h1 -/
def CD (d : Nat) (k : MK) (ls : List MV) (h : MH) (v : Option MV) (h1 : MH) : Prop := ∀ Q : MO → MH → Prop, Q (.inl v) h1 → MX d k 0 ls [] h Q
theorem CD.use (hc : CD d k ls h v h1) : MX d k 0 ls [] h (fun o h' => o = .inl v ∧ h' = h1) := hc _ ⟨rfl, rfl⟩
theorem x_dS {idx : Nat} (hd : decode (kB k) pc = .ok (.invokestatic idx, 3)) (hk' : kOK k' as.length) (hlk : Cond.methodLink (kY k).cls idx (kY k') ∈ mTs) (hst : Cond.static (kY k') ∈ mTs) (hen : (mEnL as).length ≤ kL k') (hdd : d' + 1 ≤ d) (hcat : (rest.map catM).sum ≤ 16) (hx : CD d' k' (mEn k' as) h v h1) (hn : MX d k (pc + 3) ls (v.toList ++ rest) h1 Q) : MX d k pc ls (as.reverse ++ rest) h Q :=
  x_callS hd hk' hlk hst hen hdd hcat hx.use (by rintro v' h' ⟨e, rfl⟩; cases e; exact hn) (by rintro a h' ⟨e, -⟩; cases e)
theorem x_dSN {idx : Nat} {host : String} (hd : decode (kB k) pc = .ok (.invokestatic idx, 3)) (hk' : kOK k' as.length) (hlk : Cond.methodLinkNest (kY k).cls idx (kY k') host ∈ mTs) (hst : Cond.static (kY k') ∈ mTs) (hen : (mEnL as).length ≤ kL k') (hdd : d' + 1 ≤ d) (hcat : (rest.map catM).sum ≤ 16) (hx : CD d' k' (mEn k' as) h v h1) (hn : MX d k (pc + 3) ls (v.toList ++ rest) h1 Q) : MX d k pc ls (as.reverse ++ rest) h Q :=
  x_callSN hd hk' hlk hst hen hdd hcat hx.use (by rintro v' h' ⟨e, rfl⟩; cases e; exact hn) (by rintro a h' ⟨e, -⟩; cases e)
theorem x_dV {idx a t n : Nat} {Cn : String} {T0 : u_T} {N : Nat} (hd : decode (kB k) pc = .ok (.invokevirtual idx, 3)) (hk' : kOK k' as.length) (hlk : Cond.methodLink (kY k).cls idx (kY k') ∈ mTs) (hst : Cond.instanceMethod (kY k') ∈ mTs) (hsel : Cond.selects Cn (kY k') (kY k') ∈ mTs) (hc : mcl[t]? = some (Cn, T0, N)) (ha : h.1[a]? = some (t, n)) (ht : t < 100)
    (hen : (mEnL (mR a :: as)).length ≤ kL k') (hdd : d' + 1 ≤ d) (hcat : (rest.map catM).sum ≤ 16) (hx : CD d' k' (mEn k' (mR a :: as)) h v h1) (hn : MX d k (pc + 3) ls (v.toList ++ rest) h1 Q) : MX d k pc ls (as.reverse ++ mR a :: rest) h Q :=
  x_callV hd hk' hlk hst hsel hc ha ht hen hdd hcat hx.use (by rintro v' h' ⟨e, rfl⟩; cases e; exact hn) (by rintro a h' ⟨e, -⟩; cases e)
theorem x_dI {idx a : Nat} (hd : decode (kB k) pc = .ok (.invokespecial idx, 3)) (hk' : kOK k' as.length) (hkh : kH k' = []) (hkr : kR k' = none) (hin : (kY k').name = "<init>") (hlk : Cond.methodLink (kY k).cls idx (kY k') ∈ mTs) (hst : Cond.instanceMethod (kY k') ∈ mTs) (hen : (mEnL (mR a :: as)).length ≤ kL k') (hdd : d' + 1 ≤ d) (hcat : (rest.map catM).sum ≤ 16)
    (hx : CD d' k' (mEn k' (mR a :: as)) h v h1) (hn : MX d k (pc + 3) ls (v.toList ++ rest) h1 Q) : MX d k pc ls (as.reverse ++ mR a :: rest) h Q :=
  x_callI hd hk' hkh hkr hin hlk hst hen hdd hcat hx.use (by rintro v' h' ⟨e, rfl⟩; cases e; exact hn) (by rintro a h' ⟨e, -⟩; cases e)
theorem x_dIN {idx a : Nat} {host : String} (hd : decode (kB k) pc = .ok (.invokespecial idx, 3)) (hk' : kOK k' as.length) (hkh : kH k' = []) (hkr : kR k' = none) (hin : (kY k').name = "<init>") (hlk : Cond.methodLinkNest (kY k).cls idx (kY k') host ∈ mTs) (hst : Cond.instanceMethod (kY k') ∈ mTs) (hen : (mEnL (mR a :: as)).length ≤ kL k') (hdd : d' + 1 ≤ d) (hcat : (rest.map catM).sum ≤ 16)
    (hx : CD d' k' (mEn k' (mR a :: as)) h v h1) (hn : MX d k (pc + 3) ls (v.toList ++ rest) h1 Q) : MX d k pc ls (as.reverse ++ mR a :: rest) h Q :=
  x_callIN hd hk' hkh hkr hin hlk hst hen hdd hcat hx.use (by rintro v' h' ⟨e, rfl⟩; cases e; exact hn) (by rintro a h' ⟨e, -⟩; cases e)
end MXDet
