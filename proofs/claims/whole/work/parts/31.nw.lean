section NW
variable {d : Nat} {k : MK} {pc : Nat} {ls st : List MV} {h : MH} {Q : MO → MH → Prop}
/-- a new cell at L, the number of cells so far -/
def mNw (h : MH) (L t n : Nat) : MH := (h.1 ++ [(t, n)], (fun b j => if b = L then 0 else h.2.1 b j), (fun b j => if b = L then 0 else h.2.2.1 b j), (fun b j => if b = L then none else h.2.2.2.1 b j), h.2.2.2.2)
theorem mNw_eq {L t n : Nat} (hl : h.1.length = L) : mNew h t n = mNw h L t n := by subst hl; rfl
theorem len_nw {L t n : Nat} (hl : h.1.length = L) : (mNw h L t n).1.length = L + 1 := by
  show (h.1 ++ [(t, n)]).length = L + 1
  rw [List.length_append, hl]
  rfl
theorem slt_nw {L S t n : Nat} (hs : mSlt h = S) : mSlt (mNw h L t n) = S + n := by
  rw [← hs]
  unfold mSlt mNw
  rw [List.map_append, List.sum_append]
  rfl
theorem sh_nw {L t n a : Nat} {x : Nat × Nat} (ha : h.1[a]? = some x) : (mNw h L t n).1[a]? = some x := sh_new ha
theorem sh_nwl {L t n : Nat} (hl : h.1.length = L) : (mNw h L t n).1[L]? = some (t, n) := by subst hl; exact sh_last
theorem gi_nwL {L t n b j : Nat} : mGi (mNw h L t n) b j = if b = L then 0 else mGi h b j := rfl
theorem gl_nwL {L t n b j : Nat} : mGl (mNw h L t n) b j = if b = L then 0 else mGl h b j := rfl
theorem gr_nwL {L t n b j : Nat} : mGr (mNw h L t n) b j = if b = L then none else mGr h b j := rfl
theorem y_new {idx t N L S : Nat} (hd : decode (kB k) pc = .ok (.new idx, 3)) (hn : nOK (kY k).cls idx t N) (ht : t < 100) (hl : h.1.length = L) (hs : mSlt h = S) (hm : L < mCM ∧ S + N ≤ mSM) (hx : MX d k (pc + 3) ls (mR L :: st) (mNw h L t N) Q) : MX d k pc ls st h Q :=
  x_new hd hn ht (by rw [hl]; exact hm.1) (by rw [hs]; exact hm.2) (by rw [mNw_eq hl, hl]; exact hx)
theorem y_newaI {N L S : Nat} {n : Int} {at' : ArrayType} (hd : decode (kB k) pc = .ok (.newarray at', 2)) (hat : newarray.typeOf at' = .int) (hN : n = (N : Int)) (hb : N ≤ 60000000) (hl : h.1.length = L) (hs : mSlt h = S) (hm : L < mCM ∧ S + N ≤ mSM) (hx : MX d k (pc + 2) ls (mR L :: st) (mNw h L 100 N) Q) : MX d k pc ls (mI n :: st) h Q :=
  x_newaI hd hat ac_I hN hb (by rw [hl]; exact hm.1) (by rw [hs]; exact hm.2) (by rw [mNw_eq hl, hl]; exact hx)
theorem y_newaC {N L S : Nat} {n : Int} {at' : ArrayType} (hd : decode (kB k) pc = .ok (.newarray at', 2)) (hat : newarray.typeOf at' = .char) (hN : n = (N : Int)) (hb : N ≤ 60000000) (hl : h.1.length = L) (hs : mSlt h = S) (hm : L < mCM ∧ S + N ≤ mSM) (hx : MX d k (pc + 2) ls (mR L :: st) (mNw h L 101 N) Q) : MX d k pc ls (mI n :: st) h Q :=
  x_newaC hd hat ac_C hN hb (by rw [hl]; exact hm.1) (by rw [hs]; exact hm.2) (by rw [mNw_eq hl, hl]; exact hx)
theorem y_newaZ {N L S : Nat} {n : Int} {at' : ArrayType} (hd : decode (kB k) pc = .ok (.newarray at', 2)) (hat : newarray.typeOf at' = .boolean) (hN : n = (N : Int)) (hb : N ≤ 60000000) (hl : h.1.length = L) (hs : mSlt h = S) (hm : L < mCM ∧ S + N ≤ mSM) (hx : MX d k (pc + 2) ls (mR L :: st) (mNw h L 102 N) Q) : MX d k pc ls (mI n :: st) h Q :=
  x_newaZ hd hat ac_Z hN hb (by rw [hl]; exact hm.1) (by rw [hs]; exact hm.2) (by rw [mNw_eq hl, hl]; exact hx)
theorem y_newaJ {N L S : Nat} {n : Int} {at' : ArrayType} (hd : decode (kB k) pc = .ok (.newarray at', 2)) (hat : newarray.typeOf at' = .long) (hN : n = (N : Int)) (hb : N ≤ 60000000) (hl : h.1.length = L) (hs : mSlt h = S) (hm : L < mCM ∧ S + N ≤ mSM) (hx : MX d k (pc + 2) ls (mR L :: st) (mNw h L 103 N) Q) : MX d k pc ls (mI n :: st) h Q :=
  x_newaJ hd hat ac_J hN hb (by rw [hl]; exact hm.1) (by rw [hs]; exact hm.2) (by rw [mNw_eq hl, hl]; exact hx)
theorem y_anew {N L S idx t : Nat} {n : Int} {Cn : String} (hd : decode (kB k) pc = .ok (.anewarray idx, 3)) (ht : t = 110 ∨ t = 111) (hC : mAty t = .object Cn) (hlk : Cond.classLink (kY k).cls idx Cn ∈ mTs) (hov : Cond.arrayOver (.object Cn) ∈ mTs) (hN : n = (N : Int)) (hb : N ≤ 60000000) (hl : h.1.length = L) (hs : mSlt h = S) (hm : L < mCM ∧ S + N ≤ mSM) (hx : MX d k (pc + 3) ls (mR L :: st) (mNw h L t N) Q) : MX d k pc ls (mI n :: st) h Q :=
  x_anew hd ht hC hlk hov hN hb (by rw [hl]; exact hm.1) (by rw [hs]; exact hm.2) (by rw [mNw_eq hl, hl]; exact hx)
theorem c_LeA {a N L S : Nat} (ha : h.1[a]? = some (1, 3)) (hN : N ≤ 60000) (hl : h.1.length = L) (hs : mSlt h = S) (hm : L < mCM ∧ S + N ≤ mSM) : CD 1 k_Le_init [mR a, mI (N : Int)] h none (mPr (mNw h L 101 N) a 0 (some L)) := by
  have z := c_Le_init (N := N) ha hN (by rw [hl]; exact hm.1) (by rw [hs]; exact hm.2)
  unfold hLe at z
  rw [mNw_eq hl, hl] at z
  exact z
end NW
