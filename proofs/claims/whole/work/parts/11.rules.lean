section MXR
variable {d : Nat} {k : MK} {pc : Nat} {ls st : List MV} {h : MH} {Q : MO → MH → Prop}
theorem MX.go {pc' : Nat} {st' : List MV}
    (hg : ∀ (l : Launch) (G : MG) (p : Program) (e : Env) (R : Room) (s : State) (m : MethodId) (args : Array Value) (below : List Frame) (meth : Method) (c : Code) (H : Heap) (locs : List Loc) (cells slots : Nat) (LS : Array Slot) (Qf : State → Prop),
      mC G d k p R s m args meth c → mLs G (kL k) LS ls → W p l e R s m args below meth c H locs cells slots Qf (F0 m pc' LS (st'.map (rz G))) → W p l e R s m args below meth c H locs cells slots Qf (F0 m pc LS (st.map (rz G))))
    (hx : MX d k pc' ls st' h Q) : MX d k pc ls st h Q :=
  fun l G p e R s m args below meth c H locs cells slots LS c0 s0 hl C P L h1 h2 h3 h4 => hg l G p e R s m args below meth c H locs cells slots LS _ C L (hx l G p e R s m args below meth c H locs cells slots LS c0 s0 hl C P L h1 h2 h3 h4)
/-- a branch -/
theorem MX.br {P : Prop} {pc1 pc2 : Nat} {st' : List MV}
    (hg : ∀ (l : Launch) (G : MG) (p : Program) (e : Env) (R : Room) (s : State) (m : MethodId) (args : Array Value) (below : List Frame) (meth : Method) (c : Code) (H : Heap) (locs : List Loc) (cells slots : Nat) (LS : Array Slot) (Qf : State → Prop),
      mC G d k p R s m args meth c → (P → W p l e R s m args below meth c H locs cells slots Qf (F0 m pc1 LS (st'.map (rz G)))) → (¬ P → W p l e R s m args below meth c H locs cells slots Qf (F0 m pc2 LS (st'.map (rz G)))) → W p l e R s m args below meth c H locs cells slots Qf (F0 m pc LS (st.map (rz G))))
    (ht : P → MX d k pc1 ls st' h Q) (hf : ¬ P → MX d k pc2 ls st' h Q) : MX d k pc ls st h Q :=
  fun l G p e R s m args below meth c H locs cells slots LS c0 s0 hl C Pp L h1 h2 h3 h4 => hg l G p e R s m args below meth c H locs cells slots LS _ C
    (fun hp => ht hp l G p e R s m args below meth c H locs cells slots LS c0 s0 hl C Pp L h1 h2 h3 h4) (fun hp => hf hp l G p e R s m args below meth c H locs cells slots LS c0 s0 hl C Pp L h1 h2 h3 h4)
theorem x_iconst {n : Int} (hd : decode (kB k) pc = .ok (.iconst n, 1)) (hx : MX d k (pc + 1) ls (mI n :: st) h Q) : MX d k pc ls st h Q :=
  MX.go (fun _ _ _ _ _ _ _ _ _ _ _ _ _ _ _ _ _ C L w => lv_iconst C.1 C.2.1 hd rfl w) hx
theorem x_bipush {n : Int} (hd : decode (kB k) pc = .ok (.bipush n, 2)) (hn : (Int8.ofInt n).toInt32 = Int32.ofInt n) (hx : MX d k (pc + 2) ls (mI n :: st) h Q) : MX d k pc ls st h Q :=
  MX.go (fun _ _ _ _ _ _ _ _ _ _ _ _ _ _ _ _ _ C L w => lv_bipush C.1 C.2.1 hd hn w) hx
theorem x_sipush {n : Int} (hd : decode (kB k) pc = .ok (.sipush n, 3)) (hn : (Int16.ofInt n).toInt32 = Int32.ofInt n) (hx : MX d k (pc + 3) ls (mI n :: st) h Q) : MX d k pc ls st h Q :=
  MX.go (fun _ _ _ _ _ _ _ _ _ _ _ _ _ _ _ _ _ C L w => lv_sipush C.1 C.2.1 hd hn w) hx
theorem x_lconst {n : Fin 2} {v : Int64} (hd : decode (kB k) pc = .ok (.lconst n, 1)) (hv : Int64.ofNat (n : Nat) = v) (hx : MX d k (pc + 1) ls (mL v :: st) h Q) : MX d k pc ls st h Q :=
  MX.go (fun _ _ _ _ _ _ _ _ _ _ _ _ _ _ _ _ _ C L w => lv_lconst C.1 C.2.1 hd hv w) hx
theorem x_ldc {i : Nat} {n : Int} {v : Int32} (hd : decode (kB k) pc = .ok (.ldc i, 2)) (hc : Cond.constant (kY k).cls i v ∈ mTs) (hv : v = Int32.ofInt n) (hx : MX d k (pc + 2) ls (mI n :: st) h Q) : MX d k pc ls st h Q :=
  MX.go (fun _ _ _ _ _ _ _ _ _ _ _ _ _ _ _ _ _ C L w => lv_ldc C.1 C.2.1 C.2.2.2.2.2.1 (C.2.2.2.2.2.2.1 _ hc) hd (by subst hv; exact w)) hx
theorem x_ldc2 {i : Nat} {v : Int64} (hd : decode (kB k) pc = .ok (.ldc2_w i, 3)) (hc : Cond.constantLong (kY k).cls i v ∈ mTs) (hx : MX d k (pc + 3) ls (mL v :: st) h Q) : MX d k pc ls st h Q :=
  MX.go (fun _ _ _ _ _ _ _ _ _ _ _ _ _ _ _ _ _ C L w => lv_ldc2 C.1 C.2.1 C.2.2.2.2.2.1 (C.2.2.2.2.2.2.1 _ hc) hd w) hx
theorem x_null (hd : decode (kB k) pc = .ok (.aconst_null, 1)) (hx : MX d k (pc + 1) ls (mN :: st) h Q) : MX d k pc ls st h Q :=
  MX.go (fun _ _ _ _ _ _ _ _ _ _ _ _ _ _ _ _ _ C L w => lv_null C.1 C.2.1 hd w) hx
theorem x_iload_n {i : Fin 4} {j : Nat} {x : Int} (hd : decode (kB k) pc = .ok (.iload_n i, 1)) (hj : (i : Nat) = j) (hl : ls[j]? = some (mI x)) (hx : MX d k (pc + 1) ls (mI x :: st) h Q) : MX d k pc ls st h Q :=
  MX.go (fun _ _ _ _ _ _ _ _ _ _ _ _ _ _ _ _ _ C L w => lv_iload_n C.1 C.2.1 hd hj (L.2.2.2 _ _ hl rfl) w) hx
theorem x_iload {j : Nat} {x : Int} (hd : decode (kB k) pc = .ok (.iload j, 2)) (hl : ls[j]? = some (mI x)) (hx : MX d k (pc + 2) ls (mI x :: st) h Q) : MX d k pc ls st h Q :=
  MX.go (fun _ _ _ _ _ _ _ _ _ _ _ _ _ _ _ _ _ C L w => lv_iload C.1 C.2.1 hd (L.2.2.2 _ _ hl rfl) w) hx
theorem x_lload_n {i : Fin 4} {j : Nat} {x : Int64} (hd : decode (kB k) pc = .ok (.lload_n i, 1)) (hj : (i : Nat) = j) (hl : ls[j]? = some (mL x)) (hx : MX d k (pc + 1) ls (mL x :: st) h Q) : MX d k pc ls st h Q :=
  MX.go (fun _ _ _ _ _ _ _ _ _ _ _ _ _ _ _ _ _ C L w => lv_lload_n C.1 C.2.1 hd hj (L.2.2.2 _ _ hl rfl) w) hx
theorem x_lload {j : Nat} {x : Int64} (hd : decode (kB k) pc = .ok (.lload j, 2)) (hl : ls[j]? = some (mL x)) (hx : MX d k (pc + 2) ls (mL x :: st) h Q) : MX d k pc ls st h Q :=
  MX.go (fun _ _ _ _ _ _ _ _ _ _ _ _ _ _ _ _ _ C L w => lv_lload C.1 C.2.1 hd (L.2.2.2 _ _ hl rfl) w) hx
theorem x_aload_n {i : Fin 4} {j : Nat} {x : Nat} (hd : decode (kB k) pc = .ok (.aload_n i, 1)) (hj : (i : Nat) = j) (hl : ls[j]? = some (mR x)) (hx : MX d k (pc + 1) ls (mR x :: st) h Q) : MX d k pc ls st h Q :=
  MX.go (fun _ _ _ _ _ _ _ _ _ _ _ _ _ _ _ _ _ C L w => lv_aload_n C.1 C.2.1 hd hj (L.2.2.2 _ _ hl rfl) w) hx
theorem x_aload {j : Nat} {x : Nat} (hd : decode (kB k) pc = .ok (.aload j, 2)) (hl : ls[j]? = some (mR x)) (hx : MX d k (pc + 2) ls (mR x :: st) h Q) : MX d k pc ls st h Q :=
  MX.go (fun _ _ _ _ _ _ _ _ _ _ _ _ _ _ _ _ _ C L w => lv_aload C.1 C.2.1 hd (L.2.2.2 _ _ hl rfl) w) hx
theorem x_sload_n {i : Fin 4} {j : Nat} {x : Nat} (hd : decode (kB k) pc = .ok (.aload_n i, 1)) (hj : (i : Nat) = j) (hl : ls[j]? = some (mS x)) (hx : MX d k (pc + 1) ls (mS x :: st) h Q) : MX d k pc ls st h Q :=
  MX.go (fun _ _ _ _ _ _ _ _ _ _ _ _ _ _ _ _ _ C L w => lv_aload_n C.1 C.2.1 hd hj (L.2.2.2 _ _ hl rfl) w) hx
theorem x_sload {j : Nat} {x : Nat} (hd : decode (kB k) pc = .ok (.aload j, 2)) (hl : ls[j]? = some (mS x)) (hx : MX d k (pc + 2) ls (mS x :: st) h Q) : MX d k pc ls st h Q :=
  MX.go (fun _ _ _ _ _ _ _ _ _ _ _ _ _ _ _ _ _ C L w => lv_aload C.1 C.2.1 hd (L.2.2.2 _ _ hl rfl) w) hx
theorem x_iadd {x y : Int} (hd : decode (kB k) pc = .ok (.iadd, 1)) (hx : MX d k (pc + 1) ls (mI (x + y) :: st) h Q) : MX d k pc ls (mI y :: mI x :: st) h Q :=
  MX.go (fun _ _ _ _ _ _ _ _ _ _ _ _ _ _ _ _ _ C L w => lv_iadd C.1 C.2.1 hd (by rw [← Int32.ofInt_add]; exact w)) hx
theorem x_isub {x y : Int} (hd : decode (kB k) pc = .ok (.isub, 1)) (hx : MX d k (pc + 1) ls (mI (x - y) :: st) h Q) : MX d k pc ls (mI y :: mI x :: st) h Q :=
  MX.go (fun _ _ _ _ _ _ _ _ _ _ _ _ _ _ _ _ _ C L w => lv_isub C.1 C.2.1 hd (by rw [← Int32.ofInt_sub]; exact w)) hx
theorem x_imul {x y : Int} (hd : decode (kB k) pc = .ok (.imul, 1)) (hx : MX d k (pc + 1) ls (mI (x * y) :: st) h Q) : MX d k pc ls (mI y :: mI x :: st) h Q :=
  MX.go (fun _ _ _ _ _ _ _ _ _ _ _ _ _ _ _ _ _ C L w => lv_imul C.1 C.2.1 hd (by rw [← Int32.ofInt_mul]; exact w)) hx
theorem x_ineg {x : Int} (hd : decode (kB k) pc = .ok (.ineg, 1)) (hx : MX d k (pc + 1) ls (mI (-x) :: st) h Q) : MX d k pc ls (mI x :: st) h Q :=
  MX.go (fun _ _ _ _ _ _ _ _ _ _ _ _ _ _ _ _ _ C L w => lv_ineg C.1 C.2.1 hd (by rw [← Int32.ofInt_neg]; exact w)) hx
theorem ofI_ne0 {y : Int} (hy : inR y) (h0 : y ≠ 0) : ¬ Int32.ofInt y = 0 := fun q => h0 ((ofI_eq hy inR_0).mp q)
theorem ofI_div {x y : Int} (hx : inR x) (hy : inR y) (h0 : 0 ≤ x) (h1 : 0 < y) : Int32.ofInt x / Int32.ofInt y = Int32.ofInt (x / y) := by
  have hd : x / y ≤ x := Int.ediv_le_self _ h0
  have hd0 : 0 ≤ x / y := Int.ediv_nonneg h0 (by omega)
  have hr : inR (x / y) := ⟨by omega, by have := hx.2; omega⟩
  apply Int32.toInt_inj.mp
  rw [Int32.toInt_div_of_ne_right _ _ (fun q => by have := congrArg Int32.toInt q; rw [ofI_toInt hy] at this; simp at this; omega), ofI_toInt hx, ofI_toInt hy, ofI_toInt hr, Int.tdiv_eq_ediv_of_nonneg h0]
theorem x_idiv {x y : Int} (hd : decode (kB k) pc = .ok (.idiv, 1)) (hxr : inR x) (hyr : inR y) (h0 : 0 ≤ x) (h1 : 0 < y) (hx : MX d k (pc + 1) ls (mI (x / y) :: st) h Q) : MX d k pc ls (mI y :: mI x :: st) h Q :=
  MX.go (fun _ _ _ _ _ _ _ _ _ _ _ _ _ _ _ _ _ C L w => lv_idiv C.1 C.2.1 hd (ofI_ne0 hyr (by omega)) (by rw [ofI_div hxr hyr h0 h1]; exact w)) hx
theorem x_irem {x y : Int} (hd : decode (kB k) pc = .ok (.irem, 1)) (hxr : inR x) (hyr : inR y) (h0 : 0 ≤ x) (h1 : 0 < y) (hx : MX d k (pc + 1) ls (mI (x % y) :: st) h Q) : MX d k pc ls (mI y :: mI x :: st) h Q :=
  MX.go (fun _ _ _ _ _ _ _ _ _ _ _ _ _ _ _ _ _ C L w => lv_irem C.1 C.2.1 hd (ofI_ne0 hyr (by omega)) (by
    rw [ofI_div hxr hyr h0 h1, ← Int32.ofInt_mul, ← Int32.ofInt_sub]
    have e : x - x / y * y = x % y := by rw [Int.emod_def, Int.mul_comm]
    rw [e]
    exact w)) hx
theorem x_iand {x y z : Int} (hd : decode (kB k) pc = .ok (.iand, 1)) (hz : Int32.ofInt x &&& Int32.ofInt y = Int32.ofInt z) (hx : MX d k (pc + 1) ls (mI z :: st) h Q) : MX d k pc ls (mI y :: mI x :: st) h Q :=
  MX.go (fun _ _ _ _ _ _ _ _ _ _ _ _ _ _ _ _ _ C L w => lv_iand C.1 C.2.1 hd (by rw [hz]; exact w)) hx
theorem x_ior {x y z : Int} (hd : decode (kB k) pc = .ok (.ior, 1)) (hz : Int32.ofInt x ||| Int32.ofInt y = Int32.ofInt z) (hx : MX d k (pc + 1) ls (mI z :: st) h Q) : MX d k pc ls (mI y :: mI x :: st) h Q :=
  MX.go (fun _ _ _ _ _ _ _ _ _ _ _ _ _ _ _ _ _ C L w => lv_ior C.1 C.2.1 hd (by rw [hz]; exact w)) hx
theorem x_ixor {x y z : Int} (hd : decode (kB k) pc = .ok (.ixor, 1)) (hz : Int32.ofInt x ^^^ Int32.ofInt y = Int32.ofInt z) (hx : MX d k (pc + 1) ls (mI z :: st) h Q) : MX d k pc ls (mI y :: mI x :: st) h Q :=
  MX.go (fun _ _ _ _ _ _ _ _ _ _ _ _ _ _ _ _ _ C L w => lv_ixor C.1 C.2.1 hd (by rw [hz]; exact w)) hx
theorem x_ishl {x y z : Int} (hd : decode (kB k) pc = .ok (.ishl, 1)) (hz : Int32.ofInt x <<< (Int32.ofInt y &&& 31) = Int32.ofInt z) (hx : MX d k (pc + 1) ls (mI z :: st) h Q) : MX d k pc ls (mI y :: mI x :: st) h Q :=
  MX.go (fun _ _ _ _ _ _ _ _ _ _ _ _ _ _ _ _ _ C L w => lv_ishl C.1 C.2.1 hd (by rw [hz]; exact w)) hx
theorem x_ishr {x y z : Int} (hd : decode (kB k) pc = .ok (.ishr, 1)) (hz : Int32.ofInt x >>> (Int32.ofInt y &&& 31) = Int32.ofInt z) (hx : MX d k (pc + 1) ls (mI z :: st) h Q) : MX d k pc ls (mI y :: mI x :: st) h Q :=
  MX.go (fun _ _ _ _ _ _ _ _ _ _ _ _ _ _ _ _ _ C L w => lv_ishr C.1 C.2.1 hd (by rw [hz]; exact w)) hx
theorem x_ladd {x y : Int64} (hd : decode (kB k) pc = .ok (.ladd, 1)) (hx : MX d k (pc + 1) ls (mL (x + y) :: st) h Q) : MX d k pc ls (mL y :: mL x :: st) h Q :=
  MX.go (fun _ _ _ _ _ _ _ _ _ _ _ _ _ _ _ _ _ C L w => lv_ladd C.1 C.2.1 hd w) hx
theorem x_lsub {x y : Int64} (hd : decode (kB k) pc = .ok (.lsub, 1)) (hx : MX d k (pc + 1) ls (mL (x - y) :: st) h Q) : MX d k pc ls (mL y :: mL x :: st) h Q :=
  MX.go (fun _ _ _ _ _ _ _ _ _ _ _ _ _ _ _ _ _ C L w => lv_lsub C.1 C.2.1 hd w) hx
theorem x_lmul {x y : Int64} (hd : decode (kB k) pc = .ok (.lmul, 1)) (hx : MX d k (pc + 1) ls (mL (x * y) :: st) h Q) : MX d k pc ls (mL y :: mL x :: st) h Q :=
  MX.go (fun _ _ _ _ _ _ _ _ _ _ _ _ _ _ _ _ _ C L w => lv_lmul C.1 C.2.1 hd w) hx
theorem x_land {x y : Int64} (hd : decode (kB k) pc = .ok (.land, 1)) (hx : MX d k (pc + 1) ls (mL (x &&& y) :: st) h Q) : MX d k pc ls (mL y :: mL x :: st) h Q :=
  MX.go (fun _ _ _ _ _ _ _ _ _ _ _ _ _ _ _ _ _ C L w => lv_land C.1 C.2.1 hd w) hx
theorem x_lor {x y : Int64} (hd : decode (kB k) pc = .ok (.lor, 1)) (hx : MX d k (pc + 1) ls (mL (x ||| y) :: st) h Q) : MX d k pc ls (mL y :: mL x :: st) h Q :=
  MX.go (fun _ _ _ _ _ _ _ _ _ _ _ _ _ _ _ _ _ C L w => lv_lor C.1 C.2.1 hd w) hx
theorem x_lxor {x y : Int64} (hd : decode (kB k) pc = .ok (.lxor, 1)) (hx : MX d k (pc + 1) ls (mL (x ^^^ y) :: st) h Q) : MX d k pc ls (mL y :: mL x :: st) h Q :=
  MX.go (fun _ _ _ _ _ _ _ _ _ _ _ _ _ _ _ _ _ C L w => lv_lxor C.1 C.2.1 hd w) hx
theorem x_ldiv {x y : Int64} (hd : decode (kB k) pc = .ok (.ldiv, 1)) (hne : ¬ y = 0) (hx : MX d k (pc + 1) ls (mL (x / y) :: st) h Q) : MX d k pc ls (mL y :: mL x :: st) h Q :=
  MX.go (fun _ _ _ _ _ _ _ _ _ _ _ _ _ _ _ _ _ C L w => lv_ldiv C.1 C.2.1 hd hne w) hx
theorem x_lrem {x y : Int64} (hd : decode (kB k) pc = .ok (.lrem, 1)) (hne : ¬ y = 0) (hx : MX d k (pc + 1) ls (mL (x - x / y * y) :: st) h Q) : MX d k pc ls (mL y :: mL x :: st) h Q :=
  MX.go (fun _ _ _ _ _ _ _ _ _ _ _ _ _ _ _ _ _ C L w => lv_lrem C.1 C.2.1 hd hne w) hx
theorem x_lneg {x : Int64} (hd : decode (kB k) pc = .ok (.lneg, 1)) (hx : MX d k (pc + 1) ls (mL (-x) :: st) h Q) : MX d k pc ls (mL x :: st) h Q :=
  MX.go (fun _ _ _ _ _ _ _ _ _ _ _ _ _ _ _ _ _ C L w => lv_lneg C.1 C.2.1 hd w) hx
theorem x_lshl {x : Int64} {y : Int} (hd : decode (kB k) pc = .ok (.lshl, 1)) (hx : MX d k (pc + 1) ls (mL (x <<< ((Int32.ofInt y).toInt64 &&& 63)) :: st) h Q) : MX d k pc ls (mI y :: mL x :: st) h Q :=
  MX.go (fun _ _ _ _ _ _ _ _ _ _ _ _ _ _ _ _ _ C L w => lv_lshl C.1 C.2.1 hd rfl w) hx
theorem x_lshr {x : Int64} {y : Int} (hd : decode (kB k) pc = .ok (.lshr, 1)) (hx : MX d k (pc + 1) ls (mL (x >>> ((Int32.ofInt y).toInt64 &&& 63)) :: st) h Q) : MX d k pc ls (mI y :: mL x :: st) h Q :=
  MX.go (fun _ _ _ _ _ _ _ _ _ _ _ _ _ _ _ _ _ C L w => lv_lshr C.1 C.2.1 hd rfl w) hx
theorem x_i2l {x : Int} (hd : decode (kB k) pc = .ok (.i2l, 1)) (hx : MX d k (pc + 1) ls (mL (Int32.ofInt x).toInt64 :: st) h Q) : MX d k pc ls (mI x :: st) h Q :=
  MX.go (fun _ _ _ _ _ _ _ _ _ _ _ _ _ _ _ _ _ C L w => lv_i2l C.1 C.2.1 hd rfl w) hx
theorem x_l2i {x : Int64} (hd : decode (kB k) pc = .ok (.l2i, 1)) (hx : MX d k (pc + 1) ls (mI x.toInt32.toInt :: st) h Q) : MX d k pc ls (mL x :: st) h Q :=
  MX.go (fun _ _ _ _ _ _ _ _ _ _ _ _ _ _ _ _ _ C L w => lv_l2i C.1 C.2.1 hd (Int32.ofInt_toInt _).symm w) hx
theorem x_i2c {x : Int} (hd : decode (kB k) pc = .ok (.i2c, 1)) (h0 : 0 ≤ x) (h1 : x < 65536) (hx : MX d k (pc + 1) ls (mI x :: st) h Q) : MX d k pc ls (mI x :: st) h Q :=
  MX.go (fun _ _ _ _ _ _ _ _ _ _ _ _ _ _ _ _ _ C L w => lv_i2c C.1 C.2.1 hd (lg_i2c_word (by rw [ofI_toInt ⟨by omega, by omega⟩]; exact h0) (by rw [ofI_toInt ⟨by omega, by omega⟩]; exact h1)) w) hx
def lgI (x y : Int64) : Int := if y < x then 1 else if x = y then 0 else -1
theorem lgI_eq (x y : Int64) : lg_cmp x y = Int32.ofInt (lgI x y) := by
  unfold lg_cmp lgI
  split
  · rfl
  · split <;> rfl
theorem x_lcmp {x y : Int64} (hd : decode (kB k) pc = .ok (.lcmp, 1)) (hx : MX d k (pc + 1) ls (mI (lgI x y) :: st) h Q) : MX d k pc ls (mL y :: mL x :: st) h Q :=
  MX.go (fun _ _ _ _ _ _ _ _ _ _ _ _ _ _ _ _ _ C L w => W.lcmp C.1 C.2.1 hd (by rw [lgI_eq]; exact w)) hx
theorem rz_cat1 (G : MG) {v : MV} (hv : isL v = false) : (rz G v).category = 1 := by
  rcases v with x | x | (_ | x) | x
  · rfl
  · cases hv
  · rfl
  · rfl
  · rfl
theorem rz_cat2 (G : MG) {v : MV} (hv : isL v = true) : (rz G v).category = 2 := by
  rcases v with x | x | (_ | x) | x
  · cases hv
  · rfl
  · cases hv
  · cases hv
  · cases hv
theorem x_dup {v : MV} (hd : decode (kB k) pc = .ok (.dup, 1)) (hv : isL v = false) (hx : MX d k (pc + 1) ls (v :: v :: st) h Q) : MX d k pc ls (v :: st) h Q :=
  MX.go (fun _ _ _ _ _ _ _ _ _ _ _ _ _ _ _ _ _ C L w => lv_dup C.1 C.2.1 hd (rz_cat1 _ hv) w) hx
theorem x_pop {v : MV} (hd : decode (kB k) pc = .ok (.pop, 1)) (hv : isL v = false) (hx : MX d k (pc + 1) ls st h Q) : MX d k pc ls (v :: st) h Q :=
  MX.go (fun _ _ _ _ _ _ _ _ _ _ _ _ _ _ _ _ _ C L w => lv_pop C.1 C.2.1 hd (rz_cat1 _ hv) w) hx
theorem x_dup_x1 {v u : MV} (hd : decode (kB k) pc = .ok (.dup_x1, 1)) (hv : isL v = false) (hu : isL u = false) (hx : MX d k (pc + 1) ls (v :: u :: v :: st) h Q) : MX d k pc ls (v :: u :: st) h Q :=
  MX.go (fun _ _ _ _ _ _ _ _ _ _ _ _ _ _ _ _ _ C L w => lv_dup_x1 C.1 C.2.1 hd (rz_cat1 _ hv) (rz_cat1 _ hu) w) hx
theorem x_dup_x2 {v u z : MV} (hd : decode (kB k) pc = .ok (.dup_x2, 1)) (hv : isL v = false) (hu : isL u = false) (hz : isL z = false) (hx : MX d k (pc + 1) ls (v :: u :: z :: v :: st) h Q) : MX d k pc ls (v :: u :: z :: st) h Q :=
  MX.go (fun _ _ _ _ _ _ _ _ _ _ _ _ _ _ _ _ _ C L w => lv_dup_x2 C.1 C.2.1 hd (rz_cat1 _ hv) (rz_cat1 _ hu) (rz_cat1 _ hz) w) hx
theorem x_dup2 {v u : MV} (hd : decode (kB k) pc = .ok (.dup2, 1)) (hv : isL v = false) (hu : isL u = false) (hx : MX d k (pc + 1) ls (v :: u :: v :: u :: st) h Q) : MX d k pc ls (v :: u :: st) h Q :=
  MX.go (fun _ _ _ _ _ _ _ _ _ _ _ _ _ _ _ _ _ C L w => lv_dup2_11 C.1 C.2.1 hd (rz_cat1 _ hv) (rz_cat1 _ hu) w) hx
theorem x_dup2L {v : MV} (hd : decode (kB k) pc = .ok (.dup2, 1)) (hv : isL v = true) (hx : MX d k (pc + 1) ls (v :: v :: st) h Q) : MX d k pc ls (v :: st) h Q :=
  MX.go (fun _ _ _ _ _ _ _ _ _ _ _ _ _ _ _ _ _ C L w => lv_dup2_2 C.1 C.2.1 hd (rz_cat2 _ hv) w) hx
theorem x_pop2L {v : MV} (hd : decode (kB k) pc = .ok (.pop2, 1)) (hv : isL v = true) (hx : MX d k (pc + 1) ls st h Q) : MX d k pc ls (v :: st) h Q :=
  MX.go (fun _ _ _ _ _ _ _ _ _ _ _ _ _ _ _ _ _ C L w => lv_pop2_2 C.1 C.2.1 hd (rz_cat2 _ hv) w) hx
theorem x_if_eq {x : Int} {off : Int} {tgt : Nat} (hd : decode (kB k) pc = .ok (.ifCond .eq off, 3)) (ht : (pc : Int) + off = (tgt : Int)) (hxr : inR x) (kt : x = 0 → MX d k tgt ls st h Q) (kf : ¬ (x = 0) → MX d k (pc + 3) ls st h Q) : MX d k pc ls (mI x :: st) h Q :=
  MX.br (fun _ _ _ _ _ _ _ _ _ _ _ _ _ _ _ _ _ C kt kf => lv_if_eq C.1 C.2.1 hd ht (fun q => kt ((ofI_eq hxr inR_0).mp q)) (fun q => kf (fun z => q ((ofI_eq hxr inR_0).mpr z)))) kt kf
theorem x_icmp_eq {x y : Int} {off : Int} {tgt : Nat} (hd : decode (kB k) pc = .ok (.if_icmp .eq off, 3)) (ht : (pc : Int) + off = (tgt : Int)) (hxr : inR x) (hyr : inR y) (kt : x = y → MX d k tgt ls st h Q) (kf : ¬ (x = y) → MX d k (pc + 3) ls st h Q) : MX d k pc ls (mI y :: mI x :: st) h Q :=
  MX.br (fun _ _ _ _ _ _ _ _ _ _ _ _ _ _ _ _ _ C kt kf => lv_icmp_eq C.1 C.2.1 hd ht (fun q => kt ((ofI_eq hxr hyr).mp q)) (fun q => kf (fun z => q ((ofI_eq hxr hyr).mpr z)))) kt kf
theorem x_if_ne {x : Int} {off : Int} {tgt : Nat} (hd : decode (kB k) pc = .ok (.ifCond .ne off, 3)) (ht : (pc : Int) + off = (tgt : Int)) (hxr : inR x) (kt : ¬ x = 0 → MX d k tgt ls st h Q) (kf : ¬ (¬ x = 0) → MX d k (pc + 3) ls st h Q) : MX d k pc ls (mI x :: st) h Q :=
  MX.br (fun _ _ _ _ _ _ _ _ _ _ _ _ _ _ _ _ _ C kt kf => lv_if_ne C.1 C.2.1 hd ht (fun q => kt ((not_congr (ofI_eq hxr inR_0)).mp q)) (fun q => kf (fun z => z ((ofI_eq hxr inR_0).mp q)))) kt kf
theorem x_icmp_ne {x y : Int} {off : Int} {tgt : Nat} (hd : decode (kB k) pc = .ok (.if_icmp .ne off, 3)) (ht : (pc : Int) + off = (tgt : Int)) (hxr : inR x) (hyr : inR y) (kt : ¬ x = y → MX d k tgt ls st h Q) (kf : ¬ (¬ x = y) → MX d k (pc + 3) ls st h Q) : MX d k pc ls (mI y :: mI x :: st) h Q :=
  MX.br (fun _ _ _ _ _ _ _ _ _ _ _ _ _ _ _ _ _ C kt kf => lv_icmp_ne C.1 C.2.1 hd ht (fun q => kt ((not_congr (ofI_eq hxr hyr)).mp q)) (fun q => kf (fun z => z ((ofI_eq hxr hyr).mp q)))) kt kf
theorem x_if_lt {x : Int} {off : Int} {tgt : Nat} (hd : decode (kB k) pc = .ok (.ifCond .lt off, 3)) (ht : (pc : Int) + off = (tgt : Int)) (hxr : inR x) (kt : x < 0 → MX d k tgt ls st h Q) (kf : ¬ (x < 0) → MX d k (pc + 3) ls st h Q) : MX d k pc ls (mI x :: st) h Q :=
  MX.br (fun _ _ _ _ _ _ _ _ _ _ _ _ _ _ _ _ _ C kt kf => lv_if_lt C.1 C.2.1 hd ht (fun q => kt ((ofI_lt hxr inR_0).mp q)) (fun q => kf (fun z => q ((ofI_lt hxr inR_0).mpr z)))) kt kf
theorem x_icmp_lt {x y : Int} {off : Int} {tgt : Nat} (hd : decode (kB k) pc = .ok (.if_icmp .lt off, 3)) (ht : (pc : Int) + off = (tgt : Int)) (hxr : inR x) (hyr : inR y) (kt : x < y → MX d k tgt ls st h Q) (kf : ¬ (x < y) → MX d k (pc + 3) ls st h Q) : MX d k pc ls (mI y :: mI x :: st) h Q :=
  MX.br (fun _ _ _ _ _ _ _ _ _ _ _ _ _ _ _ _ _ C kt kf => lv_icmp_lt C.1 C.2.1 hd ht (fun q => kt ((ofI_lt hxr hyr).mp q)) (fun q => kf (fun z => q ((ofI_lt hxr hyr).mpr z)))) kt kf
theorem x_if_ge {x : Int} {off : Int} {tgt : Nat} (hd : decode (kB k) pc = .ok (.ifCond .ge off, 3)) (ht : (pc : Int) + off = (tgt : Int)) (hxr : inR x) (kt : 0 ≤ x → MX d k tgt ls st h Q) (kf : ¬ (0 ≤ x) → MX d k (pc + 3) ls st h Q) : MX d k pc ls (mI x :: st) h Q :=
  MX.br (fun _ _ _ _ _ _ _ _ _ _ _ _ _ _ _ _ _ C kt kf => lv_if_ge C.1 C.2.1 hd ht (fun q => kt ((ofI_le inR_0 hxr).mp q)) (fun q => kf (fun z => q ((ofI_le inR_0 hxr).mpr z)))) kt kf
theorem x_icmp_ge {x y : Int} {off : Int} {tgt : Nat} (hd : decode (kB k) pc = .ok (.if_icmp .ge off, 3)) (ht : (pc : Int) + off = (tgt : Int)) (hxr : inR x) (hyr : inR y) (kt : y ≤ x → MX d k tgt ls st h Q) (kf : ¬ (y ≤ x) → MX d k (pc + 3) ls st h Q) : MX d k pc ls (mI y :: mI x :: st) h Q :=
  MX.br (fun _ _ _ _ _ _ _ _ _ _ _ _ _ _ _ _ _ C kt kf => lv_icmp_ge C.1 C.2.1 hd ht (fun q => kt ((ofI_le hyr hxr).mp q)) (fun q => kf (fun z => q ((ofI_le hyr hxr).mpr z)))) kt kf
theorem x_if_gt {x : Int} {off : Int} {tgt : Nat} (hd : decode (kB k) pc = .ok (.ifCond .gt off, 3)) (ht : (pc : Int) + off = (tgt : Int)) (hxr : inR x) (kt : 0 < x → MX d k tgt ls st h Q) (kf : ¬ (0 < x) → MX d k (pc + 3) ls st h Q) : MX d k pc ls (mI x :: st) h Q :=
  MX.br (fun _ _ _ _ _ _ _ _ _ _ _ _ _ _ _ _ _ C kt kf => lv_if_gt C.1 C.2.1 hd ht (fun q => kt ((ofI_lt inR_0 hxr).mp q)) (fun q => kf (fun z => q ((ofI_lt inR_0 hxr).mpr z)))) kt kf
theorem x_icmp_gt {x y : Int} {off : Int} {tgt : Nat} (hd : decode (kB k) pc = .ok (.if_icmp .gt off, 3)) (ht : (pc : Int) + off = (tgt : Int)) (hxr : inR x) (hyr : inR y) (kt : y < x → MX d k tgt ls st h Q) (kf : ¬ (y < x) → MX d k (pc + 3) ls st h Q) : MX d k pc ls (mI y :: mI x :: st) h Q :=
  MX.br (fun _ _ _ _ _ _ _ _ _ _ _ _ _ _ _ _ _ C kt kf => lv_icmp_gt C.1 C.2.1 hd ht (fun q => kt ((ofI_lt hyr hxr).mp q)) (fun q => kf (fun z => q ((ofI_lt hyr hxr).mpr z)))) kt kf
theorem x_if_le {x : Int} {off : Int} {tgt : Nat} (hd : decode (kB k) pc = .ok (.ifCond .le off, 3)) (ht : (pc : Int) + off = (tgt : Int)) (hxr : inR x) (kt : x ≤ 0 → MX d k tgt ls st h Q) (kf : ¬ (x ≤ 0) → MX d k (pc + 3) ls st h Q) : MX d k pc ls (mI x :: st) h Q :=
  MX.br (fun _ _ _ _ _ _ _ _ _ _ _ _ _ _ _ _ _ C kt kf => lv_if_le C.1 C.2.1 hd ht (fun q => kt ((ofI_le hxr inR_0).mp q)) (fun q => kf (fun z => q ((ofI_le hxr inR_0).mpr z)))) kt kf
theorem x_icmp_le {x y : Int} {off : Int} {tgt : Nat} (hd : decode (kB k) pc = .ok (.if_icmp .le off, 3)) (ht : (pc : Int) + off = (tgt : Int)) (hxr : inR x) (hyr : inR y) (kt : x ≤ y → MX d k tgt ls st h Q) (kf : ¬ (x ≤ y) → MX d k (pc + 3) ls st h Q) : MX d k pc ls (mI y :: mI x :: st) h Q :=
  MX.br (fun _ _ _ _ _ _ _ _ _ _ _ _ _ _ _ _ _ C kt kf => lv_icmp_le C.1 C.2.1 hd ht (fun q => kt ((ofI_le hxr hyr).mp q)) (fun q => kf (fun z => q ((ofI_le hxr hyr).mpr z)))) kt kf
theorem x_goto {off : Int} {tgt : Nat} (hd : decode (kB k) pc = .ok (.goto off, 3)) (ht : (pc : Int) + off = (tgt : Int)) (hx : MX d k tgt ls st h Q) : MX d k pc ls st h Q :=
  MX.go (fun _ _ _ _ _ _ _ _ _ _ _ _ _ _ _ _ _ C L w => lv_goto C.1 C.2.1 hd ht w) hx
theorem x_ifnonnull {a : Nat} {off : Int} {tgt : Nat} (hd : decode (kB k) pc = .ok (.ifnonnull off, 3)) (ht : (pc : Int) + off = (tgt : Int)) (hx : MX d k tgt ls st h Q) : MX d k pc ls (mR a :: st) h Q :=
  MX.go (fun _ _ _ _ _ _ _ _ _ _ _ _ _ _ _ _ _ C L w => lv_ifnonnull C.1 C.2.1 hd ht w) hx
theorem x_ifnonnullN {off : Int} (hd : decode (kB k) pc = .ok (.ifnonnull off, 3)) {tgt : Nat} (ht : (pc : Int) + off = (tgt : Int)) (hx : MX d k (pc + 3) ls st h Q) : MX d k pc ls (mN :: st) h Q :=
  MX.go (fun _ _ _ _ _ _ _ _ _ _ _ _ _ _ _ _ _ C L w => lv_ifnonnullN C.1 C.2.1 hd w) hx
theorem x_lookup {dflt : Int} {ps : Array (Int × Int)} {len : Nat} {x : Int} {off : Int} {tgt : Nat} (hd : decode (kB k) pc = .ok (.lookupswitch dflt ps, len)) (hp : (ps.toList.zip (ps.toList.drop 1)).all (fun (a, next) => a.1 < next.1) = true) (hxr : inR x) (ho : Op.lookupswitch.offset ps.toList dflt x = off) (ht : (pc : Int) + off = (tgt : Int)) (hx : MX d k tgt ls st h Q) : MX d k pc ls (mI x :: st) h Q :=
  MX.go (fun _ _ _ _ _ _ _ _ _ _ _ _ _ _ _ _ _ C L w => lv_lookup C.1 C.2.1 hd hp (by rw [ofI_toInt hxr]; exact ho) ht w) hx
theorem x_tableOut {dflt lo hi : Int} {offs : Array Int} {len : Nat} {x : Int} {tgt : Nat} (hd : decode (kB k) pc = .ok (.tableswitch dflt lo hi offs, len)) (hxr : inR x) (hq : x < lo ∨ hi < x) (ht : (pc : Int) + dflt = (tgt : Int)) (hx : MX d k tgt ls st h Q) : MX d k pc ls (mI x :: st) h Q :=
  MX.go (fun _ _ _ _ _ _ _ _ _ _ _ _ _ _ _ _ _ C L w => lv_tableOut C.1 C.2.1 hd (by rw [ofI_toInt hxr]; exact hq) ht w) hx
theorem x_tableIn {dflt lo hi : Int} {offs : Array Int} {len : Nat} {x : Int} {off : Int} {tgt : Nat} (hd : decode (kB k) pc = .ok (.tableswitch dflt lo hi offs, len)) (hxr : inR x) (h1 : ¬ x < lo) (h2 : ¬ hi < x) (ho : offs[(x - lo).toNat]? = some off) (ht : (pc : Int) + off = (tgt : Int)) (hx : MX d k tgt ls st h Q) : MX d k pc ls (mI x :: st) h Q :=
  MX.go (fun _ _ _ _ _ _ _ _ _ _ _ _ _ _ _ _ _ C L w => lv_tableIn C.1 C.2.1 hd (by rw [ofI_toInt hxr]; exact h1) (by rw [ofI_toInt hxr]; exact h2) (by rw [ofI_toInt hxr]; exact ho) ht w) hx
end MXR
