section HP
variable {h : MH} {a b i j t n : Nat}
theorem sh_new {x : Nat × Nat} (ha : h.1[a]? = some x) : (mNew h t n).1[a]? = some x := by
  have hl : a < h.1.length := (List.getElem?_eq_some_iff.mp ha).1
  show (h.1 ++ [(t, n)])[a]? = some x
  rw [List.getElem?_append_left hl]
  exact ha
theorem sh_last : (mNew h t n).1[h.1.length]? = some (t, n) := by
  show (h.1 ++ [(t, n)])[h.1.length]? = some (t, n)
  rw [List.getElem?_append_right (Nat.le_refl _), Nat.sub_self]
  rfl
theorem len_pi {x : Int} : (mPi h a i x).1.length = h.1.length := rfl
theorem len_pl {x : Int64} : (mPl h a i x).1.length = h.1.length := rfl
theorem len_pr {x : Option Nat} : (mPr h a i x).1.length = h.1.length := rfl
theorem slt_pi {x : Int} : mSlt (mPi h a i x) = mSlt h := rfl
theorem slt_pl {x : Int64} : mSlt (mPl h a i x) = mSlt h := rfl
theorem slt_pr {x : Option Nat} : mSlt (mPr h a i x) = mSlt h := rfl
theorem gi_pi {x : Int} : mGi (mPi h a i x) b j = if b = a ∧ j = i then x else mGi h b j := rfl
theorem gi_pl {x : Int64} : mGi (mPl h a i x) b j = mGi h b j := rfl
theorem gi_pr {x : Option Nat} : mGi (mPr h a i x) b j = mGi h b j := rfl
theorem gl_pi {x : Int} : mGl (mPi h a i x) b j = mGl h b j := rfl
theorem gl_pl {x : Int64} : mGl (mPl h a i x) b j = if b = a ∧ j = i then x else mGl h b j := rfl
theorem gl_pr {x : Option Nat} : mGl (mPr h a i x) b j = mGl h b j := rfl
theorem gr_pi {x : Int} : mGr (mPi h a i x) b j = mGr h b j := rfl
theorem gr_pl {x : Int64} : mGr (mPl h a i x) b j = mGr h b j := rfl
theorem gr_pr {x : Option Nat} : mGr (mPr h a i x) b j = if b = a ∧ j = i then x else mGr h b j := rfl
theorem gi_nw : mGi (mNew h t n) b j = if b = h.1.length then 0 else mGi h b j := rfl
theorem gl_nw : mGl (mNew h t n) b j = if b = h.1.length then 0 else mGl h b j := rfl
theorem gr_nw : mGr (mNew h t n) b j = if b = h.1.length then none else mGr h b j := rfl
end HP
