def dfl : Nat → Value
  | 0 => .int 0
  | 1 => .long 0
  | _ => .null
theorem dfl_ok (G : MG) (t j : Nat) : rz G (mFv0 t j) = dfl (mFk t j) := by
  unfold mFv0
  split
  · rename_i e; rw [e]; rfl
  · rename_i e; rw [e]; rfl
  · rename_i e1 e2
    unfold dfl
    split
    · rename_i e; exact absurd e e1
    · rename_i e; exact absurd e e2
    · rfl
theorem oi_im : Cond.instanceMethod Lib.objectInit ∈ mTs := mT1 32 rfl rfl
theorem oi_co : Cond.code Lib.objectInit ⟨#[0xb1]⟩ 1 none ∈ mTs := mT1 33 rfl rfl
theorem ac_I : Cond.arrayClass .int ∈ mTs := mT1 99 rfl rfl
theorem ac_C : Cond.arrayClass .char ∈ mTs := mT1 61 rfl rfl
theorem ac_Z : Cond.arrayClass .boolean ∈ mTs := mT2 35 rfl rfl
theorem ac_J : Cond.arrayClass .long ∈ mTs := mT1 226 rfl rfl
theorem ao_Le : Cond.arrayOver (.object "TwoMills$Letters") ∈ mTs := mT1 77 rfl rfl
theorem ao_Ro : Cond.arrayOver (.object "TwoMills$Row") ∈ mTs := mT1 234 rfl rfl
theorem kl_T_118 : Cond.constantLong "TwoMills" 118 (255) ∈ mTs := mT2 134 rfl rfl
theorem kc_Le_41 : Cond.constant "TwoMills$Letters" 41 (1000000000) ∈ mTs := mT3 196 rfl rfl
theorem kl_To_37 : Cond.constantLong "TwoMills$Tokens" 37 (65535) ∈ mTs := mT4 69 rfl rfl
theorem kl_To_39 : Cond.constantLong "TwoMills$Tokens" 39 (255) ∈ mTs := mT4 88 rfl rfl
theorem kl_Ex_147 : Cond.constantLong "TwoMills$Expander" 147 (281474976710656) ∈ mTs := mT5 29 rfl rfl
theorem kl_To_96 : Cond.constantLong "TwoMills$Tokens" 96 (281474976710656) ∈ mTs := mT5 34 rfl rfl
theorem kl_Es_85 : Cond.constantLong "TwoMills$Expression" 85 (9223372036854775807) ∈ mTs := mT5 115 rfl rfl
theorem kl_Es_87 : Cond.constantLong "TwoMills$Expression" 87 (10) ∈ mTs := mT5 116 rfl rfl
theorem kc_Es_63 : Cond.constant "TwoMills$Expression" 63 (65536) ∈ mTs := mT5 122 rfl rfl
theorem kc_Es_89 : Cond.constant "TwoMills$Expression" 89 (-65537) ∈ mTs := mT5 138 rfl rfl
theorem kl_Es_96 : Cond.constantLong "TwoMills$Expression" 96 (-1) ∈ mTs := mT5 143 rfl rfl
theorem kl_Es_98 : Cond.constantLong "TwoMills$Expression" 98 (63) ∈ mTs := mT5 148 rfl rfl
theorem kl_M_163 : Cond.constantLong "TwoMillsModel" 163 (255) ∈ mTs := mT6 130 rfl rfl
theorem kl_M_157 : Cond.constantLong "TwoMillsModel" 157 (10) ∈ mTs := mT6 134 rfl rfl
theorem kl_M_159 : Cond.constantLong "TwoMillsModel" 159 (32) ∈ mTs := mT6 135 rfl rfl
theorem kl_M_161 : Cond.constantLong "TwoMillsModel" 161 (126) ∈ mTs := mT6 136 rfl rfl
theorem kl_M_265 : Cond.constantLong "TwoMillsModel" 265 (111524889126244) ∈ mTs := mT6 189 rfl rfl
theorem kl_M_267 : Cond.constantLong "TwoMillsModel" 267 (28821929548019056) ∈ mTs := mT6 190 rfl rfl
theorem kl_M_269 : Cond.constantLong "TwoMillsModel" 269 (112585662820208) ∈ mTs := mT6 191 rfl rfl
theorem kl_M_271 : Cond.constantLong "TwoMillsModel" 271 (439787742825) ∈ mTs := mT6 192 rfl rfl
theorem kl_M_273 : Cond.constantLong "TwoMillsModel" 273 (111546414229097) ∈ mTs := mT6 193 rfl rfl
theorem kl_M_275 : Cond.constantLong "TwoMillsModel" 275 (1919118953) ∈ mTs := mT6 194 rfl rfl
theorem kl_M_277 : Cond.constantLong "TwoMillsModel" 277 (7234924) ∈ mTs := mT6 195 rfl rfl
theorem kl_M_279 : Cond.constantLong "TwoMillsModel" 279 (499934390387) ∈ mTs := mT6 196 rfl rfl
theorem kl_M_281 : Cond.constantLong "TwoMillsModel" 281 (7106148) ∈ mTs := mT6 197 rfl rfl
theorem kl_M_319 : Cond.constantLong "TwoMillsModel" 319 (15) ∈ mTs := mT7 79 rfl rfl
theorem kl_M_317 : Cond.constantLong "TwoMillsModel" 317 (4095) ∈ mTs := mT7 83 rfl rfl
theorem kl_M_512 : Cond.constantLong "TwoMillsModel" 512 (26217) ∈ mTs := mT7 91 rfl rfl
theorem kl_M_491 : Cond.constantLong "TwoMillsModel" 491 (28259022560191844) ∈ mTs := mT7 112 rfl rfl
theorem kl_M_414 : Cond.constantLong "TwoMillsModel" 414 (68719476736) ∈ mTs := mT7 156 rfl rfl
theorem kl_M_437 : Cond.constantLong "TwoMillsModel" 437 (-68719476737) ∈ mTs := mT7 181 rfl rfl
theorem kl_M_473 : Cond.constantLong "TwoMillsModel" 473 (922337203685477580) ∈ mTs := mT7 198 rfl rfl
theorem kl_M_458 : Cond.constantLong "TwoMillsModel" 458 (-1) ∈ mTs := mT7 222 rfl rfl
theorem kl_M_443 : Cond.constantLong "TwoMillsModel" 443 (63) ∈ mTs := mT7 229 rfl rfl
theorem kl_M_517 : Cond.constantLong "TwoMillsModel" 517 (112585662686825) ∈ mTs := mT7 230 rfl rfl
theorem kl_M_519 : Cond.constantLong "TwoMillsModel" 519 (1702063205) ∈ mTs := mT7 231 rfl rfl
theorem kl_M_525 : Cond.constantLong "TwoMillsModel" 525 (439854853733) ∈ mTs := mT7 236 rfl rfl
theorem kl_M_530 : Cond.constantLong "TwoMillsModel" 530 (439787744885) ∈ mTs := mT8 9 rfl rfl
theorem kl_La_30 : Cond.constantLong "TwoMillsLaw" 30 (4294967295) ∈ mTs := mT8 30 rfl rfl
theorem df_T : ∀ j, j < 5 → defaultValue (ty_T j) = dfl (mFk 0 j) := by decide +kernel
theorem in_T : Cond.instantiable "TwoMills" 5 ∈ mTs := mT1 27 rfl rfl
theorem iz_T : Cond.initialized "TwoMills" ∈ mTs := mT1 1 rfl rfl
theorem df_Le : ∀ j, j < 3 → defaultValue (ty_Le j) = dfl (mFk 1 j) := by decide +kernel
theorem in_Le : Cond.instantiable "TwoMills$Letters" 3 ∈ mTs := mT1 35 rfl rfl
theorem iz_Le : Cond.initialized "TwoMills$Letters" ∈ mTs := mT1 2 rfl rfl
theorem df_Ar : ∀ j, j < 6 → defaultValue (ty_Ar j) = dfl (mFk 2 j) := by decide +kernel
theorem in_Ar : Cond.instantiable "TwoMills$Arguments" 6 ∈ mTs := mT1 116 rfl rfl
theorem iz_Ar : Cond.initialized "TwoMills$Arguments" ∈ mTs := mT1 6 rfl rfl
theorem df_De : ∀ j, j < 5 → defaultValue (ty_De j) = dfl (mFk 3 j) := by decide +kernel
theorem in_De : Cond.instantiable "TwoMills$Definitions" 5 ∈ mTs := mT1 71 rfl rfl
theorem iz_De : Cond.initialized "TwoMills$Definitions" ∈ mTs := mT1 4 rfl rfl
theorem df_Ex : ∀ j, j < 4 → defaultValue (ty_Ex j) = dfl (mFk 4 j) := by decide +kernel
theorem in_Ex : Cond.instantiable "TwoMills$Expander" 4 ∈ mTs := mT1 228 rfl rfl
theorem iz_Ex : Cond.initialized "TwoMills$Expander" ∈ mTs := mT1 10 rfl rfl
theorem df_Es : ∀ j, j < 6 → defaultValue (ty_Es j) = dfl (mFk 5 j) := by decide +kernel
theorem in_Es : Cond.instantiable "TwoMills$Expression" 6 ∈ mTs := mT2 11 rfl rfl
theorem iz_Es : Cond.initialized "TwoMills$Expression" ∈ mTs := mT1 11 rfl rfl
theorem df_Fm : ∀ j, j < 7 → defaultValue (ty_Fm j) = dfl (mFk 6 j) := by decide +kernel
theorem in_Fm : Cond.instantiable "TwoMills$FirstMill" 7 ∈ mTs := mT1 63 rfl rfl
theorem iz_Fm : Cond.initialized "TwoMills$FirstMill" ∈ mTs := mT1 3 rfl rfl
theorem df_In : ∀ j, j < 2 → defaultValue (ty_In j) = dfl (mFk 7 j) := by decide +kernel
theorem in_In : Cond.instantiable "TwoMills$Input" 2 ∈ mTs := mT1 101 rfl rfl
theorem iz_In : Cond.initialized "TwoMills$Input" ∈ mTs := mT1 5 rfl rfl
theorem df_Na : ∀ j, j < 5 → defaultValue (ty_Na j) = dfl (mFk 8 j) := by decide +kernel
theorem in_Na : Cond.instantiable "TwoMills$Names" 5 ∈ mTs := mT1 198 rfl rfl
theorem iz_Na : Cond.initialized "TwoMills$Names" ∈ mTs := mT1 9 rfl rfl
theorem df_Ro : ∀ j, j < 8 → defaultValue (ty_Ro j) = dfl (mFk 9 j) := by decide +kernel
theorem in_Ro : Cond.instantiable "TwoMills$Row" 8 ∈ mTs := mT4 139 rfl rfl
theorem iz_Ro : Cond.initialized "TwoMills$Row" ∈ mTs := mT1 25 rfl rfl
theorem df_Sm : ∀ j, j < 12 → defaultValue (ty_Sm j) = dfl (mFk 10 j) := by decide +kernel
theorem in_Sm : Cond.instantiable "TwoMills$SecondMill" 12 ∈ mTs := mT1 173 rfl rfl
theorem iz_Sm : Cond.initialized "TwoMills$SecondMill" ∈ mTs := mT1 7 rfl rfl
theorem df_To : ∀ j, j < 3 → defaultValue (ty_To j) = dfl (mFk 11 j) := by decide +kernel
theorem in_To : Cond.instantiable "TwoMills$Tokens" 3 ∈ mTs := mT1 179 rfl rfl
theorem iz_To : Cond.initialized "TwoMills$Tokens" ∈ mTs := mT1 8 rfl rfl
theorem df_M : ∀ j, j < 66 → defaultValue (ty_M j) = dfl (mFk 12 j) := by decide +kernel
theorem in_M : Cond.instantiable "TwoMillsModel" 66 ∈ mTs := mT5 158 rfl rfl
theorem iz_M : Cond.initialized "TwoMillsModel" ∈ mTs := mT1 12 rfl rfl
theorem cl_La_8 : Cond.classLink "TwoMillsLaw" 8 "TwoMills" ∈ mTs := mT1 26 rfl rfl
theorem n_La_8 : nOK "TwoMillsLaw" 8 0 5 := ⟨_, _, ty_T, rfl, uw_T, tyo_T, fun j hj G => (df_T j hj).trans (dfl_ok G _ _).symm, cl_La_8, in_T, iz_T⟩
theorem cl_T_7 : Cond.classLink "TwoMills" 7 "TwoMills$Letters" ∈ mTs := mT1 34 rfl rfl
theorem n_T_7 : nOK "TwoMills" 7 1 3 := ⟨_, _, ty_Le, rfl, uw_Le, tyo_Le, fun j hj G => (df_Le j hj).trans (dfl_ok G _ _).symm, cl_T_7, in_Le, iz_Le⟩
theorem cl_T_18 : Cond.classLink "TwoMills" 18 "TwoMills$FirstMill" ∈ mTs := mT1 62 rfl rfl
theorem n_T_18 : nOK "TwoMills" 18 6 7 := ⟨_, _, ty_Fm, rfl, uw_Fm, tyo_Fm, fun j hj G => (df_Fm j hj).trans (dfl_ok G _ _).symm, cl_T_18, in_Fm, iz_Fm⟩
theorem cl_Fm_9 : Cond.classLink "TwoMills$FirstMill" 9 "TwoMills$Letters" ∈ mTs := mT1 68 rfl rfl
theorem n_Fm_9 : nOK "TwoMills$FirstMill" 9 1 3 := ⟨_, _, ty_Le, rfl, uw_Le, tyo_Le, fun j hj G => (df_Le j hj).trans (dfl_ok G _ _).symm, cl_Fm_9, in_Le, iz_Le⟩
theorem cl_Fm_20 : Cond.classLink "TwoMills$FirstMill" 20 "TwoMills$Definitions" ∈ mTs := mT1 70 rfl rfl
theorem n_Fm_20 : nOK "TwoMills$FirstMill" 20 3 5 := ⟨_, _, ty_De, rfl, uw_De, tyo_De, fun j hj G => (df_De j hj).trans (dfl_ok G _ _).symm, cl_Fm_20, in_De, iz_De⟩
theorem cl_De_11 : Cond.classLink "TwoMills$Definitions" 11 "TwoMills$Letters" ∈ mTs := mT1 76 rfl rfl
theorem n_De_11 : nOK "TwoMills$Definitions" 11 1 3 := ⟨_, _, ty_Le, rfl, uw_Le, tyo_Le, fun j hj G => (df_Le j hj).trans (dfl_ok G _ _).symm, cl_De_11, in_Le, iz_Le⟩
theorem cl_Fm_27 : Cond.classLink "TwoMills$FirstMill" 27 "TwoMills$Input" ∈ mTs := mT1 100 rfl rfl
theorem n_Fm_27 : nOK "TwoMills$FirstMill" 27 7 2 := ⟨_, _, ty_In, rfl, uw_In, tyo_In, fun j hj G => (df_In j hj).trans (dfl_ok G _ _).symm, cl_Fm_27, in_In, iz_In⟩
theorem cl_Fm_34 : Cond.classLink "TwoMills$FirstMill" 34 "TwoMills$Arguments" ∈ mTs := mT1 115 rfl rfl
theorem n_Fm_34 : nOK "TwoMills$FirstMill" 34 2 6 := ⟨_, _, ty_Ar, rfl, uw_Ar, tyo_Ar, fun j hj G => (df_Ar j hj).trans (dfl_ok G _ _).symm, cl_Fm_34, in_Ar, iz_Ar⟩
theorem cl_Ar_7 : Cond.classLink "TwoMills$Arguments" 7 "TwoMills$Letters" ∈ mTs := mT1 121 rfl rfl
theorem n_Ar_7 : nOK "TwoMills$Arguments" 7 1 3 := ⟨_, _, ty_Le, rfl, uw_Le, tyo_Le, fun j hj G => (df_Le j hj).trans (dfl_ok G _ _).symm, cl_Ar_7, in_Le, iz_Le⟩
theorem cl_T_25 : Cond.classLink "TwoMills" 25 "TwoMills$SecondMill" ∈ mTs := mT1 172 rfl rfl
theorem n_T_25 : nOK "TwoMills" 25 10 12 := ⟨_, _, ty_Sm, rfl, uw_Sm, tyo_Sm, fun j hj G => (df_Sm j hj).trans (dfl_ok G _ _).symm, cl_T_25, in_Sm, iz_Sm⟩
theorem cl_Sm_9 : Cond.classLink "TwoMills$SecondMill" 9 "TwoMills$Tokens" ∈ mTs := mT1 178 rfl rfl
theorem n_Sm_9 : nOK "TwoMills$SecondMill" 9 11 3 := ⟨_, _, ty_To, rfl, uw_To, tyo_To, fun j hj G => (df_To j hj).trans (dfl_ok G _ _).symm, cl_Sm_9, in_To, iz_To⟩
theorem cl_Sm_18 : Cond.classLink "TwoMills$SecondMill" 18 "TwoMills$Names" ∈ mTs := mT1 197 rfl rfl
theorem n_Sm_18 : nOK "TwoMills$SecondMill" 18 8 5 := ⟨_, _, ty_Na, rfl, uw_Na, tyo_Na, fun j hj G => (df_Na j hj).trans (dfl_ok G _ _).symm, cl_Sm_18, in_Na, iz_Na⟩
theorem cl_Sm_25 : Cond.classLink "TwoMills$SecondMill" 25 "TwoMills$Expander" ∈ mTs := mT1 227 rfl rfl
theorem n_Sm_25 : nOK "TwoMills$SecondMill" 25 4 4 := ⟨_, _, ty_Ex, rfl, uw_Ex, tyo_Ex, fun j hj G => (df_Ex j hj).trans (dfl_ok G _ _).symm, cl_Sm_25, in_Ex, iz_Ex⟩
theorem cl_Ex_11 : Cond.classLink "TwoMills$Expander" 11 "TwoMills$Row" ∈ mTs := mT1 233 rfl rfl
theorem n_Ex_11 : nOK "TwoMills$Expander" 11 9 8 := ⟨_, _, ty_Ro, rfl, uw_Ro, tyo_Ro, fun j hj G => (df_Ro j hj).trans (dfl_ok G _ _).symm, cl_Ex_11, in_Ro, iz_Ro⟩
theorem cl_Sm_34 : Cond.classLink "TwoMills$SecondMill" 34 "TwoMills$Expression" ∈ mTs := mT2 10 rfl rfl
theorem n_Sm_34 : nOK "TwoMills$SecondMill" 34 5 6 := ⟨_, _, ty_Es, rfl, uw_Es, tyo_Es, fun j hj G => (df_Es j hj).trans (dfl_ok G _ _).symm, cl_Sm_34, in_Es, iz_Es⟩
theorem cl_Sm_43 : Cond.classLink "TwoMills$SecondMill" 43 "TwoMills$Letters" ∈ mTs := mT2 36 rfl rfl
theorem n_Sm_43 : nOK "TwoMills$SecondMill" 43 1 3 := ⟨_, _, ty_Le, rfl, uw_Le, tyo_Le, fun j hj G => (df_Le j hj).trans (dfl_ok G _ _).symm, cl_Sm_43, in_Le, iz_Le⟩
theorem cl_La_13 : Cond.classLink "TwoMillsLaw" 13 "java/lang/IllegalArgumentException" ∈ mTs := mT2 122 rfl rfl
theorem cl_La_15 : Cond.classLink "TwoMillsLaw" 15 "java/lang/IllegalStateException" ∈ mTs := mT2 123 rfl rfl
theorem cl_T_36 : Cond.classLink "TwoMills" 36 "java/lang/IllegalArgumentException" ∈ mTs := mT2 135 rfl rfl
theorem cl_T_43 : Cond.classLink "TwoMills" 43 "java/lang/IllegalStateException" ∈ mTs := mT2 202 rfl rfl
theorem cl_La_21 : Cond.classLink "TwoMillsLaw" 21 "java/lang/UnsupportedOperationException" ∈ mTs := mT2 224 rfl rfl
theorem cl_Fm_90 : Cond.classLink "TwoMills$FirstMill" 90 "java/lang/UnsupportedOperationException" ∈ mTs := mT2 233 rfl rfl
theorem cl_T_71 : Cond.classLink "TwoMills" 71 "java/lang/UnsupportedOperationException" ∈ mTs := mT4 25 rfl rfl
theorem cl_Sm_101 : Cond.classLink "TwoMills$SecondMill" 101 "java/lang/UnsupportedOperationException" ∈ mTs := mT4 39 rfl rfl
theorem cl_To_34 : Cond.classLink "TwoMills$Tokens" 34 "java/lang/UnsupportedOperationException" ∈ mTs := mT4 118 rfl rfl
theorem cl_La_27 : Cond.classLink "TwoMillsLaw" 27 "TwoMillsModel" ∈ mTs := mT5 157 rfl rfl
theorem n_La_27 : nOK "TwoMillsLaw" 27 12 66 := ⟨_, _, ty_M, rfl, uw_M, tyo_M, fun j hj G => (df_M j hj).trans (dfl_ok G _ _).symm, cl_La_27, in_M, iz_M⟩
theorem mm_min_st : Cond.static Lib.Math.min.name ∈ mTs := mT3 58 rfl rfl
theorem mm_min_co : Cond.code Lib.Math.min.name Lib.Math.min.code 2 (some .int) ∈ mTs := mT3 59 rfl rfl
theorem mm_max_st : Cond.static Lib.Math.max.name ∈ mTs := mT4 71 rfl rfl
theorem mm_max_co : Cond.code Lib.Math.max.name Lib.Math.max.code 2 (some .int) ∈ mTs := mT4 72 rfl rfl
theorem mm_abs_st : Cond.static Lib.Math.abs.name ∈ mTs := mT3 194 rfl rfl
theorem mm_abs_co : Cond.code Lib.Math.abs.name Lib.Math.abs.code 1 (some .int) ∈ mTs := mT3 195 rfl rfl
theorem mm_iz : Cond.initialized "java/lang/Math" ∈ mTs := mT1 20 rfl rfl
theorem cp_iz : Cond.initialized "java/lang/System" ∈ mTs := mT1 18 rfl rfl
theorem cp_st : Cond.static arraycopyName ∈ mTs := mT3 9 rfl rfl
theorem cp_na : Cond.native arraycopyName ∈ mTs := mT3 10 rfl rfl
theorem in_U_ex : Cond.instantiable "java/lang/UnsupportedOperationException" 6 ∈ mTs := mT3 23 rfl rfl
theorem iz_U_ex : Cond.initialized "java/lang/UnsupportedOperationException" ∈ mTs := mT1 19 rfl rfl
theorem in_A_ex : Cond.instantiable "java/lang/IllegalArgumentException" 6 ∈ mTs := mT2 136 rfl rfl
theorem iz_A_ex : Cond.initialized "java/lang/IllegalArgumentException" ∈ mTs := mT1 16 rfl rfl
theorem in_S_ex : Cond.instantiable "java/lang/IllegalStateException" 6 ∈ mTs := mT2 203 rfl rfl
theorem iz_S_ex : Cond.initialized "java/lang/IllegalStateException" ∈ mTs := mT1 17 rfl rfl
def tabs : Nat → List Cond
  | 1 => tables_1_1
  | 2 => tables_1_2
  | 3 => tables_1_3
  | 4 => tables_1_4
  | 5 => tables_1_5
  | 6 => tables_1_6
  | 7 => tables_1_7
  | 8 => tables_1_8
  | _ => []
theorem tab_in {w : Cond} (q : Nat × Nat) (h : (tabs q.1)[q.2]? = some w) (hg : mGw w = true) : w ∈ mTs := by
  obtain ⟨n, j⟩ := q
  revert h
  show (tabs n)[j]? = some w → w ∈ mTs
  unfold tabs
  split
  · exact fun h => mT1 j h hg
  · exact fun h => mT2 j h hg
  · exact fun h => mT3 j h hg
  · exact fun h => mT4 j h hg
  · exact fun h => mT5 j h hg
  · exact fun h => mT6 j h hg
  · exact fun h => mT7 j h hg
  · exact fun h => mT8 j h hg
  · intro h; simp at h
theorem e_all {own : String} {ic : Nat} {X : String} {names : List String} (is1 is2 : List (Nat × Nat)) (h : Bundle.ownAtoms0 own ic X names = is1.filterMap (fun q => (tabs q.1)[q.2]?) ++ (exIs ++ is2.filterMap (fun q => (tabs q.1)[q.2]?))) (hg : (Bundle.ownAtoms0 own ic X names).all (fun a => decide (a ∈ exHs) || mGw a) = true) : ∀ a ∈ Bundle.ownAtoms0 own ic X names, a ∈ exHs ∨ a ∈ mTs := by
  intro a ha
  by_cases hx : a ∈ exHs
  · exact Or.inl hx
  refine Or.inr ?_
  have h1 := List.all_eq_true.mp hg a ha
  have h2 : mGw a = true := by simpa [hx] using h1
  rw [h] at ha
  rcases List.mem_append.mp ha with z | z
  · obtain ⟨q, -, hq⟩ := List.mem_filterMap.mp z
    exact tab_in q hq h2
  · rcases List.mem_append.mp z with z | z
    · exact absurd (List.mem_append_left _ z) hx
    · obtain ⟨q, -, hq⟩ := List.mem_filterMap.mp z
      exact tab_in q hq h2
set_option maxRecDepth 20000 in
theorem e_T_71 : eOK "TwoMills" 71 73 13 "java/lang/UnsupportedOperationException" ["java/lang/RuntimeException", "java/lang/Exception"] := ⟨by decide, rfl, by decide +kernel, by decide +kernel, by decide, cl_T_71, in_U_ex, iz_U_ex, e_all [(1, 13), (2, 157), (2, 166), (2, 170), (2, 173), (2, 175), (2, 158), (2, 159), (1, 32), (1, 33), (2, 160), (2, 165), (2, 171), (2, 187), (2, 147), (2, 188), (2, 149), (2, 189), (2, 151), (2, 161), (2, 162), (2, 163), (2, 164), (2, 153), (3, 32), (3, 33), (3, 34), (2, 180), (2, 138), (2, 180), (2, 181), (2, 182), (2, 183), (2, 140), (2, 183), (2, 184), (2, 185), (2, 158), (2, 142), (4, 26), (3, 23), (3, 24), (3, 25), (2, 169), (3, 26), (3, 27), (3, 28), (3, 29)] [(2, 156), (2, 155), (3, 30)] (by decide +kernel) (by decide +kernel)⟩
set_option maxRecDepth 20000 in
theorem e_Fm_90 : eOK "TwoMills$FirstMill" 90 92 13 "java/lang/UnsupportedOperationException" ["java/lang/RuntimeException", "java/lang/Exception"] := ⟨by decide, rfl, by decide +kernel, by decide +kernel, by decide, cl_Fm_90, in_U_ex, iz_U_ex, e_all [(1, 13), (2, 157), (2, 166), (2, 170), (2, 173), (2, 175), (2, 158), (2, 159), (1, 32), (1, 33), (2, 160), (2, 165), (2, 171), (2, 187), (2, 147), (2, 188), (2, 149), (2, 189), (2, 151), (2, 161), (2, 162), (2, 163), (2, 164), (2, 153), (3, 32), (3, 33), (3, 34), (2, 180), (2, 138), (2, 180), (2, 181), (2, 182), (2, 183), (2, 140), (2, 183), (2, 184), (2, 185), (2, 158), (2, 142), (3, 31), (3, 23), (3, 24), (3, 25), (2, 169), (3, 26), (3, 27), (3, 28), (3, 29)] [(2, 156), (2, 155), (3, 30)] (by decide +kernel) (by decide +kernel)⟩
set_option maxRecDepth 20000 in
theorem e_To_34 : eOK "TwoMills$Tokens" 34 36 13 "java/lang/UnsupportedOperationException" ["java/lang/RuntimeException", "java/lang/Exception"] := ⟨by decide, rfl, by decide +kernel, by decide +kernel, by decide, cl_To_34, in_U_ex, iz_U_ex, e_all [(1, 13), (2, 157), (2, 166), (2, 170), (2, 173), (2, 175), (2, 158), (2, 159), (1, 32), (1, 33), (2, 160), (2, 165), (2, 171), (2, 187), (2, 147), (2, 188), (2, 149), (2, 189), (2, 151), (2, 161), (2, 162), (2, 163), (2, 164), (2, 153), (3, 32), (3, 33), (3, 34), (2, 180), (2, 138), (2, 180), (2, 181), (2, 182), (2, 183), (2, 140), (2, 183), (2, 184), (2, 185), (2, 158), (2, 142), (4, 119), (3, 23), (3, 24), (3, 25), (2, 169), (3, 26), (3, 27), (3, 28), (3, 29)] [(2, 156), (2, 155), (3, 30)] (by decide +kernel) (by decide +kernel)⟩
set_option maxRecDepth 20000 in
theorem e_T_36 : eOK "TwoMills" 36 38 14 "java/lang/IllegalArgumentException" ["java/lang/RuntimeException", "java/lang/Exception"] := ⟨by decide, rfl, by decide +kernel, by decide +kernel, by decide, cl_T_36, in_A_ex, iz_A_ex, e_all [(1, 13), (2, 157), (2, 166), (2, 170), (2, 173), (2, 175), (2, 158), (2, 159), (1, 32), (1, 33), (2, 160), (2, 165), (2, 171), (2, 187), (2, 147), (2, 188), (2, 149), (2, 189), (2, 151), (2, 161), (2, 162), (2, 163), (2, 164), (2, 153), (2, 177), (2, 178), (2, 179), (2, 180), (2, 138), (2, 180), (2, 181), (2, 182), (2, 183), (2, 140), (2, 183), (2, 184), (2, 185), (2, 158), (2, 142), (2, 176), (2, 136), (2, 137), (2, 144), (2, 145), (2, 146), (2, 148), (2, 150), (2, 152)] [(2, 156), (2, 155), (2, 154)] (by decide +kernel) (by decide +kernel)⟩
set_option maxRecDepth 20000 in
theorem e_T_43 : eOK "TwoMills" 43 45 15 "java/lang/IllegalStateException" ["java/lang/RuntimeException", "java/lang/Exception"] := ⟨by decide, rfl, by decide +kernel, by decide +kernel, by decide, cl_T_43, in_S_ex, iz_S_ex, e_all [(1, 13), (2, 157), (2, 166), (2, 170), (2, 173), (2, 175), (2, 158), (2, 159), (1, 32), (1, 33), (2, 160), (2, 165), (2, 171), (2, 187), (2, 147), (2, 188), (2, 149), (2, 189), (2, 151), (2, 161), (2, 162), (2, 163), (2, 164), (2, 153), (2, 212), (2, 213), (2, 214), (2, 180), (2, 138), (2, 180), (2, 181), (2, 182), (2, 183), (2, 140), (2, 183), (2, 184), (2, 185), (2, 158), (2, 142), (2, 211), (2, 203), (2, 204), (2, 205), (2, 168), (2, 206), (2, 207), (2, 208), (2, 209)] [(2, 156), (2, 155), (2, 210)] (by decide +kernel) (by decide +kernel)⟩
