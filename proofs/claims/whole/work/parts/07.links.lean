theorem inT1 {w : Cond} (i : Nat) (h : tables_1_1[i]? = some w) (hg : goodWord w = true) : w ∈ TB := List.mem_filter.mpr ⟨List.mem_append_right _ (List.mem_append_left _ (List.mem_of_getElem? h)), hg⟩
theorem inT2 {w : Cond} (i : Nat) (h : tables_1_2[i]? = some w) (hg : goodWord w = true) : w ∈ TB := List.mem_filter.mpr ⟨List.mem_append_right _ (List.mem_append_right _ (List.mem_append_left _ (List.mem_of_getElem? h))), hg⟩
theorem inT3 {w : Cond} (i : Nat) (h : tables_1_3[i]? = some w) (hg : goodWord w = true) : w ∈ TB := List.mem_filter.mpr ⟨List.mem_append_right _ (List.mem_append_right _ (List.mem_append_right _ (List.mem_append_left _ (List.mem_of_getElem? h)))), hg⟩
theorem inT4 {w : Cond} (i : Nat) (h : tables_1_4[i]? = some w) (hg : goodWord w = true) : w ∈ TB := List.mem_filter.mpr ⟨List.mem_append_right _ (List.mem_append_right _ (List.mem_append_right _ (List.mem_append_right _ (List.mem_append_left _ (List.mem_of_getElem? h))))), hg⟩
theorem inT5 {w : Cond} (i : Nat) (h : tables_1_5[i]? = some w) (hg : goodWord w = true) : w ∈ TB := List.mem_filter.mpr ⟨List.mem_append_right _ (List.mem_append_right _ (List.mem_append_right _ (List.mem_append_right _ (List.mem_append_right _ (List.mem_append_left _ (List.mem_of_getElem? h)))))), hg⟩
theorem inT6 {w : Cond} (i : Nat) (h : tables_1_6[i]? = some w) (hg : goodWord w = true) : w ∈ TB := List.mem_filter.mpr ⟨List.mem_append_right _ (List.mem_append_right _ (List.mem_append_right _ (List.mem_append_right _ (List.mem_append_right _ (List.mem_append_right _ (List.mem_append_left _ (List.mem_of_getElem? h))))))), hg⟩
theorem inT7 {w : Cond} (i : Nat) (h : tables_1_7[i]? = some w) (hg : goodWord w = true) : w ∈ TB := List.mem_filter.mpr ⟨List.mem_append_right _ (List.mem_append_right _ (List.mem_append_right _ (List.mem_append_right _ (List.mem_append_right _ (List.mem_append_right _ (List.mem_append_right _ (List.mem_append_left _ (List.mem_of_getElem? h)))))))), hg⟩
theorem inT8 {w : Cond} (i : Nat) (h : tables_1_8[i]? = some w) (hg : goodWord w = true) : w ∈ TB := List.mem_filter.mpr ⟨List.mem_append_right _ (List.mem_append_right _ (List.mem_append_right _ (List.mem_append_right _ (List.mem_append_right _ (List.mem_append_right _ (List.mem_append_right _ (List.mem_append_right _ (List.mem_of_getElem? h)))))))), hg⟩
theorem inP1 {y : MethodName} {n : Nat} (i : Nat) (h : lw_privs_1[i]? = some (y, n)) : Cond.selects y.cls y y ∈ TB := List.mem_filter.mpr ⟨List.mem_append_left _ (List.mem_map.mpr ⟨(y, n), List.mem_append_left _ (List.mem_of_getElem? h), rfl⟩), rfl⟩
theorem inP2 {y : MethodName} {n : Nat} (i : Nat) (h : lw_privs_2[i]? = some (y, n)) : Cond.selects y.cls y y ∈ TB := List.mem_filter.mpr ⟨List.mem_append_left _ (List.mem_map.mpr ⟨(y, n), List.mem_append_right _ (List.mem_append_left _ (List.mem_of_getElem? h)), rfl⟩), rfl⟩
theorem inP3 {y : MethodName} {n : Nat} (i : Nat) (h : lw_privs_3[i]? = some (y, n)) : Cond.selects y.cls y y ∈ TB := List.mem_filter.mpr ⟨List.mem_append_left _ (List.mem_map.mpr ⟨(y, n), List.mem_append_right _ (List.mem_append_right _ (List.mem_append_left _ (List.mem_of_getElem? h))), rfl⟩), rfl⟩
theorem inP4 {y : MethodName} {n : Nat} (i : Nat) (h : lw_privs_4[i]? = some (y, n)) : Cond.selects y.cls y y ∈ TB := List.mem_filter.mpr ⟨List.mem_append_left _ (List.mem_map.mpr ⟨(y, n), List.mem_append_right _ (List.mem_append_right _ (List.mem_append_right _ (List.mem_append_left _ (List.mem_of_getElem? h)))), rfl⟩), rfl⟩
theorem inP5 {y : MethodName} {n : Nat} (i : Nat) (h : lw_privs_5[i]? = some (y, n)) : Cond.selects y.cls y y ∈ TB := List.mem_filter.mpr ⟨List.mem_append_left _ (List.mem_map.mpr ⟨(y, n), List.mem_append_right _ (List.mem_append_right _ (List.mem_append_right _ (List.mem_append_right _ (List.mem_append_left _ (List.mem_of_getElem? h))))), rfl⟩), rfl⟩
theorem inP6 {y : MethodName} {n : Nat} (i : Nat) (h : lw_privs_6[i]? = some (y, n)) : Cond.selects y.cls y y ∈ TB := List.mem_filter.mpr ⟨List.mem_append_left _ (List.mem_map.mpr ⟨(y, n), List.mem_append_right _ (List.mem_append_right _ (List.mem_append_right _ (List.mem_append_right _ (List.mem_append_right _ (List.mem_append_left _ (List.mem_of_getElem? h)))))), rfl⟩), rfl⟩
theorem inP7 {y : MethodName} {n : Nat} (i : Nat) (h : lw_privs_7[i]? = some (y, n)) : Cond.selects y.cls y y ∈ TB := List.mem_filter.mpr ⟨List.mem_append_left _ (List.mem_map.mpr ⟨(y, n), List.mem_append_right _ (List.mem_append_right _ (List.mem_append_right _ (List.mem_append_right _ (List.mem_append_right _ (List.mem_append_right _ (List.mem_of_getElem? h)))))), rfl⟩), rfl⟩
def shCl : List (Nat ⊕ (Nat × Nat)) := [.inl 9, .inl 6, .inr (2, 1000), .inl 7, .inr (1, 7), .inr (0, 7), .inr (0, 7), .inr (0, 7), .inr (0, 7), .inr (0, 7), .inr (0, 12), .inl 0, .inr (0, 1000), .inr (0, 24), .inl 0, .inr (0, 1000), .inr (0, 24), .inl 7, .inr (1, 7), .inr (0, 7), .inr (0, 7), .inr (0, 7), .inr (0, 7), .inr (0, 7), .inr (0, 12), .inl 0, .inr (0, 1000), .inr (0, 24), .inl 0, .inr (0, 1000), .inr (0, 24), .inl 8, .inr (0, 40), .inr (0, 40), .inr (0, 40), .inl 5, .inr (0, 7), .inr (0, 7), .inr (0, 7), .inr (0, 7), .inl 4, .inl 5, .inr (0, 7), .inr (0, 7), .inr (0, 7), .inr (0, 7), .inl 8, .inr (0, 40), .inr (0, 40), .inr (0, 40), .inr (0, 8), .inr (0, 8), .inl 5, .inr (0, 7), .inr (0, 7), .inr (0, 7), .inr (0, 7), .inr (4, 4), .inr (3, 4), .inr (5, 16), .inl 1, .inl 2, .inr (0, 7), .inr (0, 56), .inr (0, 1024), .inr (0, 128), .inr (0, 128), .inr (0, 7), .inl 3, .inr (0, 7), .inr (0, 7), .inr (1, 7), .inl 4, .inl 5, .inr (0, 7), .inr (0, 7), .inr (0, 7), .inr (0, 7), .inl 8, .inr (0, 40), .inr (0, 40), .inr (0, 40), .inr (0, 8), .inr (0, 8), .inl 4, .inl 5, .inr (0, 7), .inr (0, 7), .inr (0, 7), .inr (0, 7), .inl 8, .inr (0, 40), .inr (0, 40), .inr (0, 40), .inr (0, 8), .inr (0, 8), .inl 4, .inl 5, .inr (0, 7), .inr (0, 7), .inr (0, 7), .inr (0, 7), .inl 8, .inr (0, 40), .inr (0, 40), .inr (0, 40), .inr (0, 8), .inr (0, 8), .inl 4, .inl 5, .inr (0, 7), .inr (0, 7), .inr (0, 7), .inr (0, 7), .inl 8, .inr (0, 40), .inr (0, 40), .inr (0, 40), .inr (0, 8), .inr (0, 8), .inl 5, .inr (0, 7), .inr (0, 7), .inr (0, 7), .inr (0, 7), .inl 5, .inr (0, 7), .inr (0, 7), .inr (0, 7), .inr (0, 7), .inl 5, .inr (0, 7), .inr (0, 7), .inr (0, 7), .inr (0, 7), .inl 5, .inr (0, 7), .inr (0, 7), .inr (0, 7), .inr (0, 7), .inl 5, .inr (0, 7), .inr (0, 7), .inr (0, 7), .inr (0, 7), .inl 5, .inr (0, 7), .inr (0, 7), .inr (0, 7), .inr (0, 7), .inl 5, .inr (0, 7), .inr (0, 7), .inr (0, 7), .inr (0, 7), .inl 5, .inr (0, 7), .inr (0, 7), .inr (0, 7), .inr (0, 7), .inl 5, .inr (0, 7), .inr (0, 7), .inr (0, 7), .inr (0, 7), .inl 5, .inr (0, 7), .inr (0, 7), .inr (0, 7), .inr (0, 7), .inl 5, .inr (0, 7), .inr (0, 7), .inr (0, 7), .inr (0, 7), .inl 5, .inr (0, 7), .inr (0, 7), .inr (0, 7), .inr (0, 7), .inl 5, .inr (0, 7), .inr (0, 7), .inr (0, 7), .inr (0, 7), .inl 5, .inr (0, 7), .inr (0, 7), .inr (0, 7), .inr (0, 7), .inl 5, .inr (0, 7), .inr (0, 7), .inr (0, 7), .inr (0, 7), .inl 5, .inr (0, 7), .inr (0, 7), .inr (0, 7), .inr (0, 7)]
def shMl : List (Nat ⊕ (Nat × Nat)) := [.inl 10, .inr (0, 1000), .inr (0, 8), .inr (1, 14), .inr (0, 14), .inr (0, 14), .inr (0, 14), .inr (0, 14), .inr (0, 14), .inr (0, 24), .inr (0, 4), .inr (0, 4), .inr (0, 2000), .inr (0, 7), .inr (3, 7), .inr (0, 7), .inr (0, 7), .inr (0, 7), .inr (0, 7), .inr (0, 7), .inr (0, 7), .inr (0, 7), .inr (0, 7), .inr (0, 7), .inr (0, 20), .inr (0, 6), .inr (0, 240), .inr (0, 240), .inr (0, 240), .inr (0, 5), .inr (0, 5), .inr (0, 40), .inr (0, 40), .inr (0, 33), .inr (0, 33), .inr (0, 132), .inr (0, 528), .inr (3, 4), .inr (0, 7), .inr (0, 7), .inr (0, 7), .inr (0, 128), .inr (0, 128), .inr (0, 49), .inr (1, 7)]
abbrev NN : Nat := 200
abbrev NM : Nat := 45
def shC : Sh := fun c => if c = 0 then .inr (9, 0) else shCl.getD (c - 1) (.inr (9, 0))
def shM : Sh := fun c => if c = 0 then .inr (9, 0) else shMl.getD (c - 1) (.inr (9, 0))
def ofs : Nat → List Nat
  | 0 => [0, 1, 2, 0]
  | 1 => [0, 0, 0, 0, 0, 0, 0]
  | 2 => [1, 0, 2, 3, 4, 5, 6]
  | 3 => [0, 0, 0, 1, 2]
  | 4 => [1, 6, 10, 11, 0, 0]
  | 5 => [1, 2, 3, 4, 0, 0, 0, 0, 0]
  | 6 => [1, 0, 0, 0, 0, 0, 0, 0, 0, 0, 0, 0]
  | 7 => [1, 2, 3, 4, 5, 6, 7, 8, 11, 0, 0, 0, 0, 0]
  | 8 => [1, 2, 3, 0]
  | 9 => [1, 0, 0, 31, 35, 40, 52, 57, 58, 59, 0, 0, 60, 61, 68, 71]
  | 10 => [0, 0, 1, 0, 0, 0, 0, 0, 0, 0, 2, 3, 4, 5, 6, 7, 8, 9, 10, 11, 12, 0, 0, 0, 13, 14, 15, 16, 17, 18, 19, 20, 21, 22, 23, 24, 0, 25, 26, 27, 28, 29, 30, 31, 32, 33, 34, 35, 36, 37, 0, 0, 38, 39, 0, 0, 40, 41, 42, 43, 44, 0]
  | _ => []
def RRC : Rr := fun c k => match shC c with
  | .inl ci => c + (ofs ci).getD k 0
  | .inr q => if q.1 = 4 then 73 + 12 * k else if q.1 = 5 then 121 + 5 * k else 0
def RRM : Rr := fun c k => match shM c with
  | .inl ci => c + (ofs ci).getD k 0
  | .inr _ => 0
theorem at1C : At shC NN 1 (.inl 9) := ⟨rfl, by decide, by decide⟩
theorem at1M : At shM NM 1 (.inl 10) := ⟨rfl, by decide, by decide⟩
theorem atC_1 : At shC NN 1 (.inl 9) := ⟨rfl, by decide, by decide⟩
theorem atC_2 : At shC NN 2 (.inl 6) := ⟨rfl, by decide, by decide⟩
theorem atC_3 : At shC NN 3 (.inr (2, 1000)) := ⟨rfl, by decide, by decide⟩
theorem atC_4 : At shC NN 4 (.inl 7) := ⟨rfl, by decide, by decide⟩
theorem atC_5 : At shC NN 5 (.inr (1, 7)) := ⟨rfl, by decide, by decide⟩
theorem atC_6 : At shC NN 6 (.inr (0, 7)) := ⟨rfl, by decide, by decide⟩
theorem atC_7 : At shC NN 7 (.inr (0, 7)) := ⟨rfl, by decide, by decide⟩
theorem atC_8 : At shC NN 8 (.inr (0, 7)) := ⟨rfl, by decide, by decide⟩
theorem atC_9 : At shC NN 9 (.inr (0, 7)) := ⟨rfl, by decide, by decide⟩
theorem atC_10 : At shC NN 10 (.inr (0, 7)) := ⟨rfl, by decide, by decide⟩
theorem atC_11 : At shC NN 11 (.inr (0, 12)) := ⟨rfl, by decide, by decide⟩
theorem atC_12 : At shC NN 12 (.inl 0) := ⟨rfl, by decide, by decide⟩
theorem atC_13 : At shC NN 13 (.inr (0, 1000)) := ⟨rfl, by decide, by decide⟩
theorem atC_14 : At shC NN 14 (.inr (0, 24)) := ⟨rfl, by decide, by decide⟩
theorem atC_15 : At shC NN 15 (.inl 0) := ⟨rfl, by decide, by decide⟩
theorem atC_16 : At shC NN 16 (.inr (0, 1000)) := ⟨rfl, by decide, by decide⟩
theorem atC_17 : At shC NN 17 (.inr (0, 24)) := ⟨rfl, by decide, by decide⟩
theorem atC_18 : At shC NN 18 (.inl 7) := ⟨rfl, by decide, by decide⟩
theorem atC_19 : At shC NN 19 (.inr (1, 7)) := ⟨rfl, by decide, by decide⟩
theorem atC_20 : At shC NN 20 (.inr (0, 7)) := ⟨rfl, by decide, by decide⟩
theorem atC_21 : At shC NN 21 (.inr (0, 7)) := ⟨rfl, by decide, by decide⟩
theorem atC_22 : At shC NN 22 (.inr (0, 7)) := ⟨rfl, by decide, by decide⟩
theorem atC_23 : At shC NN 23 (.inr (0, 7)) := ⟨rfl, by decide, by decide⟩
theorem atC_24 : At shC NN 24 (.inr (0, 7)) := ⟨rfl, by decide, by decide⟩
theorem atC_25 : At shC NN 25 (.inr (0, 12)) := ⟨rfl, by decide, by decide⟩
theorem atC_26 : At shC NN 26 (.inl 0) := ⟨rfl, by decide, by decide⟩
theorem atC_27 : At shC NN 27 (.inr (0, 1000)) := ⟨rfl, by decide, by decide⟩
theorem atC_28 : At shC NN 28 (.inr (0, 24)) := ⟨rfl, by decide, by decide⟩
theorem atC_29 : At shC NN 29 (.inl 0) := ⟨rfl, by decide, by decide⟩
theorem atC_30 : At shC NN 30 (.inr (0, 1000)) := ⟨rfl, by decide, by decide⟩
theorem atC_31 : At shC NN 31 (.inr (0, 24)) := ⟨rfl, by decide, by decide⟩
theorem atC_32 : At shC NN 32 (.inl 8) := ⟨rfl, by decide, by decide⟩
theorem atC_33 : At shC NN 33 (.inr (0, 40)) := ⟨rfl, by decide, by decide⟩
theorem atC_34 : At shC NN 34 (.inr (0, 40)) := ⟨rfl, by decide, by decide⟩
theorem atC_35 : At shC NN 35 (.inr (0, 40)) := ⟨rfl, by decide, by decide⟩
theorem atC_36 : At shC NN 36 (.inl 5) := ⟨rfl, by decide, by decide⟩
theorem atC_37 : At shC NN 37 (.inr (0, 7)) := ⟨rfl, by decide, by decide⟩
theorem atC_38 : At shC NN 38 (.inr (0, 7)) := ⟨rfl, by decide, by decide⟩
theorem atC_39 : At shC NN 39 (.inr (0, 7)) := ⟨rfl, by decide, by decide⟩
theorem atC_40 : At shC NN 40 (.inr (0, 7)) := ⟨rfl, by decide, by decide⟩
theorem atC_41 : At shC NN 41 (.inl 4) := ⟨rfl, by decide, by decide⟩
theorem atC_42 : At shC NN 42 (.inl 5) := ⟨rfl, by decide, by decide⟩
theorem atC_43 : At shC NN 43 (.inr (0, 7)) := ⟨rfl, by decide, by decide⟩
theorem atC_44 : At shC NN 44 (.inr (0, 7)) := ⟨rfl, by decide, by decide⟩
theorem atC_45 : At shC NN 45 (.inr (0, 7)) := ⟨rfl, by decide, by decide⟩
theorem atC_46 : At shC NN 46 (.inr (0, 7)) := ⟨rfl, by decide, by decide⟩
theorem atC_47 : At shC NN 47 (.inl 8) := ⟨rfl, by decide, by decide⟩
theorem atC_48 : At shC NN 48 (.inr (0, 40)) := ⟨rfl, by decide, by decide⟩
theorem atC_49 : At shC NN 49 (.inr (0, 40)) := ⟨rfl, by decide, by decide⟩
theorem atC_50 : At shC NN 50 (.inr (0, 40)) := ⟨rfl, by decide, by decide⟩
theorem atC_51 : At shC NN 51 (.inr (0, 8)) := ⟨rfl, by decide, by decide⟩
theorem atC_52 : At shC NN 52 (.inr (0, 8)) := ⟨rfl, by decide, by decide⟩
theorem atC_53 : At shC NN 53 (.inl 5) := ⟨rfl, by decide, by decide⟩
theorem atC_54 : At shC NN 54 (.inr (0, 7)) := ⟨rfl, by decide, by decide⟩
theorem atC_55 : At shC NN 55 (.inr (0, 7)) := ⟨rfl, by decide, by decide⟩
theorem atC_56 : At shC NN 56 (.inr (0, 7)) := ⟨rfl, by decide, by decide⟩
theorem atC_57 : At shC NN 57 (.inr (0, 7)) := ⟨rfl, by decide, by decide⟩
theorem atC_58 : At shC NN 58 (.inr (4, 4)) := ⟨rfl, by decide, by decide⟩
theorem atC_59 : At shC NN 59 (.inr (3, 4)) := ⟨rfl, by decide, by decide⟩
theorem atC_60 : At shC NN 60 (.inr (5, 16)) := ⟨rfl, by decide, by decide⟩
theorem atC_61 : At shC NN 61 (.inl 1) := ⟨rfl, by decide, by decide⟩
theorem atC_62 : At shC NN 62 (.inl 2) := ⟨rfl, by decide, by decide⟩
theorem atC_63 : At shC NN 63 (.inr (0, 7)) := ⟨rfl, by decide, by decide⟩
theorem atC_64 : At shC NN 64 (.inr (0, 56)) := ⟨rfl, by decide, by decide⟩
theorem atC_65 : At shC NN 65 (.inr (0, 1024)) := ⟨rfl, by decide, by decide⟩
theorem atC_66 : At shC NN 66 (.inr (0, 128)) := ⟨rfl, by decide, by decide⟩
theorem atC_67 : At shC NN 67 (.inr (0, 128)) := ⟨rfl, by decide, by decide⟩
theorem atC_68 : At shC NN 68 (.inr (0, 7)) := ⟨rfl, by decide, by decide⟩
theorem atC_69 : At shC NN 69 (.inl 3) := ⟨rfl, by decide, by decide⟩
theorem atC_70 : At shC NN 70 (.inr (0, 7)) := ⟨rfl, by decide, by decide⟩
theorem atC_71 : At shC NN 71 (.inr (0, 7)) := ⟨rfl, by decide, by decide⟩
theorem atC_72 : At shC NN 72 (.inr (1, 7)) := ⟨rfl, by decide, by decide⟩
theorem atM_1 : At shM NM 1 (.inl 10) := ⟨rfl, by decide, by decide⟩
theorem atM_2 : At shM NM 2 (.inr (0, 1000)) := ⟨rfl, by decide, by decide⟩
theorem atM_3 : At shM NM 3 (.inr (0, 8)) := ⟨rfl, by decide, by decide⟩
theorem atM_4 : At shM NM 4 (.inr (1, 14)) := ⟨rfl, by decide, by decide⟩
theorem atM_5 : At shM NM 5 (.inr (0, 14)) := ⟨rfl, by decide, by decide⟩
theorem atM_6 : At shM NM 6 (.inr (0, 14)) := ⟨rfl, by decide, by decide⟩
theorem atM_7 : At shM NM 7 (.inr (0, 14)) := ⟨rfl, by decide, by decide⟩
theorem atM_8 : At shM NM 8 (.inr (0, 14)) := ⟨rfl, by decide, by decide⟩
theorem atM_9 : At shM NM 9 (.inr (0, 14)) := ⟨rfl, by decide, by decide⟩
theorem atM_10 : At shM NM 10 (.inr (0, 24)) := ⟨rfl, by decide, by decide⟩
theorem atM_11 : At shM NM 11 (.inr (0, 4)) := ⟨rfl, by decide, by decide⟩
theorem atM_12 : At shM NM 12 (.inr (0, 4)) := ⟨rfl, by decide, by decide⟩
theorem atM_13 : At shM NM 13 (.inr (0, 2000)) := ⟨rfl, by decide, by decide⟩
theorem atM_14 : At shM NM 14 (.inr (0, 7)) := ⟨rfl, by decide, by decide⟩
theorem atM_15 : At shM NM 15 (.inr (3, 7)) := ⟨rfl, by decide, by decide⟩
theorem atM_16 : At shM NM 16 (.inr (0, 7)) := ⟨rfl, by decide, by decide⟩
theorem atM_17 : At shM NM 17 (.inr (0, 7)) := ⟨rfl, by decide, by decide⟩
theorem atM_18 : At shM NM 18 (.inr (0, 7)) := ⟨rfl, by decide, by decide⟩
theorem atM_19 : At shM NM 19 (.inr (0, 7)) := ⟨rfl, by decide, by decide⟩
theorem atM_20 : At shM NM 20 (.inr (0, 7)) := ⟨rfl, by decide, by decide⟩
theorem atM_21 : At shM NM 21 (.inr (0, 7)) := ⟨rfl, by decide, by decide⟩
theorem atM_22 : At shM NM 22 (.inr (0, 7)) := ⟨rfl, by decide, by decide⟩
theorem atM_23 : At shM NM 23 (.inr (0, 7)) := ⟨rfl, by decide, by decide⟩
theorem atM_24 : At shM NM 24 (.inr (0, 7)) := ⟨rfl, by decide, by decide⟩
theorem atM_25 : At shM NM 25 (.inr (0, 20)) := ⟨rfl, by decide, by decide⟩
theorem atM_26 : At shM NM 26 (.inr (0, 6)) := ⟨rfl, by decide, by decide⟩
theorem atM_27 : At shM NM 27 (.inr (0, 240)) := ⟨rfl, by decide, by decide⟩
theorem atM_28 : At shM NM 28 (.inr (0, 240)) := ⟨rfl, by decide, by decide⟩
theorem atM_29 : At shM NM 29 (.inr (0, 240)) := ⟨rfl, by decide, by decide⟩
theorem atM_30 : At shM NM 30 (.inr (0, 5)) := ⟨rfl, by decide, by decide⟩
theorem atM_31 : At shM NM 31 (.inr (0, 5)) := ⟨rfl, by decide, by decide⟩
theorem atM_32 : At shM NM 32 (.inr (0, 40)) := ⟨rfl, by decide, by decide⟩
theorem atM_33 : At shM NM 33 (.inr (0, 40)) := ⟨rfl, by decide, by decide⟩
theorem atM_34 : At shM NM 34 (.inr (0, 33)) := ⟨rfl, by decide, by decide⟩
theorem atM_35 : At shM NM 35 (.inr (0, 33)) := ⟨rfl, by decide, by decide⟩
theorem atM_36 : At shM NM 36 (.inr (0, 132)) := ⟨rfl, by decide, by decide⟩
theorem atM_37 : At shM NM 37 (.inr (0, 528)) := ⟨rfl, by decide, by decide⟩
theorem atM_38 : At shM NM 38 (.inr (3, 4)) := ⟨rfl, by decide, by decide⟩
theorem atM_39 : At shM NM 39 (.inr (0, 7)) := ⟨rfl, by decide, by decide⟩
theorem atM_40 : At shM NM 40 (.inr (0, 7)) := ⟨rfl, by decide, by decide⟩
theorem atM_41 : At shM NM 41 (.inr (0, 7)) := ⟨rfl, by decide, by decide⟩
theorem atM_42 : At shM NM 42 (.inr (0, 128)) := ⟨rfl, by decide, by decide⟩
theorem atM_43 : At shM NM 43 (.inr (0, 128)) := ⟨rfl, by decide, by decide⟩
theorem atM_44 : At shM NM 44 (.inr (0, 49)) := ⟨rfl, by decide, by decide⟩
theorem atM_45 : At shM NM 45 (.inr (1, 7)) := ⟨rfl, by decide, by decide⟩
theorem aw_0_1 : ∀ b, b ≤ 200 → shC b = .inl 0 → (shC (b + 1) = .inr (0, 1000) ∧ b + 1 ≤ 200) := by decide +kernel
theorem at_0_1 {b : Nat} (h : At shC NN b (.inl 0)) : At shC NN (b + 1) (.inr (0, 1000)) := ⟨(aw_0_1 b h.2.2 h.1).1, by omega, (aw_0_1 b h.2.2 h.1).2⟩
theorem rr_0_1 {b : Nat} (h : At shC NN b (.inl 0)) : RRC b 1 = b + 1 := by unfold RRC; rw [h.1]; rfl
theorem aw_0_2 : ∀ b, b ≤ 200 → shC b = .inl 0 → (shC (b + 2) = .inr (0, 24) ∧ b + 2 ≤ 200) := by decide +kernel
theorem at_0_2 {b : Nat} (h : At shC NN b (.inl 0)) : At shC NN (b + 2) (.inr (0, 24)) := ⟨(aw_0_2 b h.2.2 h.1).1, by omega, (aw_0_2 b h.2.2 h.1).2⟩
theorem rr_0_2 {b : Nat} (h : At shC NN b (.inl 0)) : RRC b 2 = b + 2 := by unfold RRC; rw [h.1]; rfl
theorem aw_2_0 : ∀ b, b ≤ 200 → shC b = .inl 2 → (shC (b + 1) = .inr (0, 7) ∧ b + 1 ≤ 200) := by decide +kernel
theorem at_2_0 {b : Nat} (h : At shC NN b (.inl 2)) : At shC NN (b + 1) (.inr (0, 7)) := ⟨(aw_2_0 b h.2.2 h.1).1, by omega, (aw_2_0 b h.2.2 h.1).2⟩
theorem rr_2_0 {b : Nat} (h : At shC NN b (.inl 2)) : RRC b 0 = b + 1 := by unfold RRC; rw [h.1]; rfl
theorem aw_2_2 : ∀ b, b ≤ 200 → shC b = .inl 2 → (shC (b + 2) = .inr (0, 56) ∧ b + 2 ≤ 200) := by decide +kernel
theorem at_2_2 {b : Nat} (h : At shC NN b (.inl 2)) : At shC NN (b + 2) (.inr (0, 56)) := ⟨(aw_2_2 b h.2.2 h.1).1, by omega, (aw_2_2 b h.2.2 h.1).2⟩
theorem rr_2_2 {b : Nat} (h : At shC NN b (.inl 2)) : RRC b 2 = b + 2 := by unfold RRC; rw [h.1]; rfl
theorem aw_2_3 : ∀ b, b ≤ 200 → shC b = .inl 2 → (shC (b + 3) = .inr (0, 1024) ∧ b + 3 ≤ 200) := by decide +kernel
theorem at_2_3 {b : Nat} (h : At shC NN b (.inl 2)) : At shC NN (b + 3) (.inr (0, 1024)) := ⟨(aw_2_3 b h.2.2 h.1).1, by omega, (aw_2_3 b h.2.2 h.1).2⟩
theorem rr_2_3 {b : Nat} (h : At shC NN b (.inl 2)) : RRC b 3 = b + 3 := by unfold RRC; rw [h.1]; rfl
theorem aw_2_4 : ∀ b, b ≤ 200 → shC b = .inl 2 → (shC (b + 4) = .inr (0, 128) ∧ b + 4 ≤ 200) := by decide +kernel
theorem at_2_4 {b : Nat} (h : At shC NN b (.inl 2)) : At shC NN (b + 4) (.inr (0, 128)) := ⟨(aw_2_4 b h.2.2 h.1).1, by omega, (aw_2_4 b h.2.2 h.1).2⟩
theorem rr_2_4 {b : Nat} (h : At shC NN b (.inl 2)) : RRC b 4 = b + 4 := by unfold RRC; rw [h.1]; rfl
theorem aw_2_5 : ∀ b, b ≤ 200 → shC b = .inl 2 → (shC (b + 5) = .inr (0, 128) ∧ b + 5 ≤ 200) := by decide +kernel
theorem at_2_5 {b : Nat} (h : At shC NN b (.inl 2)) : At shC NN (b + 5) (.inr (0, 128)) := ⟨(aw_2_5 b h.2.2 h.1).1, by omega, (aw_2_5 b h.2.2 h.1).2⟩
theorem rr_2_5 {b : Nat} (h : At shC NN b (.inl 2)) : RRC b 5 = b + 5 := by unfold RRC; rw [h.1]; rfl
theorem aw_2_6 : ∀ b, b ≤ 200 → shC b = .inl 2 → (shC (b + 6) = .inr (0, 7) ∧ b + 6 ≤ 200) := by decide +kernel
theorem at_2_6 {b : Nat} (h : At shC NN b (.inl 2)) : At shC NN (b + 6) (.inr (0, 7)) := ⟨(aw_2_6 b h.2.2 h.1).1, by omega, (aw_2_6 b h.2.2 h.1).2⟩
theorem rr_2_6 {b : Nat} (h : At shC NN b (.inl 2)) : RRC b 6 = b + 6 := by unfold RRC; rw [h.1]; rfl
theorem aw_3_3 : ∀ b, b ≤ 200 → shC b = .inl 3 → (shC (b + 1) = .inr (0, 7) ∧ b + 1 ≤ 200) := by decide +kernel
theorem at_3_3 {b : Nat} (h : At shC NN b (.inl 3)) : At shC NN (b + 1) (.inr (0, 7)) := ⟨(aw_3_3 b h.2.2 h.1).1, by omega, (aw_3_3 b h.2.2 h.1).2⟩
theorem rr_3_3 {b : Nat} (h : At shC NN b (.inl 3)) : RRC b 3 = b + 1 := by unfold RRC; rw [h.1]; rfl
theorem aw_3_4 : ∀ b, b ≤ 200 → shC b = .inl 3 → (shC (b + 2) = .inr (0, 7) ∧ b + 2 ≤ 200) := by decide +kernel
theorem at_3_4 {b : Nat} (h : At shC NN b (.inl 3)) : At shC NN (b + 2) (.inr (0, 7)) := ⟨(aw_3_4 b h.2.2 h.1).1, by omega, (aw_3_4 b h.2.2 h.1).2⟩
theorem rr_3_4 {b : Nat} (h : At shC NN b (.inl 3)) : RRC b 4 = b + 2 := by unfold RRC; rw [h.1]; rfl
theorem aw_4_0 : ∀ b, b ≤ 200 → shC b = .inl 4 → (shC (b + 1) = .inl 5 ∧ b + 1 ≤ 200) := by decide +kernel
theorem at_4_0 {b : Nat} (h : At shC NN b (.inl 4)) : At shC NN (b + 1) (.inl 5) := ⟨(aw_4_0 b h.2.2 h.1).1, by omega, (aw_4_0 b h.2.2 h.1).2⟩
theorem rr_4_0 {b : Nat} (h : At shC NN b (.inl 4)) : RRC b 0 = b + 1 := by unfold RRC; rw [h.1]; rfl
theorem aw_4_1 : ∀ b, b ≤ 200 → shC b = .inl 4 → (shC (b + 6) = .inl 8 ∧ b + 6 ≤ 200) := by decide +kernel
theorem at_4_1 {b : Nat} (h : At shC NN b (.inl 4)) : At shC NN (b + 6) (.inl 8) := ⟨(aw_4_1 b h.2.2 h.1).1, by omega, (aw_4_1 b h.2.2 h.1).2⟩
theorem rr_4_1 {b : Nat} (h : At shC NN b (.inl 4)) : RRC b 1 = b + 6 := by unfold RRC; rw [h.1]; rfl
theorem aw_4_2 : ∀ b, b ≤ 200 → shC b = .inl 4 → (shC (b + 10) = .inr (0, 8) ∧ b + 10 ≤ 200) := by decide +kernel
theorem at_4_2 {b : Nat} (h : At shC NN b (.inl 4)) : At shC NN (b + 10) (.inr (0, 8)) := ⟨(aw_4_2 b h.2.2 h.1).1, by omega, (aw_4_2 b h.2.2 h.1).2⟩
theorem rr_4_2 {b : Nat} (h : At shC NN b (.inl 4)) : RRC b 2 = b + 10 := by unfold RRC; rw [h.1]; rfl
theorem aw_4_3 : ∀ b, b ≤ 200 → shC b = .inl 4 → (shC (b + 11) = .inr (0, 8) ∧ b + 11 ≤ 200) := by decide +kernel
theorem at_4_3 {b : Nat} (h : At shC NN b (.inl 4)) : At shC NN (b + 11) (.inr (0, 8)) := ⟨(aw_4_3 b h.2.2 h.1).1, by omega, (aw_4_3 b h.2.2 h.1).2⟩
theorem rr_4_3 {b : Nat} (h : At shC NN b (.inl 4)) : RRC b 3 = b + 11 := by unfold RRC; rw [h.1]; rfl
theorem aw_5_0 : ∀ b, b ≤ 200 → shC b = .inl 5 → (shC (b + 1) = .inr (0, 7) ∧ b + 1 ≤ 200) := by decide +kernel
theorem at_5_0 {b : Nat} (h : At shC NN b (.inl 5)) : At shC NN (b + 1) (.inr (0, 7)) := ⟨(aw_5_0 b h.2.2 h.1).1, by omega, (aw_5_0 b h.2.2 h.1).2⟩
theorem rr_5_0 {b : Nat} (h : At shC NN b (.inl 5)) : RRC b 0 = b + 1 := by unfold RRC; rw [h.1]; rfl
theorem aw_5_1 : ∀ b, b ≤ 200 → shC b = .inl 5 → (shC (b + 2) = .inr (0, 7) ∧ b + 2 ≤ 200) := by decide +kernel
theorem at_5_1 {b : Nat} (h : At shC NN b (.inl 5)) : At shC NN (b + 2) (.inr (0, 7)) := ⟨(aw_5_1 b h.2.2 h.1).1, by omega, (aw_5_1 b h.2.2 h.1).2⟩
theorem rr_5_1 {b : Nat} (h : At shC NN b (.inl 5)) : RRC b 1 = b + 2 := by unfold RRC; rw [h.1]; rfl
theorem aw_5_2 : ∀ b, b ≤ 200 → shC b = .inl 5 → (shC (b + 3) = .inr (0, 7) ∧ b + 3 ≤ 200) := by decide +kernel
theorem at_5_2 {b : Nat} (h : At shC NN b (.inl 5)) : At shC NN (b + 3) (.inr (0, 7)) := ⟨(aw_5_2 b h.2.2 h.1).1, by omega, (aw_5_2 b h.2.2 h.1).2⟩
theorem rr_5_2 {b : Nat} (h : At shC NN b (.inl 5)) : RRC b 2 = b + 3 := by unfold RRC; rw [h.1]; rfl
theorem aw_5_3 : ∀ b, b ≤ 200 → shC b = .inl 5 → (shC (b + 4) = .inr (0, 7) ∧ b + 4 ≤ 200) := by decide +kernel
theorem at_5_3 {b : Nat} (h : At shC NN b (.inl 5)) : At shC NN (b + 4) (.inr (0, 7)) := ⟨(aw_5_3 b h.2.2 h.1).1, by omega, (aw_5_3 b h.2.2 h.1).2⟩
theorem rr_5_3 {b : Nat} (h : At shC NN b (.inl 5)) : RRC b 3 = b + 4 := by unfold RRC; rw [h.1]; rfl
theorem aw_6_0 : ∀ b, b ≤ 200 → shC b = .inl 6 → (shC (b + 1) = .inr (2, 1000) ∧ b + 1 ≤ 200) := by decide +kernel
theorem at_6_0 {b : Nat} (h : At shC NN b (.inl 6)) : At shC NN (b + 1) (.inr (2, 1000)) := ⟨(aw_6_0 b h.2.2 h.1).1, by omega, (aw_6_0 b h.2.2 h.1).2⟩
theorem rr_6_0 {b : Nat} (h : At shC NN b (.inl 6)) : RRC b 0 = b + 1 := by unfold RRC; rw [h.1]; rfl
theorem aw_7_0 : ∀ b, b ≤ 200 → shC b = .inl 7 → (shC (b + 1) = .inr (1, 7) ∧ b + 1 ≤ 200) := by decide +kernel
theorem at_7_0 {b : Nat} (h : At shC NN b (.inl 7)) : At shC NN (b + 1) (.inr (1, 7)) := ⟨(aw_7_0 b h.2.2 h.1).1, by omega, (aw_7_0 b h.2.2 h.1).2⟩
theorem rr_7_0 {b : Nat} (h : At shC NN b (.inl 7)) : RRC b 0 = b + 1 := by unfold RRC; rw [h.1]; rfl
theorem aw_7_1 : ∀ b, b ≤ 200 → shC b = .inl 7 → (shC (b + 2) = .inr (0, 7) ∧ b + 2 ≤ 200) := by decide +kernel
theorem at_7_1 {b : Nat} (h : At shC NN b (.inl 7)) : At shC NN (b + 2) (.inr (0, 7)) := ⟨(aw_7_1 b h.2.2 h.1).1, by omega, (aw_7_1 b h.2.2 h.1).2⟩
theorem rr_7_1 {b : Nat} (h : At shC NN b (.inl 7)) : RRC b 1 = b + 2 := by unfold RRC; rw [h.1]; rfl
theorem aw_7_2 : ∀ b, b ≤ 200 → shC b = .inl 7 → (shC (b + 3) = .inr (0, 7) ∧ b + 3 ≤ 200) := by decide +kernel
theorem at_7_2 {b : Nat} (h : At shC NN b (.inl 7)) : At shC NN (b + 3) (.inr (0, 7)) := ⟨(aw_7_2 b h.2.2 h.1).1, by omega, (aw_7_2 b h.2.2 h.1).2⟩
theorem rr_7_2 {b : Nat} (h : At shC NN b (.inl 7)) : RRC b 2 = b + 3 := by unfold RRC; rw [h.1]; rfl
theorem aw_7_3 : ∀ b, b ≤ 200 → shC b = .inl 7 → (shC (b + 4) = .inr (0, 7) ∧ b + 4 ≤ 200) := by decide +kernel
theorem at_7_3 {b : Nat} (h : At shC NN b (.inl 7)) : At shC NN (b + 4) (.inr (0, 7)) := ⟨(aw_7_3 b h.2.2 h.1).1, by omega, (aw_7_3 b h.2.2 h.1).2⟩
theorem rr_7_3 {b : Nat} (h : At shC NN b (.inl 7)) : RRC b 3 = b + 4 := by unfold RRC; rw [h.1]; rfl
theorem aw_7_4 : ∀ b, b ≤ 200 → shC b = .inl 7 → (shC (b + 5) = .inr (0, 7) ∧ b + 5 ≤ 200) := by decide +kernel
theorem at_7_4 {b : Nat} (h : At shC NN b (.inl 7)) : At shC NN (b + 5) (.inr (0, 7)) := ⟨(aw_7_4 b h.2.2 h.1).1, by omega, (aw_7_4 b h.2.2 h.1).2⟩
theorem rr_7_4 {b : Nat} (h : At shC NN b (.inl 7)) : RRC b 4 = b + 5 := by unfold RRC; rw [h.1]; rfl
theorem aw_7_5 : ∀ b, b ≤ 200 → shC b = .inl 7 → (shC (b + 6) = .inr (0, 7) ∧ b + 6 ≤ 200) := by decide +kernel
theorem at_7_5 {b : Nat} (h : At shC NN b (.inl 7)) : At shC NN (b + 6) (.inr (0, 7)) := ⟨(aw_7_5 b h.2.2 h.1).1, by omega, (aw_7_5 b h.2.2 h.1).2⟩
theorem rr_7_5 {b : Nat} (h : At shC NN b (.inl 7)) : RRC b 5 = b + 6 := by unfold RRC; rw [h.1]; rfl
theorem aw_7_6 : ∀ b, b ≤ 200 → shC b = .inl 7 → (shC (b + 7) = .inr (0, 12) ∧ b + 7 ≤ 200) := by decide +kernel
theorem at_7_6 {b : Nat} (h : At shC NN b (.inl 7)) : At shC NN (b + 7) (.inr (0, 12)) := ⟨(aw_7_6 b h.2.2 h.1).1, by omega, (aw_7_6 b h.2.2 h.1).2⟩
theorem rr_7_6 {b : Nat} (h : At shC NN b (.inl 7)) : RRC b 6 = b + 7 := by unfold RRC; rw [h.1]; rfl
theorem aw_7_7 : ∀ b, b ≤ 200 → shC b = .inl 7 → (shC (b + 8) = .inl 0 ∧ b + 8 ≤ 200) := by decide +kernel
theorem at_7_7 {b : Nat} (h : At shC NN b (.inl 7)) : At shC NN (b + 8) (.inl 0) := ⟨(aw_7_7 b h.2.2 h.1).1, by omega, (aw_7_7 b h.2.2 h.1).2⟩
theorem rr_7_7 {b : Nat} (h : At shC NN b (.inl 7)) : RRC b 7 = b + 8 := by unfold RRC; rw [h.1]; rfl
theorem aw_7_8 : ∀ b, b ≤ 200 → shC b = .inl 7 → (shC (b + 11) = .inl 0 ∧ b + 11 ≤ 200) := by decide +kernel
theorem at_7_8 {b : Nat} (h : At shC NN b (.inl 7)) : At shC NN (b + 11) (.inl 0) := ⟨(aw_7_8 b h.2.2 h.1).1, by omega, (aw_7_8 b h.2.2 h.1).2⟩
theorem rr_7_8 {b : Nat} (h : At shC NN b (.inl 7)) : RRC b 8 = b + 11 := by unfold RRC; rw [h.1]; rfl
theorem aw_8_0 : ∀ b, b ≤ 200 → shC b = .inl 8 → (shC (b + 1) = .inr (0, 40) ∧ b + 1 ≤ 200) := by decide +kernel
theorem at_8_0 {b : Nat} (h : At shC NN b (.inl 8)) : At shC NN (b + 1) (.inr (0, 40)) := ⟨(aw_8_0 b h.2.2 h.1).1, by omega, (aw_8_0 b h.2.2 h.1).2⟩
theorem rr_8_0 {b : Nat} (h : At shC NN b (.inl 8)) : RRC b 0 = b + 1 := by unfold RRC; rw [h.1]; rfl
theorem aw_8_1 : ∀ b, b ≤ 200 → shC b = .inl 8 → (shC (b + 2) = .inr (0, 40) ∧ b + 2 ≤ 200) := by decide +kernel
theorem at_8_1 {b : Nat} (h : At shC NN b (.inl 8)) : At shC NN (b + 2) (.inr (0, 40)) := ⟨(aw_8_1 b h.2.2 h.1).1, by omega, (aw_8_1 b h.2.2 h.1).2⟩
theorem rr_8_1 {b : Nat} (h : At shC NN b (.inl 8)) : RRC b 1 = b + 2 := by unfold RRC; rw [h.1]; rfl
theorem aw_8_2 : ∀ b, b ≤ 200 → shC b = .inl 8 → (shC (b + 3) = .inr (0, 40) ∧ b + 3 ≤ 200) := by decide +kernel
theorem at_8_2 {b : Nat} (h : At shC NN b (.inl 8)) : At shC NN (b + 3) (.inr (0, 40)) := ⟨(aw_8_2 b h.2.2 h.1).1, by omega, (aw_8_2 b h.2.2 h.1).2⟩
theorem rr_8_2 {b : Nat} (h : At shC NN b (.inl 8)) : RRC b 2 = b + 3 := by unfold RRC; rw [h.1]; rfl
theorem rra4 (k : Nat) : RRC 58 k = 73 + 12 * k := rfl
theorem rra5 (k : Nat) : RRC 60 k = 121 + 5 * k := rfl
theorem ata4 {x : Int} (h : 0 ≤ x ∧ x < 4) : At shC NN (73 + 12 * x.toNat) (.inl 4) := by
  have h1 : ∀ k, k < 4 → (shC (73 + 12 * k) = .inl 4 ∧ 73 + 12 * k ≤ 200) := by decide +kernel
  have h2 := h1 x.toNat (by omega)
  exact ⟨h2.1, by omega, h2.2⟩
theorem ata5 {x : Int} (h : 0 ≤ x ∧ x < 16) : At shC NN (121 + 5 * x.toNat) (.inl 5) := by
  have h1 : ∀ k, k < 16 → (shC (121 + 5 * k) = .inl 5 ∧ 121 + 5 * k ≤ 200) := by decide +kernel
  have h2 := h1 x.toNat (by omega)
  exact ⟨h2.1, by omega, h2.2⟩
set_option maxRecDepth 100000 in
theorem cin_0 : CI 0 := ⟨rfl, rfl, by decide +kernel, tyX1_ok, nmX1⟩
set_option maxRecDepth 100000 in
theorem cin_1 : CI 1 := ⟨rfl, rfl, by decide +kernel, tyX2_ok, nmX2⟩
set_option maxRecDepth 100000 in
theorem cin_2 : CI 2 := ⟨rfl, rfl, by decide +kernel, tyX3_ok, nmX3⟩
set_option maxRecDepth 100000 in
theorem cin_3 : CI 3 := ⟨rfl, rfl, by decide +kernel, tyX4_ok, nmX4⟩
set_option maxRecDepth 100000 in
theorem cin_4 : CI 4 := ⟨rfl, rfl, by decide +kernel, tyX5_ok, nmX5⟩
set_option maxRecDepth 100000 in
theorem cin_5 : CI 5 := ⟨rfl, rfl, by decide +kernel, tyX6_ok, nmX6⟩
set_option maxRecDepth 100000 in
theorem cin_6 : CI 6 := ⟨rfl, rfl, by decide +kernel, tyX7_ok, nmX7⟩
set_option maxRecDepth 100000 in
theorem cin_7 : CI 7 := ⟨rfl, rfl, by decide +kernel, tyX8_ok, nmX8⟩
set_option maxRecDepth 100000 in
theorem cin_8 : CI 8 := ⟨rfl, rfl, by decide +kernel, tyX10_ok, nmX10⟩
set_option maxRecDepth 100000 in
theorem cin_9 : CI 9 := ⟨rfl, rfl, by decide +kernel, tyX11_ok, nmX11⟩
set_option maxRecDepth 100000 in
theorem cin_10 : CI 10 := ⟨rfl, rfl, by decide +kernel, tyX12_ok, nmX12⟩
theorem rng_toInt (x : Int32) : rng x.toInt := ⟨Int32.le_toInt x, by have := Int32.toInt_lt x; omega⟩
theorem rngL_toInt (x : Int64) : rngL x.toInt := ⟨Int64.le_toInt x, by have := Int64.toInt_lt x; omega⟩
theorem rng_cmpL (x z : Int) : rng (cmpL x z) := by unfold cmpL; split; decide; split <;> decide
theorem rng_nat27 {k : Nat} (h : k < 27) : rng (k : Int) := ⟨by omega, by omega⟩
theorem wL_rng {k : Nat} (h : k < 27) : rngL (wL.getD k 0) := by revert k; decide +kernel
theorem wK_rng {k : Nat} (h : k < 27) : rng (wK.getD k 0) := by revert k; decide +kernel
theorem wS_rng (k : Nat) : rng (wS.getD k 0) := by
  by_cases h : k < 27
  · revert k; decide +kernel
  · rw [List.getD, List.getElem?_eq_none (by simp [wS]; omega)]; decide
theorem sB_rng (k : Nat) : rng (sB.getD k 0) := by
  by_cases h : k < 8
  · revert k; decide +kernel
  · rw [List.getD, List.getElem?_eq_none (by simp [sB]; omega)]; decide
theorem lt_of_ix {x : Int} {n : Nat} (h : 0 ≤ x ∧ x < (n : Int)) : x.toNat < n := by omega
theorem oF_let {i : Nat} (hi : i < 27) : ((RX9, "letters", "J", vl (wL.getD i 0), i) : String × String × String × AV × Nat) ∈ oF :=
  List.mem_append.mpr (Or.inr (List.mem_append.mpr (Or.inl (List.mem_map.mpr ⟨i, List.mem_range.mpr hi, rfl⟩))))
theorem oF_kept {i : Nat} (hi : i < 27) : ((RX9, "kept", "Z", vi (wK.getD i 0), i) : String × String × String × AV × Nat) ∈ oF :=
  List.mem_append.mpr (Or.inr (List.mem_append.mpr (Or.inr (List.mem_append.mpr (Or.inl (List.mem_map.mpr ⟨i, List.mem_range.mpr hi, rfl⟩))))))
theorem oF_coder : (("java/lang/String", "coder", "B", vi 0, 29) : String × String × String × AV × Nat) ∈ oF :=
  List.mem_append.mpr (Or.inr (List.mem_append.mpr (Or.inr (List.mem_append.mpr (Or.inr List.mem_cons_self)))))
theorem oF_value : (("java/lang/String", "value", "[B", ve 30, 29) : String × String × String × AV × Nat) ∈ oF :=
  List.mem_append.mpr (Or.inr (List.mem_append.mpr (Or.inr (List.mem_append.mpr (Or.inr (List.mem_cons_of_mem _ List.mem_cons_self))))))
theorem oC_w {i : Nat} (hi : i < 27) : ((RX9, i) : String × Nat) ∈ oC := List.mem_append.mpr (Or.inl (List.mem_map.mpr ⟨i, List.mem_range.mpr hi, rfl⟩))
theorem oC_s : (("java/lang/String", 29) : String × Nat) ∈ oC := List.mem_append.mpr (Or.inr List.mem_cons_self)
theorem tF_all : ((.object RX9, 27, 27, fun j => ve j) : FieldType × Nat × Nat × (Nat → AV)) ∈ tF := List.mem_cons_self
theorem tF_sw : ((.int, 28, 27, fun j => vi (wS.getD j 0)) : FieldType × Nat × Nat × (Nat → AV)) ∈ tF := List.mem_cons_of_mem _ List.mem_cons_self
theorem tF_b : ((.byte, 30, 8, fun j => vi (sB.getD j 0)) : FieldType × Nat × Nat × (Nat → AV)) ∈ tF := List.mem_cons_of_mem _ (List.mem_cons_of_mem _ List.mem_cons_self)
theorem min_if (x z : Int) : (if z < x then z else x) = min x z := by omega
theorem max_if (x z : Int) : (if x < z then z else x) = max x z := by omega
theorem min_rng {x z : Int} (hx : rng x) (hz : rng z) : rng (min x z) := by omega
theorem max_rng {x z : Int} (hx : rng x) (hz : rng z) : rng (max x z) := by omega
theorem lk_dflt {x : Int} (h0 : ¬ x = 0) (h1 : ¬ x = 1) : Op.lookupswitch.offset #[((0 : Int), (27 : Int)), (1, 35)].toList 43 x = 43 := by
  simp [Op.lookupswitch.offset, Ne.symm h0, Ne.symm h1, h0, h1]
abbrev QI (R : Rr) (P : Int → Mm → Prop) : Option AV → Rr → Mm → Prop := fun r R' M' => R' = R ∧ ∃ x, r = some (vi x) ∧ P x M'
abbrev QV (R : Rr) (P : Mm → Prop) : Option AV → Rr → Mm → Prop := fun r R' M' => R' = R ∧ r = none ∧ P M'
abbrev QE (R : Rr) (P : Nat → Mm → Prop) : Option AV → Rr → Mm → Prop := fun r R' M' => R' = R ∧ ∃ k, r = some (ve k) ∧ P k M'
abbrev MI (sh : Sh) (n : Nat) (R : Rr) (y : MethodName) (cc : ByteArray) (nL : Nat) (ret : Option FieldType) (d : Nat) (as : List AV) (M : Mm) (P : Int → Mm → Prop) : Prop := MSg sh y cc nL ret d n n R as M (QI R P)
abbrev MV (sh : Sh) (n : Nat) (R : Rr) (y : MethodName) (cc : ByteArray) (nL : Nat) (ret : Option FieldType) (d : Nat) (as : List AV) (M : Mm) (P : Mm → Prop) : Prop := MSg sh y cc nL ret d n n R as M (QV R P)
abbrev ME (sh : Sh) (n : Nat) (R : Rr) (y : MethodName) (cc : ByteArray) (nL : Nat) (ret : Option FieldType) (d : Nat) (as : List AV) (M : Mm) (P : Nat → Mm → Prop) : Prop := MSg sh y cc nL ret d n n R as M (QE R P)
theorem MI_of {sh : Sh} {n : Nat} {R : Rr} {y : MethodName} {cc : ByteArray} {nL : Nat} {ret : Option FieldType} {d : Nat} {as : List AV} {M : Mm} {P : Int → Mm → Prop} (hy : plainFor y = true) (hl : avlen as ≤ nL) (h : ∀ K, EK sh y cc nL ret d n n (QI R P) K → K n R 0 (avargs 0 as) [] M) : MI sh n R y cc nL ret d as M P := MSg_of hy hl h
theorem MV_of {sh : Sh} {n : Nat} {R : Rr} {y : MethodName} {cc : ByteArray} {nL : Nat} {ret : Option FieldType} {d : Nat} {as : List AV} {M : Mm} {P : Mm → Prop} (hy : plainFor y = true) (hl : avlen as ≤ nL) (h : ∀ K, EK sh y cc nL ret d n n (QV R P) K → K n R 0 (avargs 0 as) [] M) : MV sh n R y cc nL ret d as M P := MSg_of hy hl h
theorem ME_of {sh : Sh} {n : Nat} {R : Rr} {y : MethodName} {cc : ByteArray} {nL : Nat} {ret : Option FieldType} {d : Nat} {as : List AV} {M : Mm} {P : Nat → Mm → Prop} (hy : plainFor y = true) (hl : avlen as ≤ nL) (h : ∀ K, EK sh y cc nL ret d n n (QE R P) K → K n R 0 (avargs 0 as) [] M) : ME sh n R y cc nL ret d as M P := MSg_of hy hl h
theorem zF_0 : ((RX9, "OTHER", "LMangleTown$Word;", ve 0) : String × String × String × AV) ∈ zF := List.mem_append.mpr (Or.inl (List.mem_map.mpr ⟨0, by decide, rfl⟩))
theorem zF_1 : ((RX9, "HOUSE", "LMangleTown$Word;", ve 1) : String × String × String × AV) ∈ zF := List.mem_append.mpr (Or.inl (List.mem_map.mpr ⟨1, by decide, rfl⟩))
theorem zF_2 : ((RX9, "THICK", "LMangleTown$Word;", ve 2) : String × String × String × AV) ∈ zF := List.mem_append.mpr (Or.inl (List.mem_map.mpr ⟨2, by decide, rfl⟩))
theorem zF_3 : ((RX9, "WET", "LMangleTown$Word;", ve 3) : String × String × String × AV) ∈ zF := List.mem_append.mpr (Or.inl (List.mem_map.mpr ⟨3, by decide, rfl⟩))
theorem zF_4 : ((RX9, "INK", "LMangleTown$Word;", ve 4) : String × String × String × AV) ∈ zF := List.mem_append.mpr (Or.inl (List.mem_map.mpr ⟨4, by decide, rfl⟩))
theorem zF_5 : ((RX9, "SHUNS", "LMangleTown$Word;", ve 5) : String × String × String × AV) ∈ zF := List.mem_append.mpr (Or.inl (List.mem_map.mpr ⟨5, by decide, rfl⟩))
theorem zF_6 : ((RX9, "GAP", "LMangleTown$Word;", ve 6) : String × String × String × AV) ∈ zF := List.mem_append.mpr (Or.inl (List.mem_map.mpr ⟨6, by decide, rfl⟩))
theorem zF_7 : ((RX9, "RAINS", "LMangleTown$Word;", ve 7) : String × String × String × AV) ∈ zF := List.mem_append.mpr (Or.inl (List.mem_map.mpr ⟨7, by decide, rfl⟩))
theorem zF_8 : ((RX9, "PRICE", "LMangleTown$Word;", ve 8) : String × String × String × AV) ∈ zF := List.mem_append.mpr (Or.inl (List.mem_map.mpr ⟨8, by decide, rfl⟩))
theorem zF_9 : ((RX9, "PRESSES", "LMangleTown$Word;", ve 9) : String × String × String × AV) ∈ zF := List.mem_append.mpr (Or.inl (List.mem_map.mpr ⟨9, by decide, rfl⟩))
theorem zF_10 : ((RX9, "PRINTS", "LMangleTown$Word;", ve 10) : String × String × String × AV) ∈ zF := List.mem_append.mpr (Or.inl (List.mem_map.mpr ⟨10, by decide, rfl⟩))
theorem zF_11 : ((RX9, "PUT", "LMangleTown$Word;", ve 11) : String × String × String × AV) ∈ zF := List.mem_append.mpr (Or.inl (List.mem_map.mpr ⟨11, by decide, rfl⟩))
theorem zF_12 : ((RX9, "ROAD", "LMangleTown$Word;", ve 12) : String × String × String × AV) ∈ zF := List.mem_append.mpr (Or.inl (List.mem_map.mpr ⟨12, by decide, rfl⟩))
theorem zF_13 : ((RX9, "RUN", "LMangleTown$Word;", ve 13) : String × String × String × AV) ∈ zF := List.mem_append.mpr (Or.inl (List.mem_map.mpr ⟨13, by decide, rfl⟩))
theorem zF_14 : ((RX9, "SELL", "LMangleTown$Word;", ve 14) : String × String × String × AV) ∈ zF := List.mem_append.mpr (Or.inl (List.mem_map.mpr ⟨14, by decide, rfl⟩))
theorem zF_15 : ((RX9, "PLAIN", "LMangleTown$Word;", ve 15) : String × String × String × AV) ∈ zF := List.mem_append.mpr (Or.inl (List.mem_map.mpr ⟨15, by decide, rfl⟩))
theorem zF_16 : ((RX9, "STOUT", "LMangleTown$Word;", ve 16) : String × String × String × AV) ∈ zF := List.mem_append.mpr (Or.inl (List.mem_map.mpr ⟨16, by decide, rfl⟩))
theorem zF_17 : ((RX9, "SHARP", "LMangleTown$Word;", ve 17) : String × String × String × AV) ∈ zF := List.mem_append.mpr (Or.inl (List.mem_map.mpr ⟨17, by decide, rfl⟩))
theorem zF_18 : ((RX9, "CAT", "LMangleTown$Word;", ve 18) : String × String × String × AV) ∈ zF := List.mem_append.mpr (Or.inl (List.mem_map.mpr ⟨18, by decide, rfl⟩))
theorem zF_19 : ((RX9, "NOT", "LMangleTown$Word;", ve 19) : String × String × String × AV) ∈ zF := List.mem_append.mpr (Or.inl (List.mem_map.mpr ⟨19, by decide, rfl⟩))
theorem zF_20 : ((RX9, "AND", "LMangleTown$Word;", ve 20) : String × String × String × AV) ∈ zF := List.mem_append.mpr (Or.inl (List.mem_map.mpr ⟨20, by decide, rfl⟩))
theorem zF_21 : ((RX9, "OR", "LMangleTown$Word;", ve 21) : String × String × String × AV) ∈ zF := List.mem_append.mpr (Or.inl (List.mem_map.mpr ⟨21, by decide, rfl⟩))
theorem zF_22 : ((RX9, "WIDE", "LMangleTown$Word;", ve 22) : String × String × String × AV) ∈ zF := List.mem_append.mpr (Or.inl (List.mem_map.mpr ⟨22, by decide, rfl⟩))
theorem zF_23 : ((RX9, "DAMP", "LMangleTown$Word;", ve 23) : String × String × String × AV) ∈ zF := List.mem_append.mpr (Or.inl (List.mem_map.mpr ⟨23, by decide, rfl⟩))
theorem zF_24 : ((RX9, "BETWEEN", "LMangleTown$Word;", ve 24) : String × String × String × AV) ∈ zF := List.mem_append.mpr (Or.inl (List.mem_map.mpr ⟨24, by decide, rfl⟩))
theorem zF_25 : ((RX9, "BLACK", "LMangleTown$Word;", ve 25) : String × String × String × AV) ∈ zF := List.mem_append.mpr (Or.inl (List.mem_map.mpr ⟨25, by decide, rfl⟩))
theorem zF_26 : ((RX9, "WALL", "LMangleTown$Word;", ve 26) : String × String × String × AV) ∈ zF := List.mem_append.mpr (Or.inl (List.mem_map.mpr ⟨26, by decide, rfl⟩))
theorem zF_27 : ((RX9, "ALL", "[LMangleTown$Word;", ve 27) : String × String × String × AV) ∈ zF := List.mem_append.mpr (Or.inr List.mem_cons_self)
theorem zF_28 : ((RX0, "$SwitchMap$MangleTown$Word", "[I", ve 28) : String × String × String × AV) ∈ zF := List.mem_append.mpr (Or.inr (List.mem_cons_of_mem _ List.mem_cons_self))
theorem r_copyN {sh : Sh} {y : MethodName} {cc : ByteArray} {nL : Nat} {ret : Option FieldType} {d n0 n1 : Nat} {Q : Option AV → Rr → Mm → Prop} {K : Nat → Rr → Nat → List (Nat × AV) → List AV → Mm → Prop} {n : Nat} {R : Rr} {pc : Nat} {L : List (Nat × AV)} {S : List AV} {M : Mm} (h : EK sh y cc nL ret d n0 n1 Q K) {idx b0 b1 l0 l1 : Nat} {w : Int} (k : Nat) (hb0 : At sh n b0 (.inr (0, l0))) (hb1 : At sh n b1 (.inr (0, l1))) (hk : w.toNat = k) (h3 : 0 ≤ w) (h4 : w ≤ (l0 : Int)) (h5 : w ≤ (l1 : Int)) (hl0 : l0 < 2147483648) (hl1 : l1 < 2147483648) (hm : Cond.methodLink y.cls idx arraycopyName ∈ TB ∧ Cond.native arraycopyName ∈ TB ∧ Cond.static arraycopyName ∈ TB ∧ Cond.initialized "java/lang/System" ∈ TB) (hd0 : 1 ≤ d) (hs9 : (S.map (fun v => if isl v then 2 else 1)).sum ≤ 8) (hd : decode cc pc = .ok (.invokestatic idx, 3)) (kk : K n R (pc + 3) L S (upr M b1 (cpI (M b0) (M b1) 0 0 k))) : K n R pc L (vi w :: vi 0 :: vr b1 :: vi 0 :: vr b0 :: S) M := by
  subst hk
  exact r_copyI h hb0 hb1 (by decide) (by decide) h3 (by omega) (by omega) hl0 hl1 hm hd0 hs9 hd kk
def MLO (own : String) (idx : Nat) (x y' : MethodName) (C owner : String) (cc' : ByteArray) (nL' : Nat) (ret' : Option FieldType) (na : Nat) : Prop := (Cond.methodLink own idx x ∈ TB ∧ Cond.sameMethod x.cls owner x.name x.desc ∈ TB ∧ Cond.selects C x y' ∈ TB ∧ Cond.instanceMethod y' ∈ TB ∧ Cond.initialized y'.cls ∈ TB ∧ Cond.code y' cc' nL' ret' ∈ TB) ∧ y' = ⟨owner, x.name, x.desc⟩ ∧ (owner ≠ "java/lang/invoke/MethodHandle" ∧ owner ≠ "java/lang/invoke/VarHandle" ∧ (parseMethodDescriptor x.desc).map (fun d => d.parameters.length) = some na) ∧ nL' ≤ 45
/-- a virtual call of an inherited method, on an object that stands from the start -/
theorem r_callO {sh : Sh} {y : MethodName} {cc : ByteArray} {nL : Nat} {ret : Option FieldType} {d n0 n1 : Nat} {Q : Option AV → Rr → Mm → Prop} {K : Nat → Rr → Nat → List (Nat × AV) → List AV → Mm → Prop} {n : Nat} {R : Rr} {pc : Nat} {L : List (Nat × AV)} {S S0 : List AV} {M : Mm} {y' : MethodName} {cc' : ByteArray} {nL' : Nat} {ret' : Option FieldType} {idx na d' b : Nat} {as : List AV} {Q' : Option AV → Rr → Mm → Prop} (h : EK sh y cc nL ret d n0 n1 Q K) {x : MethodName} {C owner : String} (ml : MLO y.cls idx x y' C owner cc' nL' ret' na) (hm : MSg sh y' cc' nL' ret' d' n n R (ve b :: as) M Q') (hd9 : d' + 1 ≤ d) (hn1 : n ≤ n1) (hlen : as.length = na) (hb9 : (C, b) ∈ oC) (hst : S0 = as.reverse ++ ve b :: S) (hs9 : (S.map (fun v => if isl v then 2 else 1)).sum ≤ 8) (hd : decode cc pc = .ok (.invokevirtual idx, 3))
    (kk : ∀ r R' M', Q' r R' M' → K n R' (pc + 3) L (r.toList ++ S) M') : K n R pc L S0 M := by
  obtain ⟨p, l, e, s, m, args, below, meth, c, ad0, sad, D, A, ar, xc, xs, gc, gs, Z, hx, hb, hr, hml, hown, hts, hlk, hnm, hK, hSS, hA, ⟨hgc, hgs, hZ⟩, rfl⟩ := h
  intro hn ad H locs ls had hP hD hS hl
  subst hst
  have htb : ∀ w ∈ TB, w.before args s = true := hts
  have hF := va_A_sub hD hS hA
  have hrc : ∃ cellB : Cell, H[sad b]? = some cellB ∧ cellB.vm.isStatics = false ∧ s.vm.findClass C = some cellB.cls := by
    obtain ⟨cell, g1, g2, g3, -⟩ := (hSS.2.2.1 _ hb9).kept hS.2.1
    exact ⟨cell, g1, g2, g3⟩
  have hG : GoodIn TB (va_wsU y.cls idx C owner x y' (Cond.code y' cc' nL' ret' :: TB)) := by
    intro w hw
    have hw' : w ∈ TB := by
      unfold va_wsU at hw
      rcases List.mem_append.mp hw with hw | hw
      · rcases List.mem_cons.mp hw with rfl | hw
        · exact ml.1.1
        rcases List.mem_cons.mp hw with rfl | hw
        · exact ml.1.2.1
        rcases List.mem_cons.mp hw with rfl | hw
        · exact ml.1.2.2.1
        rcases List.mem_cons.mp hw with rfl | hw
        · exact ml.1.2.2.2.1
        rcases List.mem_cons.mp hw with rfl | hw
        · exact ml.1.2.2.2.2.1
        · cases hw
      · rcases List.mem_cons.mp hw with rfl | hw
        · exact ml.1.2.2.2.2.2
        · exact hw
    exact ⟨hw', TB_good hw'⟩
  have run := va_runU (C := C) (b := sad b) (As := as.map (cv ad sad)) (rest := S.map (cv ad sad)) (g := F0 m pc ls ((as.reverse ++ ve b :: S).map (cv ad sad))) (below := below) (meth := meth) (e := e) (locs := locs) (cells := n - n0 + gc) (slots := cum sh n - cum sh n0 + gs) ⟨hx, hb, hml, hown, hts⟩ (hm l ad sad D ar H.size) (R := rmx sh d n0 n1 xc xs) (va_cwU na hts hG rfl rfl rfl ml.2.1 ml.2.2.1 ⟨hd9, by have := ml.2.2.2; show 8 + (nL' + 11) + 64 * d' ≤ 64 * d; omega⟩)
    ⟨PcM_blind (as := ve b :: as), hrc, PcM_of (as := ve b :: as) hK hSS hP hD hS hF⟩ rfl (by rw [List.length_map]; exact hlen) hl.1 (by simp [cv, List.map_reverse]) (lv_room (by rw [cat_sum]; exact hs9)) hd ⟨by show _ ≤ n1 - n0 + xc; omega, by show _ ≤ cum sh n1 - cum sh n0 + xs; have := cum_mono (sh := sh) hn1; omega⟩
  refine w_call run hS hF ?_
  intro ad' r R' M' H1 locs1 hq hag hP1 hD1 hS1
  have e9 : ad' = ad := hag.2 rfl
  subst e9
  have k2 := kk r R' M' hq hn ad' H1 locs1 ls had hP1 (hD1.weaken (fun _ _ _ h9 => hF _ h9)) hS1 hl
  rw [List.map_append, show (r.toList.map (cv ad' sad)) = (r.map (cv ad' sad)).toList by cases r <;> rfl] at k2
  rw [Nat.sub_self, Nat.sub_self]
  exact k2
theorem tout_m13_m9 {x : Int} (h0 : ¬ x = (-13)) (h1 : ¬ x = (-12)) (h2 : ¬ x = (-11)) (h3 : ¬ x = (-10)) (h4 : ¬ x = (-9)) : x < (-13) ∨ (-9) < x := by omega
theorem tout_m7_m2 {x : Int} (h0 : ¬ x = (-7)) (h1 : ¬ x = (-6)) (h2 : ¬ x = (-5)) (h3 : ¬ x = (-4)) (h4 : ¬ x = (-3)) (h5 : ¬ x = (-2)) : x < (-7) ∨ (-2) < x := by omega
theorem tout_0_3 {x : Int} (h0 : ¬ x = 0) (h1 : ¬ x = 1) (h2 : ¬ x = 2) (h3 : ¬ x = 3) : x < 0 ∨ 3 < x := by omega
theorem tout_0_6 {x : Int} (h0 : ¬ x = 0) (h1 : ¬ x = 1) (h2 : ¬ x = 2) (h3 : ¬ x = 3) (h4 : ¬ x = 4) (h5 : ¬ x = 5) (h6 : ¬ x = 6) : x < 0 ∨ 6 < x := by omega
theorem tout_0_14 {x : Int} (h0 : ¬ x = 0) (h1 : ¬ x = 1) (h2 : ¬ x = 2) (h3 : ¬ x = 3) (h4 : ¬ x = 4) (h5 : ¬ x = 5) (h6 : ¬ x = 6) (h7 : ¬ x = 7) (h8 : ¬ x = 8) (h9 : ¬ x = 9) (h10 : ¬ x = 10) (h11 : ¬ x = 11) (h12 : ¬ x = 12) (h13 : ¬ x = 13) (h14 : ¬ x = 14) : x < 0 ∨ 14 < x := by omega
theorem tout_1_5 {x : Int} (h0 : ¬ x = 1) (h1 : ¬ x = 2) (h2 : ¬ x = 3) (h3 : ¬ x = 4) (h4 : ¬ x = 5) : x < 1 ∨ 5 < x := by omega
theorem tout_6_12 {x : Int} (h0 : ¬ x = 6) (h1 : ¬ x = 7) (h2 : ¬ x = 8) (h3 : ¬ x = 9) (h4 : ¬ x = 10) (h5 : ¬ x = 11) (h6 : ¬ x = 12) : x < 6 ∨ 12 < x := by omega
theorem tout_13_16 {x : Int} (h0 : ¬ x = 13) (h1 : ¬ x = 14) (h2 : ¬ x = 15) (h3 : ¬ x = 16) : x < 13 ∨ 16 < x := by omega
theorem tout_17_20 {x : Int} (h0 : ¬ x = 17) (h1 : ¬ x = 18) (h2 : ¬ x = 19) (h3 : ¬ x = 20) : x < 17 ∨ 20 < x := by omega
theorem kc_JInt_265 : Cond.constant "java/lang/Integer" 265 (Int32.ofInt 1431655765) ∈ TB := (inT5 13 rfl rfl)
theorem kc_JInt_266 : Cond.constant "java/lang/Integer" 266 (Int32.ofInt 858993459) ∈ TB := (inT5 14 rfl rfl)
theorem kc_JInt_267 : Cond.constant "java/lang/Integer" 267 (Int32.ofInt 252645135) ∈ TB := (inT5 15 rfl rfl)
theorem kc_Main_305 : Cond.constantLong "MangleTown" 305 (Int64.ofInt 10) ∈ TB := (inT6 5 rfl rfl)
theorem kc_Main_358 : Cond.constantLong "MangleTown" 358 (Int64.ofInt 100000000) ∈ TB := (inT5 237 rfl rfl)
theorem kc_Main_360 : Cond.constantLong "MangleTown" 360 (Int64.ofInt 1000000) ∈ TB := (inT6 6 rfl rfl)
theorem kc_Mangle_143 : Cond.constantLong "MangleTown$Mangle" 143 (Int64.ofInt 1103515245) ∈ TB := (inT5 133 rfl rfl)
theorem kc_Mangle_145 : Cond.constantLong "MangleTown$Mangle" 145 (Int64.ofInt 12345) ∈ TB := (inT5 134 rfl rfl)
theorem kc_Mangle_147 : Cond.constantLong "MangleTown$Mangle" 147 (Int64.ofInt 2147483648) ∈ TB := (inT5 135 rfl rfl)
theorem kc_Mangle_149 : Cond.constantLong "MangleTown$Mangle" 149 (Int64.ofInt 65536) ∈ TB := (inT5 136 rfl rfl)
theorem kc_Tape_71 : Cond.constantLong "MangleTown$Tape" 71 (Int64.ofInt 32) ∈ TB := (inT2 239 rfl rfl)
theorem kc_Mod_151 : Cond.constantLong "MangleTownModel" 151 (Int64.ofInt 255) ∈ TB := (inT6 232 rfl rfl)
theorem kc_Mod_179 : Cond.constantLong "MangleTownModel" 179 (Int64.ofInt 27) ∈ TB := (inT7 13 rfl rfl)
theorem kc_Mod_181 : Cond.constantLong "MangleTownModel" 181 (Int64.ofInt 96) ∈ TB := (inT7 14 rfl rfl)
theorem kc_Mod_189 : Cond.constantLong "MangleTownModel" 189 (Int64.ofInt 459383) ∈ TB := (inT7 107 rfl rfl)
theorem kc_Mod_191 : Cond.constantLong "MangleTownModel" 191 (Int64.ofInt 79828) ∈ TB := (inT7 108 rfl rfl)
theorem kc_Mod_193 : Cond.constantLong "MangleTownModel" 193 (Int64.ofInt 857670836) ∈ TB := (inT7 109 rfl rfl)
theorem kc_Mod_198 : Cond.constantLong "MangleTownModel" 198 (Int64.ofInt 1299899) ∈ TB := (inT7 110 rfl rfl)
theorem kc_Mod_200 : Cond.constantLong "MangleTownModel" 200 (Int64.ofInt 453774) ∈ TB := (inT7 111 rfl rfl)
theorem kc_Mod_206 : Cond.constantLong "MangleTownModel" 206 (Int64.ofInt 10631) ∈ TB := (inT7 49 rfl rfl)
theorem kc_Mod_226 : Cond.constantLong "MangleTownModel" 226 (Int64.ofInt 1111) ∈ TB := (inT7 50 rfl rfl)
theorem kc_Mod_228 : Cond.constantLong "MangleTownModel" 228 (Int64.ofInt 423) ∈ TB := (inT7 51 rfl rfl)
theorem kc_Mod_239 : Cond.constantLong "MangleTownModel" 239 (Int64.ofInt 4562600) ∈ TB := (inT7 15 rfl rfl)
theorem kc_Mod_241 : Cond.constantLong "MangleTownModel" 241 (Int64.ofInt 10792937) ∈ TB := (inT7 32 rfl rfl)
theorem kc_Mod_243 : Cond.constantLong "MangleTownModel" 243 (Int64.ofInt 16922) ∈ TB := (inT7 33 rfl rfl)
theorem kc_Mod_245 : Cond.constantLong "MangleTownModel" 245 (Int64.ofInt 6950) ∈ TB := (inT7 34 rfl rfl)
theorem kc_Mod_247 : Cond.constantLong "MangleTownModel" 247 (Int64.ofInt 10270549) ∈ TB := (inT7 35 rfl rfl)
theorem kc_Mod_249 : Cond.constantLong "MangleTownModel" 249 (Int64.ofInt 5146) ∈ TB := (inT7 36 rfl rfl)
theorem kc_Mod_251 : Cond.constantLong "MangleTownModel" 251 (Int64.ofInt 9592579) ∈ TB := (inT7 37 rfl rfl)
theorem kc_Mod_253 : Cond.constantLong "MangleTownModel" 253 (Int64.ofInt 8863997) ∈ TB := (inT7 38 rfl rfl)
theorem kc_Mod_255 : Cond.constantLong "MangleTownModel" 255 (Int64.ofInt 6460053337) ∈ TB := (inT7 39 rfl rfl)
theorem kc_Mod_257 : Cond.constantLong "MangleTownModel" 257 (Int64.ofInt 239336362) ∈ TB := (inT7 40 rfl rfl)
theorem kc_Mod_259 : Cond.constantLong "MangleTownModel" 259 (Int64.ofInt 12251) ∈ TB := (inT7 41 rfl rfl)
theorem kc_Mod_261 : Cond.constantLong "MangleTownModel" 261 (Int64.ofInt 365260) ∈ TB := (inT7 42 rfl rfl)
theorem kc_Mod_263 : Cond.constantLong "MangleTownModel" 263 (Int64.ofInt 13703) ∈ TB := (inT7 43 rfl rfl)
theorem kc_Mod_265 : Cond.constantLong "MangleTownModel" 265 (Int64.ofInt 377958) ∈ TB := (inT7 44 rfl rfl)
theorem kc_Mod_267 : Cond.constantLong "MangleTownModel" 267 (Int64.ofInt 8740238) ∈ TB := (inT7 45 rfl rfl)
theorem kc_Mod_269 : Cond.constantLong "MangleTownModel" 269 (Int64.ofInt 10502561) ∈ TB := (inT7 46 rfl rfl)
theorem kc_Mod_271 : Cond.constantLong "MangleTownModel" 271 (Int64.ofInt 10256074) ∈ TB := (inT7 47 rfl rfl)
theorem kc_Mod_273 : Cond.constantLong "MangleTownModel" 273 (Int64.ofInt 2234) ∈ TB := (inT7 48 rfl rfl)
theorem kc_Mod_459 : Cond.constantLong "MangleTownModel" 459 (Int64.ofInt 100000000) ∈ TB := (inT8 119 rfl rfl)
theorem kc_Mod_464 : Cond.constantLong "MangleTownModel" 464 (Int64.ofInt 10) ∈ TB := (inT8 124 rfl rfl)
theorem kc_Mod_466 : Cond.constantLong "MangleTownModel" 466 (Int64.ofInt 1000000) ∈ TB := (inT8 125 rfl rfl)
theorem kc_Mod_481 : Cond.constantLong "MangleTownModel" 481 (Int64.ofInt 1103515245) ∈ TB := (inT8 151 rfl rfl)
theorem kc_Mod_483 : Cond.constantLong "MangleTownModel" 483 (Int64.ofInt 12345) ∈ TB := (inT8 152 rfl rfl)
theorem kc_Mod_485 : Cond.constantLong "MangleTownModel" 485 (Int64.ofInt 2147483648) ∈ TB := (inT8 153 rfl rfl)
theorem kc_Mod_487 : Cond.constantLong "MangleTownModel" 487 (Int64.ofInt 65536) ∈ TB := (inT8 154 rfl rfl)
theorem f_Law_11 : FL "MangleTown$Law" 11 0 1 2 := ⟨cin_0, rfl, (inT1 107 rfl rfl)⟩
theorem f_Law_15 : FL "MangleTown$Law" 15 0 2 2 := ⟨cin_0, rfl, (inT1 108 rfl rfl)⟩
theorem f_Law_18 : FL "MangleTown$Law" 18 0 0 5 := ⟨cin_0, rfl, (inT1 106 rfl rfl)⟩
theorem f_Law_22 : FL "MangleTown$Law" 22 0 3 0 := ⟨cin_0, rfl, (inT1 109 rfl rfl)⟩
theorem f_Law_33 : FL "MangleTown$Law" 33 6 6 4 := ⟨cin_6, rfl, (inT1 55 rfl rfl)⟩
theorem f_Law_67 : FL "MangleTown$Law" 67 6 5 0 := ⟨cin_6, rfl, (inT1 52 rfl rfl)⟩
theorem f_Law_70 : FL "MangleTown$Law" 70 6 8 0 := ⟨cin_6, rfl, (inT1 60 rfl rfl)⟩
theorem f_Main_10 : FL "MangleTown" 10 9 0 2 := ⟨cin_9, rfl, (inT2 162 rfl rfl)⟩
theorem f_Main_109 : FL "MangleTown" 109 6 10 0 := ⟨cin_6, rfl, (inT1 66 rfl rfl)⟩
theorem f_Main_112 : FL "MangleTown" 112 9 11 0 := ⟨cin_9, rfl, (inT2 173 rfl rfl)⟩
theorem f_Main_118 : FL "MangleTown" 118 4 1 2 := ⟨cin_4, rfl, (inT2 33 rfl rfl)⟩
theorem f_Main_129 : FL "MangleTown" 129 7 1 2 := ⟨cin_7, rfl, (inT1 132 rfl rfl)⟩
theorem f_Main_133 : FL "MangleTown" 133 4 0 2 := ⟨cin_4, rfl, (inT2 31 rfl rfl)⟩
theorem f_Main_136 : FL "MangleTown" 136 5 0 2 := ⟨cin_5, rfl, (inT1 218 rfl rfl)⟩
theorem f_Main_139 : FL "MangleTown" 139 5 1 2 := ⟨cin_5, rfl, (inT1 221 rfl rfl)⟩
theorem f_Main_142 : FL "MangleTown" 142 7 4 2 := ⟨cin_7, rfl, (inT1 138 rfl rfl)⟩
theorem f_Main_145 : FL "MangleTown" 145 5 2 2 := ⟨cin_5, rfl, (inT1 224 rfl rfl)⟩
theorem f_Main_151 : FL "MangleTown" 151 7 9 0 := ⟨cin_7, rfl, (inT1 147 rfl rfl)⟩
theorem f_Main_158 : FL "MangleTown" 158 5 3 2 := ⟨cin_5, rfl, (inT1 227 rfl rfl)⟩
theorem f_Main_19 : FL "MangleTown" 19 9 1 3 := ⟨cin_9, rfl, (inT2 163 rfl rfl)⟩
theorem f_Main_194 : FL "MangleTown" 194 1 0 0 := ⟨cin_1, rfl, (inT2 65 rfl rfl)⟩
theorem f_Main_197 : FL "MangleTown" 197 5 7 0 := ⟨cin_5, rfl, (inT1 238 rfl rfl)⟩
theorem f_Main_200 : FL "MangleTown" 200 7 11 0 := ⟨cin_7, rfl, (inT1 153 rfl rfl)⟩
theorem f_Main_207 : FL "MangleTown" 207 5 8 0 := ⟨cin_5, rfl, (inT2 0 rfl rfl)⟩
theorem f_Main_210 : FL "MangleTown" 210 9 10 0 := ⟨cin_9, rfl, (inT2 172 rfl rfl)⟩
theorem f_Main_219 : FL "MangleTown" 219 1 2 0 := ⟨cin_1, rfl, (inT2 68 rfl rfl)⟩
theorem f_Main_222 : FL "MangleTown" 222 1 3 0 := ⟨cin_1, rfl, (inT2 70 rfl rfl)⟩
theorem f_Main_23 : FL "MangleTown" 23 9 2 3 := ⟨cin_9, rfl, (inT2 164 rfl rfl)⟩
theorem f_Main_232 : FL "MangleTown" 232 2 1 0 := ⟨cin_2, rfl, (inT2 101 rfl rfl)⟩
theorem f_Main_235 : FL "MangleTown" 235 2 0 2 := ⟨cin_2, rfl, (inT2 99 rfl rfl)⟩
theorem f_Main_249 : FL "MangleTown" 249 4 5 0 := ⟨cin_4, rfl, (inT2 42 rfl rfl)⟩
theorem f_Main_256 : FL "MangleTown" 256 3 0 0 := ⟨cin_3, rfl, (inT2 129 rfl rfl)⟩
theorem f_Main_259 : FL "MangleTown" 259 3 1 0 := ⟨cin_3, rfl, (inT2 131 rfl rfl)⟩
theorem f_Main_262 : FL "MangleTown" 262 3 2 0 := ⟨cin_3, rfl, (inT2 133 rfl rfl)⟩
theorem f_Main_29 : FL "MangleTown" 29 9 3 2 := ⟨cin_9, rfl, (inT2 165 rfl rfl)⟩
theorem f_Main_320 : FL "MangleTown" 320 1 4 0 := ⟨cin_1, rfl, (inT2 72 rfl rfl)⟩
theorem f_Main_323 : FL "MangleTown" 323 1 5 0 := ⟨cin_1, rfl, (inT2 74 rfl rfl)⟩
theorem f_Main_329 : FL "MangleTown" 329 5 5 0 := ⟨cin_5, rfl, (inT1 233 rfl rfl)⟩
theorem f_Main_332 : FL "MangleTown" 332 5 6 0 := ⟨cin_5, rfl, (inT1 236 rfl rfl)⟩
theorem f_Main_338 : FL "MangleTown" 338 5 4 0 := ⟨cin_5, rfl, (inT1 229 rfl rfl)⟩
theorem f_Main_344 : FL "MangleTown" 344 8 3 0 := ⟨cin_8, rfl, (inT1 200 rfl rfl)⟩
theorem f_Main_347 : FL "MangleTown" 347 4 4 0 := ⟨cin_4, rfl, (inT2 40 rfl rfl)⟩
theorem f_Main_36 : FL "MangleTown" 36 9 4 2 := ⟨cin_9, rfl, (inT2 166 rfl rfl)⟩
theorem f_Main_43 : FL "MangleTown" 43 9 5 2 := ⟨cin_9, rfl, (inT2 167 rfl rfl)⟩
theorem f_Main_47 : FL "MangleTown" 47 9 6 2 := ⟨cin_9, rfl, (inT2 168 rfl rfl)⟩
theorem f_Main_50 : FL "MangleTown" 50 9 7 2 := ⟨cin_9, rfl, (inT2 169 rfl rfl)⟩
theorem f_Main_54 : FL "MangleTown" 54 9 8 2 := ⟨cin_9, rfl, (inT2 170 rfl rfl)⟩
theorem f_Main_58 : FL "MangleTown" 58 9 9 2 := ⟨cin_9, rfl, (inT2 171 rfl rfl)⟩
theorem f_Main_65 : FL "MangleTown" 65 9 12 2 := ⟨cin_9, rfl, (inT2 174 rfl rfl)⟩
theorem f_Main_72 : FL "MangleTown" 72 9 13 2 := ⟨cin_9, rfl, (inT2 175 rfl rfl)⟩
theorem f_Main_79 : FL "MangleTown" 79 9 14 2 := ⟨cin_9, rfl, (inT2 176 rfl rfl)⟩
theorem f_Main_83 : FL "MangleTown" 83 9 15 2 := ⟨cin_9, rfl, (inT2 177 rfl rfl)⟩
theorem f_Main_98 : FL "MangleTown" 98 6 1 0 := ⟨cin_6, rfl, (inT1 44 rfl rfl)⟩
theorem f_Mangle_102 : FL "MangleTown$Mangle" 102 8 1 2 := ⟨cin_8, rfl, (inT1 194 rfl rfl)⟩
theorem f_Mangle_105 : FL "MangleTown$Mangle" 105 8 2 2 := ⟨cin_8, rfl, (inT1 196 rfl rfl)⟩
theorem f_Mangle_116 : FL "MangleTown$Mangle" 116 7 11 0 := ⟨cin_7, rfl, (inT1 152 rfl rfl)⟩
theorem f_Mangle_127 : FL "MangleTown$Mangle" 127 1 6 1 := ⟨cin_1, rfl, (inT2 75 rfl rfl)⟩
theorem f_Mangle_131 : FL "MangleTown$Mangle" 131 1 4 0 := ⟨cin_1, rfl, (inT2 71 rfl rfl)⟩
theorem f_Mangle_134 : FL "MangleTown$Mangle" 134 1 5 0 := ⟨cin_1, rfl, (inT2 73 rfl rfl)⟩
theorem f_Mangle_15 : FL "MangleTown$Mangle" 15 1 1 0 := ⟨cin_1, rfl, (inT2 66 rfl rfl)⟩
theorem f_Mangle_18 : FL "MangleTown$Mangle" 18 7 9 0 := ⟨cin_7, rfl, (inT1 146 rfl rfl)⟩
theorem f_Mangle_23 : FL "MangleTown$Mangle" 23 5 3 2 := ⟨cin_5, rfl, (inT1 226 rfl rfl)⟩
theorem f_Mangle_40 : FL "MangleTown$Mangle" 40 5 6 0 := ⟨cin_5, rfl, (inT1 235 rfl rfl)⟩
theorem f_Mangle_65 : FL "MangleTown$Mangle" 65 7 1 2 := ⟨cin_7, rfl, (inT1 131 rfl rfl)⟩
theorem f_Mangle_68 : FL "MangleTown$Mangle" 68 5 5 0 := ⟨cin_5, rfl, (inT1 231 rfl rfl)⟩
theorem f_Mangle_77 : FL "MangleTown$Mangle" 77 5 0 2 := ⟨cin_5, rfl, (inT1 217 rfl rfl)⟩
theorem f_Mangle_80 : FL "MangleTown$Mangle" 80 1 2 0 := ⟨cin_1, rfl, (inT2 67 rfl rfl)⟩
theorem f_Mangle_83 : FL "MangleTown$Mangle" 83 1 3 0 := ⟨cin_1, rfl, (inT2 69 rfl rfl)⟩
theorem f_Mangle_86 : FL "MangleTown$Mangle" 86 8 3 0 := ⟨cin_8, rfl, (inT1 199 rfl rfl)⟩
theorem f_Mangle_9 : FL "MangleTown$Mangle" 9 1 0 0 := ⟨cin_1, rfl, (inT2 64 rfl rfl)⟩
theorem f_Mangle_91 : FL "MangleTown$Mangle" 91 8 0 2 := ⟨cin_8, rfl, (inT1 192 rfl rfl)⟩
theorem f_Mod_102 : FL "MangleTownModel" 102 10 43 2 := ⟨cin_10, rfl, (inT6 80 rfl rfl)⟩
theorem f_Mod_105 : FL "MangleTownModel" 105 10 44 2 := ⟨cin_10, rfl, (inT6 81 rfl rfl)⟩
theorem f_Mod_108 : FL "MangleTownModel" 108 10 45 2 := ⟨cin_10, rfl, (inT6 82 rfl rfl)⟩
theorem f_Mod_111 : FL "MangleTownModel" 111 10 46 2 := ⟨cin_10, rfl, (inT6 83 rfl rfl)⟩
theorem f_Mod_114 : FL "MangleTownModel" 114 10 47 2 := ⟨cin_10, rfl, (inT6 84 rfl rfl)⟩
theorem f_Mod_117 : FL "MangleTownModel" 117 10 48 2 := ⟨cin_10, rfl, (inT6 85 rfl rfl)⟩
theorem f_Mod_120 : FL "MangleTownModel" 120 10 49 2 := ⟨cin_10, rfl, (inT6 86 rfl rfl)⟩
theorem f_Mod_123 : FL "MangleTownModel" 123 10 52 2 := ⟨cin_10, rfl, (inT6 89 rfl rfl)⟩
theorem f_Mod_126 : FL "MangleTownModel" 126 10 53 2 := ⟨cin_10, rfl, (inT6 90 rfl rfl)⟩
theorem f_Mod_129 : FL "MangleTownModel" 129 10 56 2 := ⟨cin_10, rfl, (inT6 93 rfl rfl)⟩
theorem f_Mod_13 : FL "MangleTownModel" 13 10 10 2 := ⟨cin_10, rfl, (inT6 47 rfl rfl)⟩
theorem f_Mod_132 : FL "MangleTownModel" 132 10 57 2 := ⟨cin_10, rfl, (inT6 94 rfl rfl)⟩
theorem f_Mod_135 : FL "MangleTownModel" 135 10 58 2 := ⟨cin_10, rfl, (inT6 95 rfl rfl)⟩
theorem f_Mod_138 : FL "MangleTownModel" 138 10 59 2 := ⟨cin_10, rfl, (inT6 96 rfl rfl)⟩
theorem f_Mod_141 : FL "MangleTownModel" 141 10 60 2 := ⟨cin_10, rfl, (inT6 97 rfl rfl)⟩
theorem f_Mod_147 : FL "MangleTownModel" 147 10 0 0 := ⟨cin_10, rfl, (inT6 37 rfl rfl)⟩
theorem f_Mod_153 : FL "MangleTownModel" 153 10 1 0 := ⟨cin_10, rfl, (inT6 38 rfl rfl)⟩
theorem f_Mod_156 : FL "MangleTownModel" 156 10 3 0 := ⟨cin_10, rfl, (inT6 40 rfl rfl)⟩
theorem f_Mod_159 : FL "MangleTownModel" 159 10 4 0 := ⟨cin_10, rfl, (inT6 41 rfl rfl)⟩
theorem f_Mod_16 : FL "MangleTownModel" 16 10 11 2 := ⟨cin_10, rfl, (inT6 48 rfl rfl)⟩
theorem f_Mod_162 : FL "MangleTownModel" 162 10 5 0 := ⟨cin_10, rfl, (inT6 42 rfl rfl)⟩
theorem f_Mod_165 : FL "MangleTownModel" 165 10 7 1 := ⟨cin_10, rfl, (inT6 44 rfl rfl)⟩
theorem f_Mod_169 : FL "MangleTownModel" 169 10 8 0 := ⟨cin_10, rfl, (inT6 45 rfl rfl)⟩
theorem f_Mod_172 : FL "MangleTownModel" 172 10 6 0 := ⟨cin_10, rfl, (inT6 43 rfl rfl)⟩
theorem f_Mod_183 : FL "MangleTownModel" 183 10 9 0 := ⟨cin_10, rfl, (inT6 46 rfl rfl)⟩
theorem f_Mod_186 : FL "MangleTownModel" 186 10 21 0 := ⟨cin_10, rfl, (inT6 58 rfl rfl)⟩
theorem f_Mod_195 : FL "MangleTownModel" 195 10 22 0 := ⟨cin_10, rfl, (inT6 59 rfl rfl)⟩
theorem f_Mod_20 : FL "MangleTownModel" 20 10 12 2 := ⟨cin_10, rfl, (inT6 49 rfl rfl)⟩
theorem f_Mod_23 : FL "MangleTownModel" 23 10 13 2 := ⟨cin_10, rfl, (inT6 50 rfl rfl)⟩
theorem f_Mod_26 : FL "MangleTownModel" 26 10 14 2 := ⟨cin_10, rfl, (inT6 51 rfl rfl)⟩
theorem f_Mod_279 : FL "MangleTownModel" 279 10 36 0 := ⟨cin_10, rfl, (inT6 73 rfl rfl)⟩
theorem f_Mod_29 : FL "MangleTownModel" 29 10 15 2 := ⟨cin_10, rfl, (inT6 52 rfl rfl)⟩
theorem f_Mod_293 : FL "MangleTownModel" 293 10 23 0 := ⟨cin_10, rfl, (inT6 60 rfl rfl)⟩
theorem f_Mod_32 : FL "MangleTownModel" 32 10 16 2 := ⟨cin_10, rfl, (inT6 53 rfl rfl)⟩
theorem f_Mod_340 : FL "MangleTownModel" 340 10 50 0 := ⟨cin_10, rfl, (inT6 87 rfl rfl)⟩
theorem f_Mod_35 : FL "MangleTownModel" 35 10 17 2 := ⟨cin_10, rfl, (inT6 54 rfl rfl)⟩
theorem f_Mod_378 : FL "MangleTownModel" 378 10 51 0 := ⟨cin_10, rfl, (inT6 88 rfl rfl)⟩
theorem f_Mod_38 : FL "MangleTownModel" 38 10 18 2 := ⟨cin_10, rfl, (inT6 55 rfl rfl)⟩
theorem f_Mod_41 : FL "MangleTownModel" 41 10 19 2 := ⟨cin_10, rfl, (inT6 56 rfl rfl)⟩
theorem f_Mod_415 : FL "MangleTownModel" 415 10 54 0 := ⟨cin_10, rfl, (inT6 91 rfl rfl)⟩
theorem f_Mod_418 : FL "MangleTownModel" 418 10 55 5 := ⟨cin_10, rfl, (inT6 92 rfl rfl)⟩
theorem f_Mod_44 : FL "MangleTownModel" 44 10 20 2 := ⟨cin_10, rfl, (inT6 57 rfl rfl)⟩
theorem f_Mod_47 : FL "MangleTownModel" 47 10 24 2 := ⟨cin_10, rfl, (inT6 61 rfl rfl)⟩
theorem f_Mod_478 : FL "MangleTownModel" 478 10 61 1 := ⟨cin_10, rfl, (inT6 98 rfl rfl)⟩
theorem f_Mod_50 : FL "MangleTownModel" 50 10 25 2 := ⟨cin_10, rfl, (inT6 62 rfl rfl)⟩
theorem f_Mod_54 : FL "MangleTownModel" 54 10 26 2 := ⟨cin_10, rfl, (inT6 63 rfl rfl)⟩
theorem f_Mod_57 : FL "MangleTownModel" 57 10 27 2 := ⟨cin_10, rfl, (inT6 64 rfl rfl)⟩
theorem f_Mod_60 : FL "MangleTownModel" 60 10 28 2 := ⟨cin_10, rfl, (inT6 65 rfl rfl)⟩
theorem f_Mod_63 : FL "MangleTownModel" 63 10 29 2 := ⟨cin_10, rfl, (inT6 66 rfl rfl)⟩
theorem f_Mod_66 : FL "MangleTownModel" 66 10 30 2 := ⟨cin_10, rfl, (inT6 67 rfl rfl)⟩
theorem f_Mod_69 : FL "MangleTownModel" 69 10 31 2 := ⟨cin_10, rfl, (inT6 68 rfl rfl)⟩
theorem f_Mod_7 : FL "MangleTownModel" 7 10 2 2 := ⟨cin_10, rfl, (inT6 39 rfl rfl)⟩
theorem f_Mod_72 : FL "MangleTownModel" 72 10 32 2 := ⟨cin_10, rfl, (inT6 69 rfl rfl)⟩
theorem f_Mod_75 : FL "MangleTownModel" 75 10 33 2 := ⟨cin_10, rfl, (inT6 70 rfl rfl)⟩
theorem f_Mod_78 : FL "MangleTownModel" 78 10 34 2 := ⟨cin_10, rfl, (inT6 71 rfl rfl)⟩
theorem f_Mod_81 : FL "MangleTownModel" 81 10 35 2 := ⟨cin_10, rfl, (inT6 72 rfl rfl)⟩
theorem f_Mod_84 : FL "MangleTownModel" 84 10 37 2 := ⟨cin_10, rfl, (inT6 74 rfl rfl)⟩
theorem f_Mod_87 : FL "MangleTownModel" 87 10 38 2 := ⟨cin_10, rfl, (inT6 75 rfl rfl)⟩
theorem f_Mod_90 : FL "MangleTownModel" 90 10 39 2 := ⟨cin_10, rfl, (inT6 76 rfl rfl)⟩
theorem f_Mod_93 : FL "MangleTownModel" 93 10 40 2 := ⟨cin_10, rfl, (inT6 77 rfl rfl)⟩
theorem f_Mod_96 : FL "MangleTownModel" 96 10 41 2 := ⟨cin_10, rfl, (inT6 78 rfl rfl)⟩
theorem f_Mod_99 : FL "MangleTownModel" 99 10 42 2 := ⟨cin_10, rfl, (inT6 79 rfl rfl)⟩
theorem f_Rows_104 : FL "MangleTown$Rows" 104 4 3 2 := ⟨cin_4, rfl, (inT2 37 rfl rfl)⟩
theorem f_Rows_107 : FL "MangleTown$Rows" 107 4 2 2 := ⟨cin_4, rfl, (inT2 35 rfl rfl)⟩
theorem f_Rows_15 : FL "MangleTown$Rows" 15 2 2 2 := ⟨cin_2, rfl, (inT2 102 rfl rfl)⟩
theorem f_Rows_18 : FL "MangleTown$Rows" 18 2 3 2 := ⟨cin_2, rfl, (inT2 103 rfl rfl)⟩
theorem f_Rows_21 : FL "MangleTown$Rows" 21 2 4 2 := ⟨cin_2, rfl, (inT2 104 rfl rfl)⟩
theorem f_Rows_24 : FL "MangleTown$Rows" 24 2 5 2 := ⟨cin_2, rfl, (inT2 105 rfl rfl)⟩
theorem f_Rows_27 : FL "MangleTown$Rows" 27 2 6 2 := ⟨cin_2, rfl, (inT2 106 rfl rfl)⟩
theorem f_Rows_34 : FL "MangleTown$Rows" 34 7 9 0 := ⟨cin_7, rfl, (inT1 145 rfl rfl)⟩
theorem f_Rows_75 : FL "MangleTown$Rows" 75 2 1 0 := ⟨cin_2, rfl, (inT2 100 rfl rfl)⟩
theorem f_Rows_9 : FL "MangleTown$Rows" 9 2 0 2 := ⟨cin_2, rfl, (inT2 98 rfl rfl)⟩
theorem f_Rows_99 : FL "MangleTown$Rows" 99 4 4 0 := ⟨cin_4, rfl, (inT2 39 rfl rfl)⟩
theorem f_Secrets_15 : FL "MangleTown$Secrets" 15 3 4 2 := ⟨cin_3, rfl, (inT2 135 rfl rfl)⟩
theorem f_Secrets_18 : FL "MangleTown$Secrets" 18 7 9 0 := ⟨cin_7, rfl, (inT1 144 rfl rfl)⟩
theorem f_Secrets_30 : FL "MangleTown$Secrets" 30 3 0 0 := ⟨cin_3, rfl, (inT2 128 rfl rfl)⟩
theorem f_Secrets_33 : FL "MangleTown$Secrets" 33 3 1 0 := ⟨cin_3, rfl, (inT2 130 rfl rfl)⟩
theorem f_Secrets_36 : FL "MangleTown$Secrets" 36 3 2 0 := ⟨cin_3, rfl, (inT2 132 rfl rfl)⟩
theorem f_Secrets_9 : FL "MangleTown$Secrets" 9 3 3 2 := ⟨cin_3, rfl, (inT2 134 rfl rfl)⟩
theorem f_Standing_12 : FL "MangleTown$Standing" 12 4 0 2 := ⟨cin_4, rfl, (inT2 30 rfl rfl)⟩
theorem f_Standing_21 : FL "MangleTown$Standing" 21 4 1 2 := ⟨cin_4, rfl, (inT2 32 rfl rfl)⟩
theorem f_Standing_25 : FL "MangleTown$Standing" 25 4 2 2 := ⟨cin_4, rfl, (inT2 34 rfl rfl)⟩
theorem f_Standing_29 : FL "MangleTown$Standing" 29 4 3 2 := ⟨cin_4, rfl, (inT2 36 rfl rfl)⟩
theorem f_Standing_32 : FL "MangleTown$Standing" 32 4 5 0 := ⟨cin_4, rfl, (inT2 41 rfl rfl)⟩
theorem f_Standing_40 : FL "MangleTown$Standing" 40 8 3 0 := ⟨cin_8, rfl, (inT1 198 rfl rfl)⟩
theorem f_Standing_43 : FL "MangleTown$Standing" 43 4 4 0 := ⟨cin_4, rfl, (inT2 38 rfl rfl)⟩
theorem f_State_15 : FL "MangleTown$State" 15 5 1 2 := ⟨cin_5, rfl, (inT1 220 rfl rfl)⟩
theorem f_State_18 : FL "MangleTown$State" 18 5 2 2 := ⟨cin_5, rfl, (inT1 223 rfl rfl)⟩
theorem f_State_21 : FL "MangleTown$State" 21 5 3 2 := ⟨cin_5, rfl, (inT1 225 rfl rfl)⟩
theorem f_State_24 : FL "MangleTown$State" 24 7 2 2 := ⟨cin_7, rfl, (inT1 134 rfl rfl)⟩
theorem f_State_27 : FL "MangleTown$State" 27 7 3 2 := ⟨cin_7, rfl, (inT1 136 rfl rfl)⟩
theorem f_State_28 : FL "MangleTown$State" 28 5 4 0 := ⟨cin_5, rfl, (inT1 228 rfl rfl)⟩
theorem f_State_32 : FL "MangleTown$State" 32 7 10 0 := ⟨cin_7, rfl, (inT1 150 rfl rfl)⟩
theorem f_State_35 : FL "MangleTown$State" 35 5 5 0 := ⟨cin_5, rfl, (inT1 230 rfl rfl)⟩
theorem f_State_36 : FL "MangleTown$State" 36 5 6 0 := ⟨cin_5, rfl, (inT1 234 rfl rfl)⟩
theorem f_State_39 : FL "MangleTown$State" 39 5 7 0 := ⟨cin_5, rfl, (inT1 237 rfl rfl)⟩
theorem f_State_42 : FL "MangleTown$State" 42 5 8 0 := ⟨cin_5, rfl, (inT1 239 rfl rfl)⟩
theorem f_State_51 : FL "MangleTown$State" 51 7 9 0 := ⟨cin_7, rfl, (inT1 148 rfl rfl)⟩
theorem f_State_9 : FL "MangleTown$State" 9 5 0 2 := ⟨cin_5, rfl, (inT1 216 rfl rfl)⟩
theorem f_Tape_21 : FL "MangleTown$Tape" 21 6 6 4 := ⟨cin_6, rfl, (inT1 53 rfl rfl)⟩
theorem f_Tape_24 : FL "MangleTown$Tape" 24 6 1 0 := ⟨cin_6, rfl, (inT1 45 rfl rfl)⟩
theorem f_Tape_28 : FL "MangleTown$Tape" 28 6 2 0 := ⟨cin_6, rfl, (inT1 46 rfl rfl)⟩
theorem f_Tape_31 : FL "MangleTown$Tape" 31 6 4 0 := ⟨cin_6, rfl, (inT1 48 rfl rfl)⟩
theorem f_Tape_34 : FL "MangleTown$Tape" 34 6 10 0 := ⟨cin_6, rfl, (inT1 65 rfl rfl)⟩
theorem f_Tape_40 : FL "MangleTown$Tape" 40 6 3 0 := ⟨cin_6, rfl, (inT1 47 rfl rfl)⟩
theorem f_Tape_43 : FL "MangleTown$Tape" 43 6 5 0 := ⟨cin_6, rfl, (inT1 50 rfl rfl)⟩
theorem f_Tape_49 : FL "MangleTown$Tape" 49 6 7 1 := ⟨cin_6, rfl, (inT1 57 rfl rfl)⟩
theorem f_Tape_68 : FL "MangleTown$Tape" 68 6 11 0 := ⟨cin_6, rfl, (inT1 67 rfl rfl)⟩
theorem f_Tape_73 : FL "MangleTown$Tape" 73 6 8 0 := ⟨cin_6, rfl, (inT1 59 rfl rfl)⟩
theorem f_Tape_87 : FL "MangleTown$Tape" 87 6 9 0 := ⟨cin_6, rfl, (inT1 63 rfl rfl)⟩
theorem f_Tape_9 : FL "MangleTown$Tape" 9 6 0 2 := ⟨cin_6, rfl, (inT1 43 rfl rfl)⟩
theorem f_Town_113 : FL "MangleTown$Town" 113 6 6 4 := ⟨cin_6, rfl, (inT1 56 rfl rfl)⟩
theorem f_Town_15 : FL "MangleTown$Town" 15 7 1 2 := ⟨cin_7, rfl, (inT1 130 rfl rfl)⟩
theorem f_Town_154 : FL "MangleTown$Town" 154 6 7 1 := ⟨cin_6, rfl, (inT1 58 rfl rfl)⟩
theorem f_Town_187 : FL "MangleTown$Town" 187 6 9 0 := ⟨cin_6, rfl, (inT1 64 rfl rfl)⟩
theorem f_Town_19 : FL "MangleTown$Town" 19 7 2 2 := ⟨cin_7, rfl, (inT1 133 rfl rfl)⟩
theorem f_Town_197 : FL "MangleTown$Town" 197 6 8 0 := ⟨cin_6, rfl, (inT1 61 rfl rfl)⟩
theorem f_Town_22 : FL "MangleTown$Town" 22 7 3 2 := ⟨cin_7, rfl, (inT1 135 rfl rfl)⟩
theorem f_Town_25 : FL "MangleTown$Town" 25 7 4 2 := ⟨cin_7, rfl, (inT1 137 rfl rfl)⟩
theorem f_Town_28 : FL "MangleTown$Town" 28 7 5 2 := ⟨cin_7, rfl, (inT1 139 rfl rfl)⟩
theorem f_Town_31 : FL "MangleTown$Town" 31 7 6 2 := ⟨cin_7, rfl, (inT1 140 rfl rfl)⟩
theorem f_Town_39 : FL "MangleTown$Town" 39 7 7 2 := ⟨cin_7, rfl, (inT1 141 rfl rfl)⟩
theorem f_Town_43 : FL "MangleTown$Town" 43 7 8 2 := ⟨cin_7, rfl, (inT1 142 rfl rfl)⟩
theorem f_Town_49 : FL "MangleTown$Town" 49 7 9 0 := ⟨cin_7, rfl, (inT1 143 rfl rfl)⟩
theorem f_Town_53 : FL "MangleTown$Town" 53 7 10 0 := ⟨cin_7, rfl, (inT1 149 rfl rfl)⟩
theorem f_Town_56 : FL "MangleTown$Town" 56 7 11 0 := ⟨cin_7, rfl, (inT1 151 rfl rfl)⟩
theorem f_Town_59 : FL "MangleTown$Town" 59 7 12 0 := ⟨cin_7, rfl, (inT1 154 rfl rfl)⟩
theorem f_Town_65 : FL "MangleTown$Town" 65 7 13 0 := ⟨cin_7, rfl, (inT1 155 rfl rfl)⟩
theorem f_Town_74 : FL "MangleTown$Town" 74 5 0 2 := ⟨cin_5, rfl, (inT1 219 rfl rfl)⟩
theorem f_Town_77 : FL "MangleTown$Town" 77 5 1 2 := ⟨cin_5, rfl, (inT1 222 rfl rfl)⟩
theorem f_Town_78 : FL "MangleTown$Town" 78 5 5 0 := ⟨cin_5, rfl, (inT1 232 rfl rfl)⟩
theorem f_Town_9 : FL "MangleTown$Town" 9 7 0 2 := ⟨cin_7, rfl, (inT1 129 rfl rfl)⟩
theorem f_Town_97 : FL "MangleTown$Town" 97 6 5 0 := ⟨cin_6, rfl, (inT1 51 rfl rfl)⟩
theorem f_Years_11 : FL "MangleTown$Years" 11 8 0 2 := ⟨cin_8, rfl, (inT1 191 rfl rfl)⟩
theorem f_Years_15 : FL "MangleTown$Years" 15 8 1 2 := ⟨cin_8, rfl, (inT1 193 rfl rfl)⟩
theorem f_Years_18 : FL "MangleTown$Years" 18 8 2 2 := ⟨cin_8, rfl, (inT1 195 rfl rfl)⟩
theorem f_Years_21 : FL "MangleTown$Years" 21 8 3 0 := ⟨cin_8, rfl, (inT1 197 rfl rfl)⟩
theorem f_Years_31 : FL "MangleTown$Years" 31 6 5 0 := ⟨cin_6, rfl, (inT1 49 rfl rfl)⟩
theorem f_Years_44 : FL "MangleTown$Years" 44 6 6 4 := ⟨cin_6, rfl, (inT1 54 rfl rfl)⟩
theorem f_Years_86 : FL "MangleTown$Years" 86 6 9 0 := ⟨cin_6, rfl, (inT1 62 rfl rfl)⟩
theorem kM_copy_Standing : Cond.methodLink "MangleTown$Standing" 49 arraycopyName ∈ TB ∧ Cond.native arraycopyName ∈ TB ∧ Cond.static arraycopyName ∈ TB ∧ Cond.initialized "java/lang/System" ∈ TB := ⟨(inT5 146 rfl rfl), (inT2 161 rfl rfl), (inT2 160 rfl rfl), (inT1 13 rfl rfl)⟩
theorem kM_copy_State : Cond.methodLink "MangleTown$State" 45 arraycopyName ∈ TB ∧ Cond.native arraycopyName ∈ TB ∧ Cond.static arraycopyName ∈ TB ∧ Cond.initialized "java/lang/System" ∈ TB := ⟨(inT2 159 rfl rfl), (inT2 161 rfl rfl), (inT2 160 rfl rfl), (inT1 13 rfl rfl)⟩
theorem kM_copy_Years : Cond.methodLink "MangleTown$Years" 25 arraycopyName ∈ TB ∧ Cond.native arraycopyName ∈ TB ∧ Cond.static arraycopyName ∈ TB ∧ Cond.initialized "java/lang/System" ∈ TB := ⟨(inT4 26 rfl rfl), (inT2 161 rfl rfl), (inT2 160 rfl rfl), (inT1 13 rfl rfl)⟩
theorem kM_max_JLat : Cond.methodLink "java/lang/StringLatin1" 92 Lib.Math.max.name ∈ TB ∧ Cond.static Lib.Math.max.name ∈ TB ∧ Cond.initialized "java/lang/Math" ∈ TB ∧ Cond.code Lib.Math.max.name Lib.Math.max.code 2 (some .int) ∈ TB := ⟨(inT3 39 rfl rfl), (inT3 40 rfl rfl), (inT1 17 rfl rfl), (inT3 41 rfl rfl)⟩
theorem kM_max_Mod : Cond.methodLink "MangleTownModel" 447 Lib.Math.max.name ∈ TB ∧ Cond.static Lib.Math.max.name ∈ TB ∧ Cond.initialized "java/lang/Math" ∈ TB ∧ Cond.code Lib.Math.max.name Lib.Math.max.code 2 (some .int) ∈ TB := ⟨(inT8 82 rfl rfl), (inT3 40 rfl rfl), (inT1 17 rfl rfl), (inT3 41 rfl rfl)⟩
theorem kM_max_Rows : Cond.methodLink "MangleTown$Rows" 124 Lib.Math.max.name ∈ TB ∧ Cond.static Lib.Math.max.name ∈ TB ∧ Cond.initialized "java/lang/Math" ∈ TB ∧ Cond.code Lib.Math.max.name Lib.Math.max.code 2 (some .int) ∈ TB := ⟨(inT5 108 rfl rfl), (inT3 40 rfl rfl), (inT1 17 rfl rfl), (inT3 41 rfl rfl)⟩
theorem kM_max_Secrets : Cond.methodLink "MangleTown$Secrets" 51 Lib.Math.max.name ∈ TB ∧ Cond.static Lib.Math.max.name ∈ TB ∧ Cond.initialized "java/lang/Math" ∈ TB ∧ Cond.code Lib.Math.max.name Lib.Math.max.code 2 (some .int) ∈ TB := ⟨(inT5 62 rfl rfl), (inT3 40 rfl rfl), (inT1 17 rfl rfl), (inT3 41 rfl rfl)⟩
theorem kM_max_Town : Cond.methodLink "MangleTown$Town" 90 Lib.Math.max.name ∈ TB ∧ Cond.static Lib.Math.max.name ∈ TB ∧ Cond.initialized "java/lang/Math" ∈ TB ∧ Cond.code Lib.Math.max.name Lib.Math.max.code 2 (some .int) ∈ TB := ⟨(inT4 87 rfl rfl), (inT3 40 rfl rfl), (inT1 17 rfl rfl), (inT3 41 rfl rfl)⟩
theorem kM_min_JLat : Cond.methodLink "java/lang/StringLatin1" 38 Lib.Math.min.name ∈ TB ∧ Cond.static Lib.Math.min.name ∈ TB ∧ Cond.initialized "java/lang/Math" ∈ TB ∧ Cond.code Lib.Math.min.name Lib.Math.min.code 2 (some .int) ∈ TB := ⟨(inT3 42 rfl rfl), (inT3 43 rfl rfl), (inT1 17 rfl rfl), (inT3 44 rfl rfl)⟩
theorem kM_min_Main : Cond.methodLink "MangleTown" 353 Lib.Math.min.name ∈ TB ∧ Cond.static Lib.Math.min.name ∈ TB ∧ Cond.initialized "java/lang/Math" ∈ TB ∧ Cond.code Lib.Math.min.name Lib.Math.min.code 2 (some .int) ∈ TB := ⟨(inT4 107 rfl rfl), (inT3 43 rfl rfl), (inT1 17 rfl rfl), (inT3 44 rfl rfl)⟩
theorem kM_min_Mangle : Cond.methodLink "MangleTown$Mangle" 71 Lib.Math.min.name ∈ TB ∧ Cond.static Lib.Math.min.name ∈ TB ∧ Cond.initialized "java/lang/Math" ∈ TB ∧ Cond.code Lib.Math.min.name Lib.Math.min.code 2 (some .int) ∈ TB := ⟨(inT4 145 rfl rfl), (inT3 43 rfl rfl), (inT1 17 rfl rfl), (inT3 44 rfl rfl)⟩
theorem kM_min_Mod : Cond.methodLink "MangleTownModel" 357 Lib.Math.min.name ∈ TB ∧ Cond.static Lib.Math.min.name ∈ TB ∧ Cond.initialized "java/lang/Math" ∈ TB ∧ Cond.code Lib.Math.min.name Lib.Math.min.code 2 (some .int) ∈ TB := ⟨(inT7 190 rfl rfl), (inT3 43 rfl rfl), (inT1 17 rfl rfl), (inT3 44 rfl rfl)⟩
theorem kM_min_Rows : Cond.methodLink "MangleTown$Rows" 90 Lib.Math.min.name ∈ TB ∧ Cond.static Lib.Math.min.name ∈ TB ∧ Cond.initialized "java/lang/Math" ∈ TB ∧ Cond.code Lib.Math.min.name Lib.Math.min.code 2 (some .int) ∈ TB := ⟨(inT4 233 rfl rfl), (inT3 43 rfl rfl), (inT1 17 rfl rfl), (inT3 44 rfl rfl)⟩
theorem kM_min_State : Cond.methodLink "MangleTown$State" 69 Lib.Math.min.name ∈ TB ∧ Cond.static Lib.Math.min.name ∈ TB ∧ Cond.initialized "java/lang/Math" ∈ TB ∧ Cond.code Lib.Math.min.name Lib.Math.min.code 2 (some .int) ∈ TB := ⟨(inT4 140 rfl rfl), (inT3 43 rfl rfl), (inT1 17 rfl rfl), (inT3 44 rfl rfl)⟩
theorem kM_min_Town : Cond.methodLink "MangleTown$Town" 87 Lib.Math.min.name ∈ TB ∧ Cond.static Lib.Math.min.name ∈ TB ∧ Cond.initialized "java/lang/Math" ∈ TB ∧ Cond.code Lib.Math.min.name Lib.Math.min.code 2 (some .int) ∈ TB := ⟨(inT4 86 rfl rfl), (inT3 43 rfl rfl), (inT1 17 rfl rfl), (inT3 44 rfl rfl)⟩
theorem m_JLat_88 : MLS "java/lang/StringLatin1" 88 yJ1_canEncode_9a6ad cJ1_canEncode_9a6ad 1 (some .boolean) 1 := ⟨⟨(inT3 36 rfl rfl), (inT1 16 rfl rfl), (inT3 38 rfl rfl), by decide +kernel, by decide⟩, (inT3 37 rfl rfl)⟩
theorem m_JLat_95 : MLS "java/lang/StringLatin1" 95 yJ1_indexOfChar_4cfef cJ1_indexOfChar_4cfef 6 (some .int) 4 := ⟨⟨(inT3 45 rfl rfl), (inT1 16 rfl rfl), (inT3 47 rfl rfl), by decide +kernel, by decide⟩, (inT3 46 rfl rfl)⟩
theorem m_JStr_492 : MLE "java/lang/String" 492 yJ0_isLatin1_aae02 cJ0_isLatin1_aae02 1 (some .boolean) 0 "java/lang/String" := ⟨⟨(inT3 19 rfl rfl), (inT1 15 rfl rfl), (inT3 22 rfl rfl), by decide +kernel, by decide⟩, (inT3 20 rfl rfl), (inT3 21 rfl rfl)⟩
theorem m_JStr_633 : MLE "java/lang/String" 633 yJ0_indexOf_7cf53 cJ0_indexOf_7cf53 3 (some .int) 2 "java/lang/String" := ⟨⟨(inT3 15 rfl rfl), (inT1 15 rfl rfl), (inT3 18 rfl rfl), by decide +kernel, by decide⟩, (inT3 16 rfl rfl), (inT3 17 rfl rfl)⟩
theorem m_Law_26 : MLV "MangleTown$Law" 26 yX1_readE cX1_readE 5 (some .boolean) 2 0 := ⟨⟨(inT3 184 rfl rfl), (inT1 6 rfl rfl), (inT3 187 rfl rfl), by decide +kernel, by decide⟩, (inT3 186 rfl rfl), (inP1 12 rfl), rfl⟩
theorem m_Law_30 : MLV "MangleTown$Law" 30 yX1_readTest cX1_readTest 4 (some .boolean) 2 0 := ⟨⟨(inT3 188 rfl rfl), (inT1 6 rfl rfl), (inT3 191 rfl rfl), by decide +kernel, by decide⟩, (inT3 190 rfl rfl), (inP1 13 rfl), rfl⟩
theorem m_Law_47 : MLV "MangleTown$Law" 47 yX7_advance cX7_advance 2 none 0 6 := ⟨⟨(inT3 217 rfl rfl), (inT1 2 rfl rfl), (inT2 234 rfl rfl), by decide +kernel, by decide⟩, (inT2 232 rfl rfl), (inT2 233 rfl rfl), rfl⟩
theorem m_Law_50 : MLV "MangleTown$Law" 50 yX1_add cX1_add 2 none 1 0 := ⟨⟨(inT3 223 rfl rfl), (inT1 6 rfl rfl), (inT3 226 rfl rfl), by decide +kernel, by decide⟩, (inT3 225 rfl rfl), (inP2 2 rfl), rfl⟩
theorem m_Law_54 : MLV "MangleTown$Law" 54 yX1_readSum cX1_readSum 5 (some .boolean) 2 0 := ⟨⟨(inT3 192 rfl rfl), (inT1 6 rfl rfl), (inT3 195 rfl rfl), by decide +kernel, by decide⟩, (inT3 194 rfl rfl), (inP1 14 rfl), rfl⟩
theorem m_Law_57 : MLV "MangleTown$Law" 57 yX7_isSign cX7_isSign 2 (some .boolean) 1 6 := ⟨⟨(inT3 210 rfl rfl), (inT1 2 rfl rfl), (inT3 213 rfl rfl), by decide +kernel, by decide⟩, (inT3 211 rfl rfl), (inT3 212 rfl rfl), rfl⟩
theorem m_Law_61 : MLV "MangleTown$Law" 61 yX1_readProduct cX1_readProduct 4 (some .boolean) 2 0 := ⟨⟨(inT3 196 rfl rfl), (inT1 6 rfl rfl), (inT3 199 rfl rfl), by decide +kernel, by decide⟩, (inT3 198 rfl rfl), (inP1 15 rfl), rfl⟩
theorem m_Law_64 : MLV "MangleTown$Law" 64 yX1_readPart cX1_readPart 6 (some .boolean) 2 0 := ⟨⟨(inT3 200 rfl rfl), (inT1 6 rfl rfl), (inT3 203 rfl rfl), by decide +kernel, by decide⟩, (inT3 202 rfl rfl), (inP2 0 rfl), rfl⟩
theorem m_Law_73 : MLV "MangleTown$Law" 73 yX1_factCode cX1_factCode 2 (some .int) 1 0 := ⟨⟨(inT3 204 rfl rfl), (inT1 6 rfl rfl), (inT3 207 rfl rfl), by decide +kernel, by decide⟩, (inT3 206 rfl rfl), (inP2 1 rfl), rfl⟩
theorem m_Law_80 : MLV "MangleTown$Law" 80 yX7_fail cX7_fail 2 (some .boolean) 1 6 := ⟨⟨(inT3 216 rfl rfl), (inT1 2 rfl rfl), (inT3 120 rfl rfl), by decide +kernel, by decide⟩, (inT3 118 rfl rfl), (inT3 119 rfl rfl), rfl⟩
theorem m_Law_83 : MLV "MangleTown$Law" 83 yX7_takeSign cX7_takeSign 2 (some .boolean) 1 6 := ⟨⟨(inT3 218 rfl rfl), (inT1 2 rfl rfl), (inT3 221 rfl rfl), by decide +kernel, by decide⟩, (inT3 219 rfl rfl), (inT3 220 rfl rfl), rfl⟩
theorem m_Law_91 : MLO "MangleTown$Law" 91 ⟨"MangleTown$Word", "ordinal", "()I"⟩ yJx29ce0_ordinal_8abf5 "MangleTown$Word" "java/lang/Enum" cJx29ce0_ordinal_8abf5 1 (some .int) 0 := ⟨⟨(inT3 209 rfl rfl), (inT3 108 rfl rfl), (inT3 110 rfl rfl), (inT3 111 rfl rfl), (inT1 3 rfl rfl), (inT3 112 rfl rfl)⟩, rfl, by decide +kernel, by decide⟩
theorem m_Law_95 : MLS "MangleTown$Law" 95 yX1_joined cX1_joined 3 (some .int) 3 := ⟨⟨(inT4 80 rfl rfl), (inT1 6 rfl rfl), (inT4 82 rfl rfl), by decide +kernel, by decide⟩, (inT4 81 rfl rfl)⟩
theorem m_Law_99 : MLS "MangleTown$Law" 99 yX1_leafValue cX1_leafValue 6 (some .int) 6 := ⟨⟨(inT4 83 rfl rfl), (inT1 6 rfl rfl), (inT4 85 rfl rfl), by decide +kernel, by decide⟩, (inT4 84 rfl rfl)⟩
theorem m_Main_102 : MLV "MangleTown" 102 yX7_beginReading cX7_beginReading 1 none 0 6 := ⟨⟨(inT2 227 rfl rfl), (inT1 2 rfl rfl), (inT2 230 rfl rfl), by decide +kernel, by decide⟩, (inT2 228 rfl rfl), (inT2 229 rfl rfl), rfl⟩
theorem m_Main_105 : MLV "MangleTown" 105 yX8_readFrom cX8_readFrom 3 (some .boolean) 1 7 := ⟨⟨(inT3 97 rfl rfl), (inT1 5 rfl rfl), (inT3 100 rfl rfl), by decide +kernel, by decide⟩, (inT3 98 rfl rfl), (inT3 99 rfl rfl), rfl⟩
theorem m_Main_115 : MLV "MangleTown" 115 yX10_readFrom cX10_readFrom 4 (some .boolean) 2 8 := ⟨⟨(inT3 236 rfl rfl), (inT1 7 rfl rfl), (inT3 239 rfl rfl), by decide +kernel, by decide⟩, (inT3 237 rfl rfl), (inT3 238 rfl rfl), rfl⟩
theorem m_Main_121 : MLV "MangleTown" 121 yX10_copyFrom cX10_copyFrom 2 none 1 8 := ⟨⟨(inT4 22 rfl rfl), (inT1 7 rfl rfl), (inT4 25 rfl rfl), by decide +kernel, by decide⟩, (inT4 23 rfl rfl), (inT4 24 rfl rfl), rfl⟩
theorem m_Main_125 : MLV "MangleTown" 125 yX11_isHouse cX11_isHouse 2 (some .boolean) 1 9 := ⟨⟨(inT4 31 rfl rfl), (inT1 1 rfl rfl), (inT4 34 rfl rfl), by decide +kernel, by decide⟩, (inT4 33 rfl rfl), (inP2 6 rfl), rfl⟩
theorem m_Main_148 : MLV "MangleTown" 148 yX6_goes cX6_goes 2 (some .boolean) 1 5 := ⟨⟨(inT4 35 rfl rfl), (inT1 8 rfl rfl), (inT4 38 rfl rfl), by decide +kernel, by decide⟩, (inT4 36 rfl rfl), (inT4 37 rfl rfl), rfl⟩
theorem m_Main_154 : MLV "MangleTown" 154 yX6_placeOf cX6_placeOf 4 (some .int) 2 5 := ⟨⟨(inT4 39 rfl rfl), (inT1 8 rfl rfl), (inT4 42 rfl rfl), by decide +kernel, by decide⟩, (inT4 40 rfl rfl), (inT4 41 rfl rfl), rfl⟩
theorem m_Main_161 : MLV "MangleTown" 161 yX11_isGoing cX11_isGoing 2 (some .boolean) 1 9 := ⟨⟨(inT4 51 rfl rfl), (inT1 1 rfl rfl), (inT4 54 rfl rfl), by decide +kernel, by decide⟩, (inT4 53 rfl rfl), (inP2 7 rfl), rfl⟩
theorem m_Main_164 : MLV "MangleTown" 164 yX6_nextAhead cX6_nextAhead 5 (some .int) 2 5 := ⟨⟨(inT4 55 rfl rfl), (inT1 8 rfl rfl), (inT4 58 rfl rfl), by decide +kernel, by decide⟩, (inT4 56 rfl rfl), (inT4 57 rfl rfl), rfl⟩
theorem m_Main_168 : MLV "MangleTown" 168 yX8_pressedOut cX8_pressedOut 6 (some .int) 2 7 := ⟨⟨(inT4 68 rfl rfl), (inT1 5 rfl rfl), (inT4 71 rfl rfl), by decide +kernel, by decide⟩, (inT4 69 rfl rfl), (inT4 70 rfl rfl), rfl⟩
theorem m_Main_172 : MLV "MangleTown" 172 yX8_isCat cX8_isCat 2 (some .boolean) 1 7 := ⟨⟨(inT4 92 rfl rfl), (inT1 5 rfl rfl), (inT4 63 rfl rfl), by decide +kernel, by decide⟩, (inT4 61 rfl rfl), (inT4 62 rfl rfl), rfl⟩
theorem m_Main_175 : MLV "MangleTown" 175 yX8_printedOn cX8_printedOn 6 (some .int) 3 7 := ⟨⟨(inT4 93 rfl rfl), (inT1 5 rfl rfl), (inT4 96 rfl rfl), by decide +kernel, by decide⟩, (inT4 94 rfl rfl), (inT4 95 rfl rfl), rfl⟩
theorem m_Main_179 : MLV "MangleTown" 179 yX11_remember cX11_remember 1 none 0 9 := ⟨⟨(inT4 102 rfl rfl), (inT1 1 rfl rfl), (inT4 105 rfl rfl), by decide +kernel, by decide⟩, (inT4 104 rfl rfl), (inP2 8 rfl), rfl⟩
theorem m_Main_182 : MLV "MangleTown" 182 yX6_moveTo cX6_moveTo 6 (some .boolean) 3 5 := ⟨⟨(inT4 108 rfl rfl), (inT1 8 rfl rfl), (inT4 111 rfl rfl), by decide +kernel, by decide⟩, (inT4 109 rfl rfl), (inT4 110 rfl rfl), rfl⟩
theorem m_Main_186 : MLV "MangleTown" 186 yX6_turnRoad cX6_turnRoad 2 none 1 5 := ⟨⟨(inT4 117 rfl rfl), (inT1 8 rfl rfl), (inT4 120 rfl rfl), by decide +kernel, by decide⟩, (inT4 118 rfl rfl), (inT4 119 rfl rfl), rfl⟩
theorem m_Main_190 : MLV "MangleTown" 190 yX2_drawThrough cX2_drawThrough 6 none 2 1 := ⟨⟨(inT4 125 rfl rfl), (inT1 10 rfl rfl), (inT4 128 rfl rfl), by decide +kernel, by decide⟩, (inT4 126 rfl rfl), (inT4 127 rfl rfl), rfl⟩
theorem m_Main_203 : MLV "MangleTown" 203 yX6_sellPints cX6_sellPints 3 (some .boolean) 2 5 := ⟨⟨(inT4 162 rfl rfl), (inT1 8 rfl rfl), (inT4 165 rfl rfl), by decide +kernel, by decide⟩, (inT4 163 rfl rfl), (inT4 164 rfl rfl), rfl⟩
theorem m_Main_213 : MLV "MangleTown" 213 yX6_copyFrom cX6_copyFrom 2 none 1 5 := ⟨⟨(inT4 106 rfl rfl), (inT1 8 rfl rfl), (inT2 158 rfl rfl), by decide +kernel, by decide⟩, (inT2 156 rfl rfl), (inT2 157 rfl rfl), rfl⟩
theorem m_Main_215 : MLV "MangleTown" 215 yX2_judge cX2_judge 5 none 3 1 := ⟨⟨(inT4 174 rfl rfl), (inT1 10 rfl rfl), (inT4 177 rfl rfl), by decide +kernel, by decide⟩, (inT4 175 rfl rfl), (inT4 176 rfl rfl), rfl⟩
theorem m_Main_225 : MLV "MangleTown" 225 yX6_shunnedBy cX6_shunnedBy 6 (some .int) 1 5 := ⟨⟨(inT4 195 rfl rfl), (inT1 8 rfl rfl), (inT4 181 rfl rfl), by decide +kernel, by decide⟩, (inT4 179 rfl rfl), (inT4 180 rfl rfl), rfl⟩
theorem m_Main_229 : MLV "MangleTown" 229 yX3_findBest cX3_findBest 6 none 2 2 := ⟨⟨(inT4 200 rfl rfl), (inT1 11 rfl rfl), (inT4 203 rfl rfl), by decide +kernel, by decide⟩, (inT4 201 rfl rfl), (inT4 202 rfl rfl), rfl⟩
theorem m_Main_238 : MLV "MangleTown" 238 yX3_leastRoad cX3_leastRoad 7 (some .int) 2 2 := ⟨⟨(inT5 6 rfl rfl), (inT1 11 rfl rfl), (inT5 9 rfl rfl), by decide +kernel, by decide⟩, (inT5 7 rfl rfl), (inT5 8 rfl rfl), rfl⟩
theorem m_Main_242 : MLV "MangleTown" 242 yX6_allWet cX6_allWet 4 (some .int) 1 5 := ⟨⟨(inT5 20 rfl rfl), (inT1 8 rfl rfl), (inT5 23 rfl rfl), by decide +kernel, by decide⟩, (inT5 21 rfl rfl), (inT5 22 rfl rfl), rfl⟩
theorem m_Main_246 : MLV "MangleTown" 246 yX6_someGoesWithin cX6_someGoesWithin 4 (some .boolean) 2 5 := ⟨⟨(inT5 28 rfl rfl), (inT1 8 rfl rfl), (inT5 31 rfl rfl), by decide +kernel, by decide⟩, (inT5 29 rfl rfl), (inT5 30 rfl rfl), rfl⟩
theorem m_Main_252 : MLV "MangleTown" 252 yX4_weigh cX4_weigh 7 none 3 3 := ⟨⟨(inT5 40 rfl rfl), (inT1 12 rfl rfl), (inT5 43 rfl rfl), by decide +kernel, by decide⟩, (inT5 41 rfl rfl), (inT5 42 rfl rfl), rfl⟩
theorem m_Main_265 : MLV "MangleTown" 265 yX4_bestParting cX4_bestParting 6 (some .int) 1 3 := ⟨⟨(inT5 58 rfl rfl), (inT1 12 rfl rfl), (inT5 61 rfl rfl), by decide +kernel, by decide⟩, (inT5 59 rfl rfl), (inT5 60 rfl rfl), rfl⟩
theorem m_Main_268 : MLV "MangleTown" 268 yX5_addSeen cX5_addSeen 3 (some .boolean) 2 4 := ⟨⟨(inT5 67 rfl rfl), (inT1 9 rfl rfl), (inT5 70 rfl rfl), by decide +kernel, by decide⟩, (inT5 68 rfl rfl), (inT5 69 rfl rfl), rfl⟩
theorem m_Main_271 : MLV "MangleTown" 271 yX3_countOrders cX3_countOrders 4 (some .int) 2 2 := ⟨⟨(inT5 75 rfl rfl), (inT1 11 rfl rfl), (inT5 78 rfl rfl), by decide +kernel, by decide⟩, (inT5 76 rfl rfl), (inT5 77 rfl rfl), rfl⟩
theorem m_Main_275 : MLV "MangleTown" 275 yX3_firstOrderAt cX3_firstOrderAt 6 (some .int) 2 2 := ⟨⟨(inT5 87 rfl rfl), (inT1 11 rfl rfl), (inT5 90 rfl rfl), by decide +kernel, by decide⟩, (inT5 88 rfl rfl), (inT5 89 rfl rfl), rfl⟩
theorem m_Main_278 : MLV "MangleTown" 278 yX3_bestQuestion cX3_bestQuestion 9 (some .int) 2 2 := ⟨⟨(inT5 99 rfl rfl), (inT1 11 rfl rfl), (inT5 102 rfl rfl), by decide +kernel, by decide⟩, (inT5 100 rfl rfl), (inT5 101 rfl rfl), rfl⟩
theorem m_Main_281 : MLV "MangleTown" 281 yX11_goingAsThick cX11_goingAsThick 4 (some .int) 1 9 := ⟨⟨(inT5 113 rfl rfl), (inT1 1 rfl rfl), (inT5 116 rfl rfl), by decide +kernel, by decide⟩, (inT5 115 rfl rfl), (inP3 6 rfl), rfl⟩
theorem m_Main_316 : MLV "MangleTown" 316 yX2_passDecades cX2_passDecades 6 none 4 1 := ⟨⟨(inT5 121 rfl rfl), (inT1 10 rfl rfl), (inT5 124 rfl rfl), by decide +kernel, by decide⟩, (inT5 122 rfl rfl), (inT5 123 rfl rfl), rfl⟩
theorem m_Main_326 : MLV "MangleTown" 326 yX5_copyFrom cX5_copyFrom 2 none 1 4 := ⟨⟨(inT5 141 rfl rfl), (inT1 9 rfl rfl), (inT5 144 rfl rfl), by decide +kernel, by decide⟩, (inT5 142 rfl rfl), (inT5 143 rfl rfl), rfl⟩
theorem m_Main_335 : MLV "MangleTown" 335 yX8_rainOf cX8_rainOf 2 (some .int) 1 7 := ⟨⟨(inT5 151 rfl rfl), (inT1 5 rfl rfl), (inT4 150 rfl rfl), by decide +kernel, by decide⟩, (inT4 148 rfl rfl), (inT4 149 rfl rfl), rfl⟩
theorem m_Main_341 : MLV "MangleTown" 341 yX6_allPrinted cX6_allPrinted 4 (some .int) 1 5 := ⟨⟨(inT5 152 rfl rfl), (inT1 8 rfl rfl), (inT5 155 rfl rfl), by decide +kernel, by decide⟩, (inT5 153 rfl rfl), (inT5 154 rfl rfl), rfl⟩
theorem m_Main_350 : MLV "MangleTown" 350 yX7_addSign cX7_addSign 3 none 1 6 := ⟨⟨(inT2 219 rfl rfl), (inT1 2 rfl rfl), (inT2 222 rfl rfl), by decide +kernel, by decide⟩, (inT2 220 rfl rfl), (inT2 221 rfl rfl), rfl⟩
theorem m_Main_362 : MLS "MangleTown" 362 yX11_gainOfFirst cX11_gainOfFirst 3 (some .int) 3 := ⟨⟨(inT6 20 rfl rfl), (inT1 1 rfl rfl), (inT6 22 rfl rfl), by decide +kernel, by decide⟩, (inT6 21 rfl rfl)⟩
theorem m_Main_366 : MLS "MangleTown" 366 yX11_gainOfOther cX11_gainOfOther 3 (some .int) 3 := ⟨⟨(inT6 23 rfl rfl), (inT1 1 rfl rfl), (inT6 25 rfl rfl), by decide +kernel, by decide⟩, (inT6 24 rfl rfl)⟩
theorem m_Main_87 : MLV "MangleTown" 87 yX6_beginAs cX6_beginAs 3 none 1 5 := ⟨⟨(inT2 147 rfl rfl), (inT1 8 rfl rfl), (inT2 150 rfl rfl), by decide +kernel, by decide⟩, (inT2 148 rfl rfl), (inT2 149 rfl rfl), rfl⟩
theorem m_Main_91 : MLV "MangleTown" 91 yX5_beginAs cX5_beginAs 2 none 1 4 := ⟨⟨(inT2 151 rfl rfl), (inT1 9 rfl rfl), (inT2 154 rfl rfl), by decide +kernel, by decide⟩, (inT2 152 rfl rfl), (inT2 153 rfl rfl), rfl⟩
theorem m_Main_94 : MLV "MangleTown" 94 yX11_feedBytes cX11_feedBytes 4 none 1 9 := ⟨⟨(inT2 215 rfl rfl), (inT1 1 rfl rfl), (inT2 218 rfl rfl), by decide +kernel, by decide⟩, (inT2 217 rfl rfl), (inP1 1 rfl), rfl⟩
theorem m_Mangle_108 : MLV "MangleTown$Mangle" 108 yX6_moveTo cX6_moveTo 6 (some .boolean) 3 5 := ⟨⟨(inT4 187 rfl rfl), (inT1 8 rfl rfl), (inT4 111 rfl rfl), by decide +kernel, by decide⟩, (inT4 109 rfl rfl), (inT4 110 rfl rfl), rfl⟩
theorem m_Mangle_112 : MLV "MangleTown$Mangle" 112 yX6_turnRoad cX6_turnRoad 2 none 1 5 := ⟨⟨(inT4 188 rfl rfl), (inT1 8 rfl rfl), (inT4 120 rfl rfl), by decide +kernel, by decide⟩, (inT4 118 rfl rfl), (inT4 119 rfl rfl), rfl⟩
theorem m_Mangle_119 : MLV "MangleTown$Mangle" 119 yX6_sellPints cX6_sellPints 3 (some .boolean) 2 5 := ⟨⟨(inT4 189 rfl rfl), (inT1 8 rfl rfl), (inT4 165 rfl rfl), by decide +kernel, by decide⟩, (inT4 163 rfl rfl), (inT4 164 rfl rfl), rfl⟩
theorem m_Mangle_123 : MLV "MangleTown$Mangle" 123 yX2_drawThrough cX2_drawThrough 6 none 2 1 := ⟨⟨(inT4 190 rfl rfl), (inT1 10 rfl rfl), (inT4 128 rfl rfl), by decide +kernel, by decide⟩, (inT4 126 rfl rfl), (inT4 127 rfl rfl), rfl⟩
theorem m_Mangle_137 : MLV "MangleTown$Mangle" 137 yX2_shuffle cX2_shuffle 5 none 2 1 := ⟨⟨(inT5 125 rfl rfl), (inT1 10 rfl rfl), (inT5 128 rfl rfl), by decide +kernel, by decide⟩, (inT5 127 rfl rfl), (inP3 7 rfl), rfl⟩
theorem m_Mangle_140 : MLV "MangleTown$Mangle" 140 yX2_drawBelow cX2_drawBelow 2 (some .int) 1 1 := ⟨⟨(inT5 129 rfl rfl), (inT1 10 rfl rfl), (inT5 132 rfl rfl), by decide +kernel, by decide⟩, (inT5 131 rfl rfl), (inP3 8 rfl), rfl⟩
theorem m_Mangle_29 : MLV "MangleTown$Mangle" 29 yX6_goes cX6_goes 2 (some .boolean) 1 5 := ⟨⟨(inT4 129 rfl rfl), (inT1 8 rfl rfl), (inT4 38 rfl rfl), by decide +kernel, by decide⟩, (inT4 36 rfl rfl), (inT4 37 rfl rfl), rfl⟩
theorem m_Mangle_33 : MLV "MangleTown$Mangle" 33 yX2_pressOne cX2_pressOne 7 none 4 1 := ⟨⟨(inT4 130 rfl rfl), (inT1 10 rfl rfl), (inT4 133 rfl rfl), by decide +kernel, by decide⟩, (inT4 132 rfl rfl), (inP2 9 rfl), rfl⟩
theorem m_Mangle_37 : MLV "MangleTown$Mangle" 37 yX8_isCat cX8_isCat 2 (some .boolean) 1 7 := ⟨⟨(inT4 146 rfl rfl), (inT1 5 rfl rfl), (inT4 63 rfl rfl), by decide +kernel, by decide⟩, (inT4 61 rfl rfl), (inT4 62 rfl rfl), rfl⟩
theorem m_Mangle_43 : MLV "MangleTown$Mangle" 43 yX8_rainOf cX8_rainOf 2 (some .int) 1 7 := ⟨⟨(inT4 147 rfl rfl), (inT1 5 rfl rfl), (inT4 150 rfl rfl), by decide +kernel, by decide⟩, (inT4 148 rfl rfl), (inT4 149 rfl rfl), rfl⟩
theorem m_Mangle_47 : MLV "MangleTown$Mangle" 47 yX6_rainOn cX6_rainOn 3 none 2 5 := ⟨⟨(inT4 154 rfl rfl), (inT1 8 rfl rfl), (inT4 157 rfl rfl), by decide +kernel, by decide⟩, (inT4 155 rfl rfl), (inT4 156 rfl rfl), rfl⟩
theorem m_Mangle_51 : MLV "MangleTown$Mangle" 51 yX8_pressedOut cX8_pressedOut 6 (some .int) 2 7 := ⟨⟨(inT4 134 rfl rfl), (inT1 5 rfl rfl), (inT4 71 rfl rfl), by decide +kernel, by decide⟩, (inT4 69 rfl rfl), (inT4 70 rfl rfl), rfl⟩
theorem m_Mangle_55 : MLV "MangleTown$Mangle" 55 yX8_printedOn cX8_printedOn 6 (some .int) 3 7 := ⟨⟨(inT4 135 rfl rfl), (inT1 5 rfl rfl), (inT4 96 rfl rfl), by decide +kernel, by decide⟩, (inT4 94 rfl rfl), (inT4 95 rfl rfl), rfl⟩
theorem m_Mangle_59 : MLV "MangleTown$Mangle" 59 yX6_takeOut cX6_takeOut 3 none 2 5 := ⟨⟨(inT4 136 rfl rfl), (inT1 8 rfl rfl), (inT4 139 rfl rfl), by decide +kernel, by decide⟩, (inT4 137 rfl rfl), (inT4 138 rfl rfl), rfl⟩
theorem m_Mangle_62 : MLV "MangleTown$Mangle" 62 yX6_printOn cX6_printOn 3 none 2 5 := ⟨⟨(inT4 141 rfl rfl), (inT1 8 rfl rfl), (inT4 144 rfl rfl), by decide +kernel, by decide⟩, (inT4 142 rfl rfl), (inT4 143 rfl rfl), rfl⟩
theorem m_Mangle_94 : MLV "MangleTown$Mangle" 94 yX6_shunnedBy cX6_shunnedBy 6 (some .int) 1 5 := ⟨⟨(inT4 178 rfl rfl), (inT1 8 rfl rfl), (inT4 181 rfl rfl), by decide +kernel, by decide⟩, (inT4 179 rfl rfl), (inT4 180 rfl rfl), rfl⟩
theorem m_Mangle_98 : MLV "MangleTown$Mangle" 98 yX2_follow cX2_follow 5 (some .boolean) 4 1 := ⟨⟨(inT4 183 rfl rfl), (inT1 10 rfl rfl), (inT4 186 rfl rfl), by decide +kernel, by decide⟩, (inT4 185 rfl rfl), (inP2 10 rfl), rfl⟩
theorem m_Mod_144 : MLV "MangleTownModel" 144 yX12_fresh cX12_fresh 2 none 0 10 := ⟨⟨(inT6 33 rfl rfl), (inT1 14 rfl rfl), (inT6 36 rfl rfl), by decide +kernel, by decide⟩, (inT6 35 rfl rfl), (inP3 13 rfl), rfl⟩
theorem m_Mod_175 : MLV "MangleTownModel" 175 yX12_signAt cX12_signAt 2 (some .int) 1 10 := ⟨⟨(inT7 9 rfl rfl), (inT1 14 rfl rfl), (inT7 12 rfl rfl), by decide +kernel, by decide⟩, (inT7 11 rfl rfl), (inP4 1 rfl), rfl⟩
theorem m_Mod_202 : MLV "MangleTownModel" 202 yX12_fact cX12_fact 1 (some .int) 0 10 := ⟨⟨(inT7 103 rfl rfl), (inT1 14 rfl rfl), (inT7 106 rfl rfl), by decide +kernel, by decide⟩, (inT7 105 rfl rfl), (inP5 2 rfl), rfl⟩
theorem m_Mod_208 : MLV "MangleTownModel" 208 yX12_isWord cX12_isWord 3 (some .boolean) 1 10 := ⟨⟨(inT7 16 rfl rfl), (inT1 14 rfl rfl), (inT7 19 rfl rfl), by decide +kernel, by decide⟩, (inT7 18 rfl rfl), (inP4 2 rfl), rfl⟩
theorem m_Mod_212 : MLV "MangleTownModel" 212 yX12_isSign cX12_isSign 2 (some .boolean) 1 10 := ⟨⟨(inT7 71 rfl rfl), (inT1 14 rfl rfl), (inT7 74 rfl rfl), by decide +kernel, by decide⟩, (inT7 73 rfl rfl), (inP4 10 rfl), rfl⟩
theorem m_Mod_216 : MLV "MangleTownModel" 216 yX12_fails cX12_fails 2 (some .boolean) 1 10 := ⟨⟨(inT7 24 rfl rfl), (inT1 14 rfl rfl), (inT7 27 rfl rfl), by decide +kernel, by decide⟩, (inT7 26 rfl rfl), (inP4 4 rfl), rfl⟩
theorem m_Mod_219 : MLV "MangleTownModel" 219 yX12_puts cX12_puts 2 none 1 10 := ⟨⟨(inT7 112 rfl rfl), (inT1 14 rfl rfl), (inT7 115 rfl rfl), by decide +kernel, by decide⟩, (inT7 114 rfl rfl), (inP5 3 rfl), rfl⟩
theorem m_Mod_223 : MLV "MangleTownModel" 223 yX12_nextToken cX12_nextToken 2 none 0 10 := ⟨⟨(inT7 5 rfl rfl), (inT1 14 rfl rfl), (inT7 8 rfl rfl), by decide +kernel, by decide⟩, (inT7 7 rfl rfl), (inP4 0 rfl), rfl⟩
theorem m_Mod_230 : MLV "MangleTownModel" 230 yX12_sums cX12_sums 2 none 1 10 := ⟨⟨(inT7 179 rfl rfl), (inT1 14 rfl rfl), (inT7 182 rfl rfl), by decide +kernel, by decide⟩, (inT7 181 rfl rfl), (inP5 14 rfl), rfl⟩
theorem m_Mod_233 : MLV "MangleTownModel" 233 yX12_opens cX12_opens 2 none 1 10 := ⟨⟨(inT7 175 rfl rfl), (inT1 14 rfl rfl), (inT7 178 rfl rfl), by decide +kernel, by decide⟩, (inT7 177 rfl rfl), (inP5 13 rfl), rfl⟩
theorem m_Mod_236 : MLV "MangleTownModel" 236 yX12_tests cX12_tests 3 none 1 10 := ⟨⟨(inT7 183 rfl rfl), (inT1 14 rfl rfl), (inT7 186 rfl rfl), by decide +kernel, by decide⟩, (inT7 185 rfl rfl), (inP5 15 rfl), rfl⟩
theorem m_Mod_275 : MLS "MangleTownModel" 275 yX12_within cX12_within 3 (some .boolean) 3 := ⟨⟨(inT7 64 rfl rfl), (inT1 14 rfl rfl), (inT7 66 rfl rfl), by decide +kernel, by decide⟩, (inT7 65 rfl rfl)⟩
theorem m_Mod_282 : MLV "MangleTownModel" 282 yX12_needsNumber cX12_needsNumber 3 (some .boolean) 2 10 := ⟨⟨(inT7 60 rfl rfl), (inT1 14 rfl rfl), (inT7 63 rfl rfl), by decide +kernel, by decide⟩, (inT7 62 rfl rfl), (inP4 8 rfl), rfl⟩
theorem m_Mod_286 : MLV "MangleTownModel" 286 yX12_isKept cX12_isKept 1 (some .boolean) 0 10 := ⟨⟨(inT7 28 rfl rfl), (inT1 14 rfl rfl), (inT7 31 rfl rfl), by decide +kernel, by decide⟩, (inT7 30 rfl rfl), (inP4 5 rfl), rfl⟩
theorem m_Mod_290 : MLV "MangleTownModel" 290 yX12_houseNamed cX12_houseNamed 3 (some .int) 1 10 := ⟨⟨(inT7 52 rfl rfl), (inT1 14 rfl rfl), (inT7 55 rfl rfl), by decide +kernel, by decide⟩, (inT7 54 rfl rfl), (inP4 6 rfl), rfl⟩
theorem m_Mod_296 : MLV "MangleTownModel" 296 yX12_needsBoth cX12_needsBoth 5 (some .boolean) 3 10 := ⟨⟨(inT7 56 rfl rfl), (inT1 14 rfl rfl), (inT7 59 rfl rfl), by decide +kernel, by decide⟩, (inT7 58 rfl rfl), (inP4 7 rfl), rfl⟩
theorem m_Mod_300 : MLV "MangleTownModel" 300 yX12_closes cX12_closes 1 (some .boolean) 0 10 := ⟨⟨(inT7 67 rfl rfl), (inT1 14 rfl rfl), (inT7 70 rfl rfl), by decide +kernel, by decide⟩, (inT7 69 rfl rfl), (inP4 9 rfl), rfl⟩
theorem m_Mod_303 : MLV "MangleTownModel" 303 yX12_needsHouse cX12_needsHouse 2 (some .boolean) 1 10 := ⟨⟨(inT7 79 rfl rfl), (inT1 14 rfl rfl), (inT7 82 rfl rfl), by decide +kernel, by decide⟩, (inT7 81 rfl rfl), (inP4 12 rfl), rfl⟩
theorem m_Mod_306 : MLV "MangleTownModel" 306 yX12_isTwice cX12_isTwice 2 (some .boolean) 1 10 := ⟨⟨(inT7 87 rfl rfl), (inT1 14 rfl rfl), (inT7 90 rfl rfl), by decide +kernel, by decide⟩, (inT7 89 rfl rfl), (inP4 14 rfl), rfl⟩
theorem m_Mod_309 : MLV "MangleTownModel" 309 yX12_reads cX12_reads 6 (some .boolean) 0 10 := ⟨⟨(inT7 99 rfl rfl), (inT1 14 rfl rfl), (inT7 102 rfl rfl), by decide +kernel, by decide⟩, (inT7 101 rfl rfl), (inP5 1 rfl), rfl⟩
theorem m_Mod_312 : MLV "MangleTownModel" 312 yX12_begins cX12_begins 1 none 0 10 := ⟨⟨(inT7 1 rfl rfl), (inT1 14 rfl rfl), (inT7 4 rfl rfl), by decide +kernel, by decide⟩, (inT7 3 rfl rfl), (inP3 15 rfl), rfl⟩
theorem m_Mod_315 : MLV "MangleTownModel" 315 yX12_readsHouse cX12_readsHouse 4 (some .boolean) 0 10 := ⟨⟨(inT7 20 rfl rfl), (inT1 14 rfl rfl), (inT7 23 rfl rfl), by decide +kernel, by decide⟩, (inT7 22 rfl rfl), (inP4 3 rfl), rfl⟩
theorem m_Mod_318 : MLV "MangleTownModel" 318 yX12_readsShuns cX12_readsShuns 2 (some .boolean) 0 10 := ⟨⟨(inT7 75 rfl rfl), (inT1 14 rfl rfl), (inT7 78 rfl rfl), by decide +kernel, by decide⟩, (inT7 77 rfl rfl), (inP4 11 rfl), rfl⟩
theorem m_Mod_321 : MLV "MangleTownModel" 321 yX12_readsOne cX12_readsOne 4 (some .boolean) 3 10 := ⟨⟨(inT7 83 rfl rfl), (inT1 14 rfl rfl), (inT7 86 rfl rfl), by decide +kernel, by decide⟩, (inT7 85 rfl rfl), (inP4 13 rfl), rfl⟩
theorem m_Mod_324 : MLV "MangleTownModel" 324 yX12_readsRains cX12_readsRains 2 (some .boolean) 0 10 := ⟨⟨(inT7 91 rfl rfl), (inT1 14 rfl rfl), (inT7 94 rfl rfl), by decide +kernel, by decide⟩, (inT7 93 rfl rfl), (inP4 15 rfl), rfl⟩
theorem m_Mod_327 : MLV "MangleTownModel" 327 yX12_readsLaw cX12_readsLaw 2 (some .boolean) 1 10 := ⟨⟨(inT7 95 rfl rfl), (inT1 14 rfl rfl), (inT7 98 rfl rfl), by decide +kernel, by decide⟩, (inT7 97 rfl rfl), (inP5 0 rfl), rfl⟩
theorem m_Mod_330 : MLS "MangleTownModel" 330 yX12_shifts cX12_shifts 3 none 2 := ⟨⟨(inT7 120 rfl rfl), (inT1 14 rfl rfl), (inT7 122 rfl rfl), by decide +kernel, by decide⟩, (inT7 121 rfl rfl)⟩
theorem m_Mod_334 : MLV "MangleTownModel" 334 yX12_readsAll cX12_readsAll 2 (some .boolean) 0 10 := ⟨⟨(inT6 237 rfl rfl), (inT1 14 rfl rfl), (inT7 0 rfl rfl), by decide +kernel, by decide⟩, (inT6 239 rfl rfl), (inP3 14 rfl), rfl⟩
theorem m_Mod_337 : MLV "MangleTownModel" 337 yX12_lays cX12_lays 2 none 0 10 := ⟨⟨(inT7 116 rfl rfl), (inT1 14 rfl rfl), (inT7 119 rfl rfl), by decide +kernel, by decide⟩, (inT7 118 rfl rfl), (inP5 4 rfl), rfl⟩
theorem m_Mod_343 : MLV "MangleTownModel" 343 yX12_readsLine cX12_readsLine 3 (some .boolean) 0 10 := ⟨⟨(inT7 127 rfl rfl), (inT1 14 rfl rfl), (inT7 130 rfl rfl), by decide +kernel, by decide⟩, (inT7 129 rfl rfl), (inP5 5 rfl), rfl⟩
theorem m_Mod_346 : MLV "MangleTownModel" 346 yX12_laysLines cX12_laysLines 4 none 2 10 := ⟨⟨(inT7 131 rfl rfl), (inT1 14 rfl rfl), (inT7 134 rfl rfl), by decide +kernel, by decide⟩, (inT7 133 rfl rfl), (inP5 6 rfl), rfl⟩
theorem m_Mod_350 : MLV "MangleTownModel" 350 yX12_worked cX12_worked 6 (some .int) 1 10 := ⟨⟨(inT7 171 rfl rfl), (inT1 14 rfl rfl), (inT7 174 rfl rfl), by decide +kernel, by decide⟩, (inT7 173 rfl rfl), (inP5 12 rfl), rfl⟩
theorem m_Mod_353 : MLS "MangleTownModel" 353 yX12_between cX12_between 3 (some .int) 3 := ⟨⟨(inT7 187 rfl rfl), (inT1 14 rfl rfl), (inT7 189 rfl rfl), by decide +kernel, by decide⟩, (inT7 188 rfl rfl)⟩
theorem m_Mod_363 : MLV "MangleTownModel" 363 yX12_isGoing cX12_isGoing 2 (some .boolean) 1 10 := ⟨⟨(inT7 155 rfl rfl), (inT1 14 rfl rfl), (inT7 158 rfl rfl), by decide +kernel, by decide⟩, (inT7 157 rfl rfl), (inP5 9 rfl), rfl⟩
theorem m_Mod_366 : MLV "MangleTownModel" 366 yX12_aheadOf cX12_aheadOf 5 (some .int) 1 10 := ⟨⟨(inT7 159 rfl rfl), (inT1 14 rfl rfl), (inT7 162 rfl rfl), by decide +kernel, by decide⟩, (inT7 161 rfl rfl), (inP5 10 rfl), rfl⟩
theorem m_Mod_369 : MLV "MangleTownModel" 369 yX12_doesShun cX12_doesShun 3 (some .boolean) 2 10 := ⟨⟨(inT8 14 rfl rfl), (inT1 14 rfl rfl), (inT8 17 rfl rfl), by decide +kernel, by decide⟩, (inT8 16 rfl rfl), (inP6 8 rfl), rfl⟩
theorem m_Mod_372 : MLV "MangleTownModel" 372 yX12_pressedOf cX12_pressedOf 3 (some .int) 1 10 := ⟨⟨(inT7 167 rfl rfl), (inT1 14 rfl rfl), (inT7 170 rfl rfl), by decide +kernel, by decide⟩, (inT7 169 rfl rfl), (inP5 11 rfl), rfl⟩
theorem m_Mod_375 : MLV "MangleTownModel" 375 yX12_printedBy cX12_printedBy 4 (some .int) 2 10 := ⟨⟨(inT7 195 rfl rfl), (inT1 14 rfl rfl), (inT7 198 rfl rfl), by decide +kernel, by decide⟩, (inT7 197 rfl rfl), (inP6 0 rfl), rfl⟩
theorem m_Mod_381 : MLV "MangleTownModel" 381 yX12_goesThrough cX12_goesThrough 5 (some .int) 2 10 := ⟨⟨(inT7 226 rfl rfl), (inT1 14 rfl rfl), (inT7 229 rfl rfl), by decide +kernel, by decide⟩, (inT7 228 rfl rfl), (inP6 4 rfl), rfl⟩
theorem m_Mod_384 : MLV "MangleTownModel" 384 yX12_rainNow cX12_rainNow 1 (some .int) 0 10 := ⟨⟨(inT7 230 rfl rfl), (inT1 14 rfl rfl), (inT7 233 rfl rfl), by decide +kernel, by decide⟩, (inT7 232 rfl rfl), (inP6 5 rfl), rfl⟩
theorem m_Mod_387 : MLV "MangleTownModel" 387 yX12_placeOf cX12_placeOf 3 (some .int) 1 10 := ⟨⟨(inT7 143 rfl rfl), (inT1 14 rfl rfl), (inT7 146 rfl rfl), by decide +kernel, by decide⟩, (inT7 145 rfl rfl), (inP5 8 rfl), rfl⟩
theorem m_Mod_390 : MLV "MangleTownModel" 390 yX12_isHouse cX12_isHouse 2 (some .boolean) 1 10 := ⟨⟨(inT7 139 rfl rfl), (inT1 14 rfl rfl), (inT7 142 rfl rfl), by decide +kernel, by decide⟩, (inT7 141 rfl rfl), (inP5 7 rfl), rfl⟩
theorem m_Mod_393 : MLS "MangleTownModel" 393 yX12_copies cX12_copies 5 none 4 := ⟨⟨(inT7 207 rfl rfl), (inT1 14 rfl rfl), (inT7 209 rfl rfl), by decide +kernel, by decide⟩, (inT7 208 rfl rfl)⟩
theorem m_Mod_397 : MLV "MangleTownModel" 397 yX12_keeps cX12_keeps 2 none 0 10 := ⟨⟨(inT7 203 rfl rfl), (inT1 14 rfl rfl), (inT7 206 rfl rfl), by decide +kernel, by decide⟩, (inT7 205 rfl rfl), (inP6 1 rfl), rfl⟩
theorem m_Mod_400 : MLV "MangleTownModel" 400 yX12_laysAt cX12_laysAt 5 none 2 10 := ⟨⟨(inT7 210 rfl rfl), (inT1 14 rfl rfl), (inT7 213 rfl rfl), by decide +kernel, by decide⟩, (inT7 212 rfl rfl), (inP6 2 rfl), rfl⟩
theorem m_Mod_403 : MLV "MangleTownModel" 403 yX12_runs cX12_runs 5 (some .int) 0 10 := ⟨⟨(inT7 222 rfl rfl), (inT1 14 rfl rfl), (inT7 225 rfl rfl), by decide +kernel, by decide⟩, (inT7 224 rfl rfl), (inP6 3 rfl), rfl⟩
theorem m_Mod_406 : MLV "MangleTownModel" 406 yX12_sells cX12_sells 2 none 1 10 := ⟨⟨(inT7 238 rfl rfl), (inT1 14 rfl rfl), (inT8 1 rfl rfl), by decide +kernel, by decide⟩, (inT8 0 rfl rfl), (inP6 6 rfl), rfl⟩
theorem m_Mod_409 : MLV "MangleTownModel" 409 yX12_shunnedNow cX12_shunnedNow 3 (some .int) 0 10 := ⟨⟨(inT8 10 rfl rfl), (inT1 14 rfl rfl), (inT8 13 rfl rfl), by decide +kernel, by decide⟩, (inT8 12 rfl rfl), (inP6 7 rfl), rfl⟩
theorem m_Mod_412 : MLV "MangleTownModel" 412 yX12_goes cX12_goes 3 (some .boolean) 1 10 := ⟨⟨(inT8 18 rfl rfl), (inT1 14 rfl rfl), (inT8 21 rfl rfl), by decide +kernel, by decide⟩, (inT8 20 rfl rfl), (inP6 9 rfl), rfl⟩
theorem m_Mod_422 : MLV "MangleTownModel" 422 yX12_goesOn cX12_goesOn 6 none 4 10 := ⟨⟨(inT8 34 rfl rfl), (inT1 14 rfl rfl), (inT8 37 rfl rfl), by decide +kernel, by decide⟩, (inT8 36 rfl rfl), (inP6 11 rfl), rfl⟩
theorem m_Mod_426 : MLV "MangleTownModel" 426 yX12_going cX12_going 1 (some .int) 0 10 := ⟨⟨(inT8 30 rfl rfl), (inT1 14 rfl rfl), (inT8 33 rfl rfl), by decide +kernel, by decide⟩, (inT8 32 rfl rfl), (inP6 10 rfl), rfl⟩
theorem m_Mod_429 : MLS "MangleTownModel" 429 yX12_bits cX12_bits 3 (some .int) 1 := ⟨⟨(inT8 38 rfl rfl), (inT1 14 rfl rfl), (inT8 40 rfl rfl), by decide +kernel, by decide⟩, (inT8 39 rfl rfl)⟩
theorem m_Mod_432 : MLV "MangleTownModel" 432 yX12_canGo cX12_canGo 4 (some .boolean) 2 10 := ⟨⟨(inT8 45 rfl rfl), (inT1 14 rfl rfl), (inT8 48 rfl rfl), by decide +kernel, by decide⟩, (inT8 47 rfl rfl), (inP6 12 rfl), rfl⟩
theorem m_Mod_435 : MLV "MangleTownModel" 435 yX12_together cX12_together 4 (some .int) 1 10 := ⟨⟨(inT8 53 rfl rfl), (inT1 14 rfl rfl), (inT8 56 rfl rfl), by decide +kernel, by decide⟩, (inT8 55 rfl rfl), (inP6 13 rfl), rfl⟩
theorem m_Mod_438 : MLV "MangleTownModel" 438 yX12_isSomeDry cX12_isSomeDry 3 (some .boolean) 1 10 := ⟨⟨(inT8 61 rfl rfl), (inT1 14 rfl rfl), (inT8 64 rfl rfl), by decide +kernel, by decide⟩, (inT8 63 rfl rfl), (inP6 14 rfl), rfl⟩
theorem m_Mod_441 : MLV "MangleTownModel" 441 yX12_isAsHeard cX12_isAsHeard 4 (some .boolean) 1 10 := ⟨⟨(inT8 73 rfl rfl), (inT1 14 rfl rfl), (inT8 76 rfl rfl), by decide +kernel, by decide⟩, (inT8 75 rfl rfl), (inP6 15 rfl), rfl⟩
theorem m_Mod_444 : MLV "MangleTownModel" 444 yX12_sets cX12_sets 7 (some .int) 1 10 := ⟨⟨(inT8 81 rfl rfl), (inT1 14 rfl rfl), (inT8 72 rfl rfl), by decide +kernel, by decide⟩, (inT8 70 rfl rfl), (inT8 71 rfl rfl), rfl⟩
theorem m_Mod_450 : MLV "MangleTownModel" 450 yX12_mayFollow cX12_mayFollow 3 (some .boolean) 2 10 := ⟨⟨(inT8 95 rfl rfl), (inT1 14 rfl rfl), (inT8 98 rfl rfl), by decide +kernel, by decide⟩, (inT8 97 rfl rfl), (inP7 1 rfl), rfl⟩
theorem m_Mod_453 : MLV "MangleTownModel" 453 yX12_laysOrders cX12_laysOrders 5 (some .int) 0 10 := ⟨⟨(inT8 91 rfl rfl), (inT1 14 rfl rfl), (inT8 94 rfl rfl), by decide +kernel, by decide⟩, (inT8 93 rfl rfl), (inP7 0 rfl), rfl⟩
theorem m_Mod_456 : MLV "MangleTownModel" 456 yX12_laysAheads cX12_laysAheads 5 none 0 10 := ⟨⟨(inT8 107 rfl rfl), (inT1 14 rfl rfl), (inT8 110 rfl rfl), by decide +kernel, by decide⟩, (inT8 109 rfl rfl), (inP7 2 rfl), rfl⟩
theorem m_Mod_461 : MLV "MangleTownModel" 461 yX12_likeliest cX12_likeliest 4 (some .int) 1 10 := ⟨⟨(inT8 120 rfl rfl), (inT1 14 rfl rfl), (inT8 123 rfl rfl), by decide +kernel, by decide⟩, (inT8 122 rfl rfl), (inP7 3 rfl), rfl⟩
theorem m_Mod_468 : MLS "MangleTownModel" 468 yX12_firstGets cX12_firstGets 3 (some .int) 3 := ⟨⟨(inT8 133 rfl rfl), (inT1 14 rfl rfl), (inT8 135 rfl rfl), by decide +kernel, by decide⟩, (inT8 134 rfl rfl)⟩
theorem m_Mod_471 : MLS "MangleTownModel" 471 yX12_otherGets cX12_otherGets 3 (some .int) 3 := ⟨⟨(inT8 136 rfl rfl), (inT1 14 rfl rfl), (inT8 138 rfl rfl), by decide +kernel, by decide⟩, (inT8 137 rfl rfl)⟩
theorem m_Mod_474 : MLS "MangleTownModel" 474 yX12_isRest cX12_isRest 5 (some .boolean) 4 := ⟨⟨(inT8 130 rfl rfl), (inT1 14 rfl rfl), (inT8 132 rfl rfl), by decide +kernel, by decide⟩, (inT8 131 rfl rfl)⟩
theorem m_Mod_489 : MLV "MangleTownModel" 489 yX12_draws cX12_draws 2 (some .int) 1 10 := ⟨⟨(inT8 147 rfl rfl), (inT1 14 rfl rfl), (inT8 150 rfl rfl), by decide +kernel, by decide⟩, (inT8 149 rfl rfl), (inP7 5 rfl), rfl⟩
theorem m_Mod_492 : MLV "MangleTownModel" 492 yX12_livesAhead cX12_livesAhead 2 none 0 10 := ⟨⟨(inT8 143 rfl rfl), (inT1 14 rfl rfl), (inT8 146 rfl rfl), by decide +kernel, by decide⟩, (inT8 145 rfl rfl), (inP7 4 rfl), rfl⟩
theorem m_Mod_495 : MLV "MangleTownModel" 495 yX12_laysSeen cX12_laysSeen 4 none 2 10 := ⟨⟨(inT8 159 rfl rfl), (inT1 14 rfl rfl), (inT8 162 rfl rfl), by decide +kernel, by decide⟩, (inT8 161 rfl rfl), (inP7 6 rfl), rfl⟩
theorem m_Rows_110 : MLV "MangleTown$Rows" 110 yX3_countWays cX3_countWays 6 (some .int) 1 2 := ⟨⟨(inT5 79 rfl rfl), (inT1 11 rfl rfl), (inT5 82 rfl rfl), by decide +kernel, by decide⟩, (inT5 81 rfl rfl), (inP3 3 rfl), rfl⟩
theorem m_Rows_113 : MLV "MangleTown$Rows" 113 yX3_firstFree cX3_firstFree 4 (some .int) 2 2 := ⟨⟨(inT5 91 rfl rfl), (inT1 11 rfl rfl), (inT5 94 rfl rfl), by decide +kernel, by decide⟩, (inT5 93 rfl rfl), (inP3 4 rfl), rfl⟩
theorem m_Rows_116 : MLV "MangleTown$Rows" 116 yX3_countOrders cX3_countOrders 4 (some .int) 2 2 := ⟨⟨(inT5 103 rfl rfl), (inT1 11 rfl rfl), (inT5 78 rfl rfl), by decide +kernel, by decide⟩, (inT5 76 rfl rfl), (inT5 77 rfl rfl), rfl⟩
theorem m_Rows_120 : MLV "MangleTown$Rows" 120 yX3_greaterPart cX3_greaterPart 7 (some .int) 4 2 := ⟨⟨(inT5 104 rfl rfl), (inT1 11 rfl rfl), (inT5 107 rfl rfl), by decide +kernel, by decide⟩, (inT5 106 rfl rfl), (inP3 5 rfl), rfl⟩
theorem m_Rows_30 : MLV "MangleTown$Rows" 30 yX3_findLasts cX3_findLasts 5 none 1 2 := ⟨⟨(inT4 204 rfl rfl), (inT1 11 rfl rfl), (inT4 207 rfl rfl), by decide +kernel, by decide⟩, (inT4 206 rfl rfl), (inP2 11 rfl), rfl⟩
theorem m_Rows_40 : MLV "MangleTown$Rows" 40 yX6_goingSet cX6_goingSet 2 (some .int) 1 5 := ⟨⟨(inT4 221 rfl rfl), (inT1 8 rfl rfl), (inT4 224 rfl rfl), by decide +kernel, by decide⟩, (inT4 222 rfl rfl), (inT4 223 rfl rfl), rfl⟩
theorem m_Rows_46 : MLS "MangleTown$Rows" 46 yJ6_bitCount_0f7a4 cJ6_bitCount_0f7a4 1 (some .int) 1 := ⟨⟨(inT5 10 rfl rfl), (inT1 22 rfl rfl), (inT5 12 rfl rfl), by decide +kernel, by decide⟩, (inT5 11 rfl rfl)⟩
theorem m_Rows_51 : MLS "MangleTown$Rows" 51 yX3_lastsBehind cX3_lastsBehind 5 (some .int) 3 := ⟨⟨(inT4 208 rfl rfl), (inT1 11 rfl rfl), (inT4 210 rfl rfl), by decide +kernel, by decide⟩, (inT4 209 rfl rfl)⟩
theorem m_Rows_55 : MLS "MangleTown$Rows" 55 yX3_shunsLast cX3_shunsLast 3 (some .boolean) 3 := ⟨⟨(inT4 211 rfl rfl), (inT1 11 rfl rfl), (inT4 213 rfl rfl), by decide +kernel, by decide⟩, (inT4 212 rfl rfl)⟩
theorem m_Rows_59 : MLV "MangleTown$Rows" 59 yX8_isCat cX8_isCat 2 (some .boolean) 1 7 := ⟨⟨(inT4 215 rfl rfl), (inT1 5 rfl rfl), (inT4 63 rfl rfl), by decide +kernel, by decide⟩, (inT4 61 rfl rfl), (inT4 62 rfl rfl), rfl⟩
theorem m_Rows_63 : MLV "MangleTown$Rows" 63 yX8_doesShun cX8_doesShun 3 (some .boolean) 2 7 := ⟨⟨(inT4 214 rfl rfl), (inT1 5 rfl rfl), (inT3 163 rfl rfl), by decide +kernel, by decide⟩, (inT3 161 rfl rfl), (inT3 162 rfl rfl), rfl⟩
theorem m_Rows_67 : MLV "MangleTown$Rows" 67 yX3_findBlots cX3_findBlots 5 none 2 2 := ⟨⟨(inT4 216 rfl rfl), (inT1 11 rfl rfl), (inT4 219 rfl rfl), by decide +kernel, by decide⟩, (inT4 218 rfl rfl), (inP2 12 rfl), rfl⟩
theorem m_Rows_71 : MLV "MangleTown$Rows" 71 yX3_findRest cX3_findRest 8 none 4 2 := ⟨⟨(inT4 225 rfl rfl), (inT1 11 rfl rfl), (inT4 228 rfl rfl), by decide +kernel, by decide⟩, (inT4 227 rfl rfl), (inP2 13 rfl), rfl⟩
theorem m_Rows_78 : MLV "MangleTown$Rows" 78 yX3_layBestRow cX3_layBestRow 9 none 3 2 := ⟨⟨(inT4 234 rfl rfl), (inT1 11 rfl rfl), (inT4 237 rfl rfl), by decide +kernel, by decide⟩, (inT4 236 rfl rfl), (inP2 15 rfl), rfl⟩
theorem m_Rows_82 : MLV "MangleTown$Rows" 82 yX8_printedOn cX8_printedOn 6 (some .int) 3 7 := ⟨⟨(inT4 220 rfl rfl), (inT1 5 rfl rfl), (inT4 96 rfl rfl), by decide +kernel, by decide⟩, (inT4 94 rfl rfl), (inT4 95 rfl rfl), rfl⟩
theorem m_Rows_86 : MLV "MangleTown$Rows" 86 yX3_restBy cX3_restBy 7 (some .int) 5 2 := ⟨⟨(inT4 229 rfl rfl), (inT1 11 rfl rfl), (inT4 232 rfl rfl), by decide +kernel, by decide⟩, (inT4 231 rfl rfl), (inP2 14 rfl), rfl⟩
theorem m_Rows_96 : MLV "MangleTown$Rows" 96 yX3_firstOfLeast cX3_firstOfLeast 8 (some .int) 5 2 := ⟨⟨(inT4 238 rfl rfl), (inT1 11 rfl rfl), (inT5 1 rfl rfl), by decide +kernel, by decide⟩, (inT5 0 rfl rfl), (inP3 0 rfl), rfl⟩
theorem m_Secrets_24 : MLV "MangleTown$Secrets" 24 yX6_goingSet cX6_goingSet 2 (some .int) 1 5 := ⟨⟨(inT5 44 rfl rfl), (inT1 8 rfl rfl), (inT4 224 rfl rfl), by decide +kernel, by decide⟩, (inT4 222 rfl rfl), (inT4 223 rfl rfl), rfl⟩
theorem m_Secrets_39 : MLV "MangleTown$Secrets" 39 yX8_pressedOut cX8_pressedOut 6 (some .int) 2 7 := ⟨⟨(inT5 45 rfl rfl), (inT1 5 rfl rfl), (inT4 71 rfl rfl), by decide +kernel, by decide⟩, (inT4 69 rfl rfl), (inT4 70 rfl rfl), rfl⟩
theorem m_Secrets_43 : MLV "MangleTown$Secrets" 43 yX4_sumOf cX4_sumOf 5 (some .int) 2 3 := ⟨⟨(inT5 46 rfl rfl), (inT1 12 rfl rfl), (inT5 49 rfl rfl), by decide +kernel, by decide⟩, (inT5 48 rfl rfl), (inP3 1 rfl), rfl⟩
theorem m_Secrets_47 : MLV "MangleTown$Secrets" 47 yX4_keep cX4_keep 4 none 2 3 := ⟨⟨(inT5 50 rfl rfl), (inT1 12 rfl rfl), (inT5 53 rfl rfl), by decide +kernel, by decide⟩, (inT5 52 rfl rfl), (inP3 2 rfl), rfl⟩
theorem m_Standing_36 : MLV "MangleTown$Standing" 36 yX6_copyFrom cX6_copyFrom 2 none 1 5 := ⟨⟨(inT2 155 rfl rfl), (inT1 8 rfl rfl), (inT2 158 rfl rfl), by decide +kernel, by decide⟩, (inT2 156 rfl rfl), (inT2 157 rfl rfl), rfl⟩
theorem m_Standing_46 : MLV "MangleTown$Standing" 46 yX10_copyFrom cX10_copyFrom 2 none 1 8 := ⟨⟨(inT5 145 rfl rfl), (inT1 7 rfl rfl), (inT4 25 rfl rfl), by decide +kernel, by decide⟩, (inT4 23 rfl rfl), (inT4 24 rfl rfl), rfl⟩
theorem m_State_54 : MLV "MangleTown$State" 54 yX6_goes cX6_goes 2 (some .boolean) 1 5 := ⟨⟨(inT4 59 rfl rfl), (inT1 8 rfl rfl), (inT4 38 rfl rfl), by decide +kernel, by decide⟩, (inT4 36 rfl rfl), (inT4 37 rfl rfl), rfl⟩
theorem m_State_58 : MLV "MangleTown$State" 58 yX8_isCat cX8_isCat 2 (some .boolean) 1 7 := ⟨⟨(inT4 60 rfl rfl), (inT1 5 rfl rfl), (inT4 63 rfl rfl), by decide +kernel, by decide⟩, (inT4 61 rfl rfl), (inT4 62 rfl rfl), rfl⟩
theorem m_State_61 : MLV "MangleTown$State" 61 yX8_doesShun cX8_doesShun 3 (some .boolean) 2 7 := ⟨⟨(inT4 182 rfl rfl), (inT1 5 rfl rfl), (inT3 163 rfl rfl), by decide +kernel, by decide⟩, (inT3 161 rfl rfl), (inT3 162 rfl rfl), rfl⟩
theorem m_State_65 : MLV "MangleTown$State" 65 yX6_placeOf cX6_placeOf 4 (some .int) 2 5 := ⟨⟨(inT4 112 rfl rfl), (inT1 8 rfl rfl), (inT4 42 rfl rfl), by decide +kernel, by decide⟩, (inT4 40 rfl rfl), (inT4 41 rfl rfl), rfl⟩
theorem m_Tape_37 : MLV "MangleTown$Tape" 37 yX7_advance cX7_advance 2 none 0 6 := ⟨⟨(inT2 231 rfl rfl), (inT1 2 rfl rfl), (inT2 234 rfl rfl), by decide +kernel, by decide⟩, (inT2 232 rfl rfl), (inT2 233 rfl rfl), rfl⟩
theorem m_Tape_46 : MLV "MangleTown$Tape" 46 yX7_readWord cX7_readWord 1 none 0 6 := ⟨⟨(inT2 235 rfl rfl), (inT1 2 rfl rfl), (inT2 238 rfl rfl), by decide +kernel, by decide⟩, (inT2 237 rfl rfl), (inP1 2 rfl), rfl⟩
theorem m_Tape_53 : MLS "MangleTown$Tape" 53 yX9_spelled cX9_spelled 3 (some (.object "MangleTown$Word")) 1 := ⟨⟨(inT3 0 rfl rfl), (inT1 4 rfl rfl), (inT3 2 rfl rfl), by decide +kernel, by decide⟩, (inT3 1 rfl rfl)⟩
theorem m_Tape_57 : MLV "MangleTown$Tape" 57 yX7_readNumber cX7_readNumber 1 none 0 6 := ⟨⟨(inT3 6 rfl rfl), (inT1 2 rfl rfl), (inT3 9 rfl rfl), by decide +kernel, by decide⟩, (inT3 8 rfl rfl), (inP1 3 rfl), rfl⟩
theorem m_Tape_62 : MLE "MangleTown$Tape" 62 yJ0_indexOf_0f7a4 cJ0_indexOf_0f7a4 2 (some .int) 1 "java/lang/String" := ⟨⟨(inT3 11 rfl rfl), (inT1 15 rfl rfl), (inT3 14 rfl rfl), by decide +kernel, by decide⟩, (inT3 12 rfl rfl), (inT3 13 rfl rfl)⟩
theorem m_Tape_80 : MLV "MangleTown$Tape" 80 yX7_isSign cX7_isSign 2 (some .boolean) 1 6 := ⟨⟨(inT3 222 rfl rfl), (inT1 2 rfl rfl), (inT3 213 rfl rfl), by decide +kernel, by decide⟩, (inT3 211 rfl rfl), (inT3 212 rfl rfl), rfl⟩
theorem m_Tape_84 : MLV "MangleTown$Tape" 84 yX7_fail cX7_fail 2 (some .boolean) 1 6 := ⟨⟨(inT3 143 rfl rfl), (inT1 2 rfl rfl), (inT3 120 rfl rfl), by decide +kernel, by decide⟩, (inT3 118 rfl rfl), (inT3 119 rfl rfl), rfl⟩
theorem m_Town_101 : MLV "MangleTown$Town" 101 yX8_readLine cX8_readLine 2 (some .boolean) 1 7 := ⟨⟨(inT3 101 rfl rfl), (inT1 5 rfl rfl), (inT3 104 rfl rfl), by decide +kernel, by decide⟩, (inT3 103 rfl rfl), (inP1 4 rfl), rfl⟩
theorem m_Town_105 : MLV "MangleTown$Town" 105 yX7_takeSign cX7_takeSign 2 (some .boolean) 1 6 := ⟨⟨(inT3 231 rfl rfl), (inT1 2 rfl rfl), (inT3 221 rfl rfl), by decide +kernel, by decide⟩, (inT3 219 rfl rfl), (inT3 220 rfl rfl), rfl⟩
theorem m_Town_117 : MLO "MangleTown$Town" 117 ⟨"MangleTown$Word", "ordinal", "()I"⟩ yJx29ce0_ordinal_8abf5 "MangleTown$Word" "java/lang/Enum" cJx29ce0_ordinal_8abf5 1 (some .int) 0 := ⟨⟨(inT3 107 rfl rfl), (inT3 108 rfl rfl), (inT3 110 rfl rfl), (inT3 111 rfl rfl), (inT1 3 rfl rfl), (inT3 112 rfl rfl)⟩, rfl, by decide +kernel, by decide⟩
theorem m_Town_123 : MLV "MangleTown$Town" 123 yX8_readHouse cX8_readHouse 3 (some .boolean) 1 7 := ⟨⟨(inT3 113 rfl rfl), (inT1 5 rfl rfl), (inT3 116 rfl rfl), by decide +kernel, by decide⟩, (inT3 115 rfl rfl), (inP1 5 rfl), rfl⟩
theorem m_Town_126 : MLV "MangleTown$Town" 126 yX8_readShuns cX8_readShuns 4 (some .boolean) 1 7 := ⟨⟨(inT3 152 rfl rfl), (inT1 5 rfl rfl), (inT3 155 rfl rfl), by decide +kernel, by decide⟩, (inT3 154 rfl rfl), (inP1 7 rfl), rfl⟩
theorem m_Town_129 : MLV "MangleTown$Town" 129 yX8_takeOnce cX8_takeOnce 3 (some .boolean) 2 7 := ⟨⟨(inT3 164 rfl rfl), (inT1 5 rfl rfl), (inT3 167 rfl rfl), by decide +kernel, by decide⟩, (inT3 166 rfl rfl), (inP1 8 rfl), rfl⟩
theorem m_Town_133 : MLV "MangleTown$Town" 133 yX8_readGap cX8_readGap 2 (some .boolean) 1 7 := ⟨⟨(inT3 168 rfl rfl), (inT1 5 rfl rfl), (inT3 171 rfl rfl), by decide +kernel, by decide⟩, (inT3 170 rfl rfl), (inP1 9 rfl), rfl⟩
theorem m_Town_136 : MLV "MangleTown$Town" 136 yX8_readRains cX8_readRains 3 (some .boolean) 1 7 := ⟨⟨(inT3 172 rfl rfl), (inT1 5 rfl rfl), (inT3 175 rfl rfl), by decide +kernel, by decide⟩, (inT3 174 rfl rfl), (inP1 10 rfl), rfl⟩
theorem m_Town_139 : MLV "MangleTown$Town" 139 yX8_readPrice cX8_readPrice 2 (some .boolean) 1 7 := ⟨⟨(inT3 176 rfl rfl), (inT1 5 rfl rfl), (inT3 179 rfl rfl), by decide +kernel, by decide⟩, (inT3 178 rfl rfl), (inP1 11 rfl), rfl⟩
theorem m_Town_142 : MLV "MangleTown$Town" 142 yX1_readFrom cX1_readFrom 2 (some .boolean) 1 0 := ⟨⟨(inT3 180 rfl rfl), (inT1 6 rfl rfl), (inT3 183 rfl rfl), by decide +kernel, by decide⟩, (inT3 181 rfl rfl), (inT3 182 rfl rfl), rfl⟩
theorem m_Town_145 : MLV "MangleTown$Town" 145 yX7_fail cX7_fail 2 (some .boolean) 1 6 := ⟨⟨(inT3 117 rfl rfl), (inT1 2 rfl rfl), (inT3 120 rfl rfl), by decide +kernel, by decide⟩, (inT3 118 rfl rfl), (inT3 119 rfl rfl), rfl⟩
theorem m_Town_148 : MLV "MangleTown$Town" 148 yX7_advance cX7_advance 2 none 0 6 := ⟨⟨(inT3 121 rfl rfl), (inT1 2 rfl rfl), (inT2 234 rfl rfl), by decide +kernel, by decide⟩, (inT2 232 rfl rfl), (inT2 233 rfl rfl), rfl⟩
theorem m_Town_151 : MLV "MangleTown$Town" 151 yX7_isName cX7_isName 1 (some .boolean) 0 6 := ⟨⟨(inT3 122 rfl rfl), (inT1 2 rfl rfl), (inT3 125 rfl rfl), by decide +kernel, by decide⟩, (inT3 123 rfl rfl), (inT3 124 rfl rfl), rfl⟩
theorem m_Town_158 : MLV "MangleTown$Town" 158 yX8_numberOf cX8_numberOf 4 (some .int) 1 7 := ⟨⟨(inT3 126 rfl rfl), (inT1 5 rfl rfl), (inT3 129 rfl rfl), by decide +kernel, by decide⟩, (inT3 127 rfl rfl), (inT3 128 rfl rfl), rfl⟩
theorem m_Town_162 : MLS "MangleTown$Town" 162 yX8_kindOf cX8_kindOf 1 (some .int) 1 := ⟨⟨(inT3 130 rfl rfl), (inT1 5 rfl rfl), (inT3 132 rfl rfl), by decide +kernel, by decide⟩, (inT3 131 rfl rfl)⟩
theorem m_Town_169 : MLV "MangleTown$Town" 169 yX8_readMeasure cX8_readMeasure 6 (some .boolean) 5 7 := ⟨⟨(inT3 135 rfl rfl), (inT1 5 rfl rfl), (inT3 138 rfl rfl), by decide +kernel, by decide⟩, (inT3 137 rfl rfl), (inP1 6 rfl), rfl⟩
theorem m_Town_179 : MLV "MangleTown$Town" 179 yX7_takeWord cX7_takeWord 2 (some .boolean) 1 6 := ⟨⟨(inT3 139 rfl rfl), (inT1 2 rfl rfl), (inT3 142 rfl rfl), by decide +kernel, by decide⟩, (inT3 140 rfl rfl), (inT3 141 rfl rfl), rfl⟩
theorem m_Town_183 : MLV "MangleTown$Town" 183 yX7_takeNumber cX7_takeNumber 3 (some .boolean) 2 6 := ⟨⟨(inT3 144 rfl rfl), (inT1 2 rfl rfl), (inT3 147 rfl rfl), by decide +kernel, by decide⟩, (inT3 145 rfl rfl), (inT3 146 rfl rfl), rfl⟩
theorem m_Town_190 : MLV "MangleTown$Town" 190 yX8_houseNamed cX8_houseNamed 3 (some .int) 1 7 := ⟨⟨(inT3 156 rfl rfl), (inT1 5 rfl rfl), (inT3 159 rfl rfl), by decide +kernel, by decide⟩, (inT3 157 rfl rfl), (inT3 158 rfl rfl), rfl⟩
theorem m_Town_194 : MLV "MangleTown$Town" 194 yX8_doesShun cX8_doesShun 3 (some .boolean) 2 7 := ⟨⟨(inT3 160 rfl rfl), (inT1 5 rfl rfl), (inT3 163 rfl rfl), by decide +kernel, by decide⟩, (inT3 161 rfl rfl), (inT3 162 rfl rfl), rfl⟩
theorem m_Town_46 : MLV "MangleTown$Town" 46 yX8_forgetAll cX8_forgetAll 1 none 0 7 := ⟨⟨(inT1 121 rfl rfl), (inT1 5 rfl rfl), (inT1 124 rfl rfl), by decide +kernel, by decide⟩, (inT1 123 rfl rfl), (inP1 0 rfl), rfl⟩
theorem m_Town_62 : MLV "MangleTown$Town" 62 yX1_forget cX1_forget 1 none 0 0 := ⟨⟨(inT1 125 rfl rfl), (inT1 6 rfl rfl), (inT1 128 rfl rfl), by decide +kernel, by decide⟩, (inT1 126 rfl rfl), (inT1 127 rfl rfl), rfl⟩
theorem m_Town_68 : MLS "MangleTown$Town" 68 yJ9_floorMod_7cf53 cJ9_floorMod_7cf53 3 (some .int) 2 := ⟨⟨(inT4 151 rfl rfl), (inT1 17 rfl rfl), (inT4 153 rfl rfl), by decide +kernel, by decide⟩, (inT4 152 rfl rfl)⟩
theorem m_Town_79 : MLV "MangleTown$Town" 79 yX1_isTold cX1_isTold 1 (some .boolean) 0 0 := ⟨⟨(inT4 72 rfl rfl), (inT1 6 rfl rfl), (inT4 75 rfl rfl), by decide +kernel, by decide⟩, (inT4 73 rfl rfl), (inT4 74 rfl rfl), rfl⟩
theorem m_Town_83 : MLV "MangleTown$Town" 83 yX1_value cX1_value 9 (some .int) 5 0 := ⟨⟨(inT4 76 rfl rfl), (inT1 6 rfl rfl), (inT4 79 rfl rfl), by decide +kernel, by decide⟩, (inT4 77 rfl rfl), (inT4 78 rfl rfl), rfl⟩
theorem m_Town_93 : MLV "MangleTown$Town" 93 yX8_isCat cX8_isCat 2 (some .boolean) 1 7 := ⟨⟨(inT4 97 rfl rfl), (inT1 5 rfl rfl), (inT4 63 rfl rfl), by decide +kernel, by decide⟩, (inT4 61 rfl rfl), (inT4 62 rfl rfl), rfl⟩
theorem m_Years_36 : MLV "MangleTown$Years" 36 yX10_readLine cX10_readLine 4 (some .boolean) 2 8 := ⟨⟨(inT4 0 rfl rfl), (inT1 7 rfl rfl), (inT4 3 rfl rfl), by decide +kernel, by decide⟩, (inT4 2 rfl rfl), (inP2 3 rfl), rfl⟩
theorem m_Years_40 : MLV "MangleTown$Years" 40 yX7_takeSign cX7_takeSign 2 (some .boolean) 1 6 := ⟨⟨(inT4 21 rfl rfl), (inT1 2 rfl rfl), (inT3 221 rfl rfl), by decide +kernel, by decide⟩, (inT3 219 rfl rfl), (inT3 220 rfl rfl), rfl⟩
theorem m_Years_48 : MLS "MangleTown$Years" 48 yX10_deedOf cX10_deedOf 1 (some .int) 1 := ⟨⟨(inT4 4 rfl rfl), (inT1 7 rfl rfl), (inT4 6 rfl rfl), by decide +kernel, by decide⟩, (inT4 5 rfl rfl)⟩
theorem m_Years_52 : MLV "MangleTown$Years" 52 yX7_fail cX7_fail 2 (some .boolean) 1 6 := ⟨⟨(inT4 9 rfl rfl), (inT1 2 rfl rfl), (inT3 120 rfl rfl), by decide +kernel, by decide⟩, (inT3 118 rfl rfl), (inT3 119 rfl rfl), rfl⟩
theorem m_Years_55 : MLV "MangleTown$Years" 55 yX7_advance cX7_advance 2 none 0 6 := ⟨⟨(inT4 10 rfl rfl), (inT1 2 rfl rfl), (inT2 234 rfl rfl), by decide +kernel, by decide⟩, (inT2 232 rfl rfl), (inT2 233 rfl rfl), rfl⟩
theorem m_Years_58 : MLV "MangleTown$Years" 58 yX10_readHouse cX10_readHouse 3 (some .boolean) 2 8 := ⟨⟨(inT4 11 rfl rfl), (inT1 7 rfl rfl), (inT4 14 rfl rfl), by decide +kernel, by decide⟩, (inT4 13 rfl rfl), (inP2 4 rfl), rfl⟩
theorem m_Years_61 : MLV "MangleTown$Years" 61 yX10_readNumber cX10_readNumber 4 (some .boolean) 3 8 := ⟨⟨(inT4 16 rfl rfl), (inT1 7 rfl rfl), (inT4 19 rfl rfl), by decide +kernel, by decide⟩, (inT4 18 rfl rfl), (inP2 5 rfl), rfl⟩
theorem m_Years_70 : MLO "MangleTown$Years" 70 ⟨"MangleTown$Word", "ordinal", "()I"⟩ yJx29ce0_ordinal_8abf5 "MangleTown$Word" "java/lang/Enum" cJx29ce0_ordinal_8abf5 1 (some .int) 0 := ⟨⟨(inT4 8 rfl rfl), (inT3 108 rfl rfl), (inT3 110 rfl rfl), (inT3 111 rfl rfl), (inT1 3 rfl rfl), (inT3 112 rfl rfl)⟩, rfl, by decide +kernel, by decide⟩
theorem m_Years_76 : MLV "MangleTown$Years" 76 yX8_houseNamed cX8_houseNamed 3 (some .int) 1 7 := ⟨⟨(inT4 15 rfl rfl), (inT1 5 rfl rfl), (inT3 159 rfl rfl), by decide +kernel, by decide⟩, (inT3 157 rfl rfl), (inT3 158 rfl rfl), rfl⟩
theorem m_Years_82 : MLV "MangleTown$Years" 82 yX7_takeNumber cX7_takeNumber 3 (some .boolean) 2 6 := ⟨⟨(inT4 20 rfl rfl), (inT1 2 rfl rfl), (inT3 147 rfl rfl), by decide +kernel, by decide⟩, (inT3 145 rfl rfl), (inT3 146 rfl rfl), rfl⟩
