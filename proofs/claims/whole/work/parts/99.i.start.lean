/-! what the Statement gives of the start -/
def NW1 : List Cond := flatC (Jvm.Cond.and given_1 narrow_1)
abbrev wD : String := "LMangleTown$Word;"
theorem nf_ex : ∀ i, i < 27 → Cond.exactly (.static RX9 (wN.getD i "") wD) RX9 ∈ NW1 := by decide +kernel
theorem nf_or : ∀ i, i < 27 → Cond.eq (.field (.static RX9 (wN.getD i "") wD) "java/lang/Enum" "ordinal" "I") (.int (Int32.ofInt (i : Int))) ∈ NW1 := by decide +kernel
theorem nf_le : ∀ i, i < 27 → Cond.eq (.field (.static RX9 (wN.getD i "") wD) RX9 "letters" "J") (.long (Int64.ofInt (wL.getD i 0))) ∈ NW1 := by decide +kernel
theorem nf_ke : ∀ i, i < 27 → Cond.eq (.field (.static RX9 (wN.getD i "") wD) RX9 "kept" "Z") (.int (Int32.ofInt (wK.getD i 0))) ∈ NW1 := by decide +kernel
theorem nf_el : ∀ i, i < 27 → Cond.eq (.elem (.static RX9 "ALL" "[LMangleTown$Word;") (.int (Int32.ofNat i))) (.static RX9 (wN.getD i "") wD) ∈ NW1 := by decide +kernel
theorem nf_sw : ∀ i, i < 27 → Cond.eq (.elem (.static RX0 "$SwitchMap$MangleTown$Word" "[I") (.int (Int32.ofNat i))) (.int (Int32.ofInt (wS.getD i 0))) ∈ NW1 := by decide +kernel
abbrev tmS : Term := .string "MangleTown$Tape" 60
theorem nf_by : ∀ i, i < 8 → Cond.eq (.elem (.field tmS "java/lang/String" "value" "[B") (.int (Int32.ofNat i))) (.int (Int32.ofInt (sB.getD i 0))) ∈ NW1 := by decide +kernel
theorem nf_1 : Cond.arrayOf (.static RX9 "ALL" "[LMangleTown$Word;") (.object RX9) ∈ NW1 ∧ Cond.eq (.length (.static RX9 "ALL" "[LMangleTown$Word;")) (.int (Int32.ofNat 27)) ∈ NW1 ∧ Cond.arrayOf (.static RX0 "$SwitchMap$MangleTown$Word" "[I") .int ∈ NW1 ∧ Cond.eq (.length (.static RX0 "$SwitchMap$MangleTown$Word" "[I")) (.int (Int32.ofNat 27)) ∈ NW1 := by decide +kernel
theorem nf_2 : Cond.exactly tmS "java/lang/String" ∈ NW1 ∧ Cond.eq (.field tmS "java/lang/String" "coder" "B") (.int (Int32.ofInt 0)) ∈ NW1 ∧ Cond.arrayOf (.field tmS "java/lang/String" "value" "[B") .byte ∈ NW1 ∧ Cond.eq (.length (.field tmS "java/lang/String" "value" "[B")) (.int (Int32.ofNat 8)) ∈ NW1 ∧ Cond.exactly (.string "MangleTown" 290) "java/lang/String" ∈ NW1 ∧ Cond.exactly (.string "MangleTown" 314) "java/lang/String" ∈ NW1 := by decide +kernel
theorem nf_3 : Cond.eq (.static "java/lang/String" "COMPACT_STRINGS" "Z") (.int (Int32.ofInt 1)) ∈ NW1 ∧ Cond.isRef (.static Bundle.tN "UNASSIGNED_STACK" Bundle.steD) ∈ NW1 ∧ Cond.isRef (.static Bundle.tN "SUPPRESSED_SENTINEL" Bundle.listD) ∈ NW1 := by decide +kernel
theorem ng_w : ∀ i, i < 27 → Cond.laysStatic RX9 (wN.getD i "") wD ∈ lw_tbl := by decide +kernel
theorem ng_1 : Cond.laysStatic RX9 "ALL" "[LMangleTown$Word;" ∈ lw_tbl ∧ Cond.laysStatic RX0 "$SwitchMap$MangleTown$Word" "[I" ∈ lw_tbl ∧ Cond.laysStatic "java/lang/String" "COMPACT_STRINGS" "Z" ∈ lw_tbl ∧ Cond.laysStatic Bundle.tN "UNASSIGNED_STACK" Bundle.steD ∈ lw_tbl ∧ Cond.laysStatic Bundle.tN "SUPPRESSED_SENTINEL" Bundle.listD ∈ lw_tbl := by decide +kernel
theorem ng_2 : Cond.initialized RX9 ∈ lw_tbl ∧ Cond.initialized RX0 ∈ lw_tbl ∧ Cond.initialized "java/lang/String" ∈ lw_tbl ∧ Cond.initialized Bundle.tN ∈ lw_tbl := by decide +kernel
theorem ng_3 : Cond.stringRef "MangleTown$Tape" 60 "()<=+-*;" ∈ lw_tbl ∧ Cond.stringRef "MangleTown" 290 "no such search for a pin" ∈ lw_tbl ∧ Cond.stringRef "MangleTown" 314 "no such rest" ∈ lw_tbl := by decide +kernel
theorem ng_4 : ∀ q ∈ NSL, Cond.methodLinkNest q.1 q.2.1 q.2.2 "MangleTown" ∈ lw_tbl := by decide +kernel
theorem ng_5 : Cond.arrayOver (.object RX5) ∈ lw_tbl ∧ Cond.arrayOver (.object RX6) ∈ lw_tbl := by decide +kernel
theorem ng_6 : ∀ w ∈ XWL, w ∈ lw_tbl := by decide +kernel
section ST
variable {s : State} {args : Array Value} {A : Nat → Prop}
theorem nf_eqr {t u : Term} {a : Nat} (h : (Cond.eq t u).before args s = true) (hu : u.eval args s none [] s = some (.ref a)) : t.eval args s none [] s = some (.ref a) := by
  cases hv : t.eval args s none [] s with
  | none => simp [Cond.before, Cond.holds, Cond.value, hv] at h
  | some w =>
    simp only [Cond.before, Cond.holds, Cond.value, hv, hu] at h
    cases w <;> simp_all
theorem start_O {t : Term} {E : String} (h : (Cond.exactly t E).before args s = true) (hA : ∀ a : Nat, a < s.heap.size → ¬ A a) : ∃ a : Nat, t.eval args s none [] s = some (.ref a) ∧ va_O E a A s s.heap := by
  obtain ⟨a, c, cell, k, q1, q2, q3, q4, q5, q6, -⟩ := Cond.exactly_spec h
  exact ⟨a, q1, cell, q3, q5, by rw [q6]; exact q2, hA a (Array.getElem?_eq_some_iff.mp q3).1⟩
theorem start_SS {b : Nat} (hg : ∀ w ∈ NW1, w.before args s = true) (ht : ∀ w ∈ lw_tbl, w.before args s = true) (hA : ∀ a : Nat, a < s.heap.size → ¬ A a) : ∃ sad : Nat → Nat, SS sad A s s.heap ∧ sad 33 = b := by
  have h0 : ∀ i : Nat, ∃ t : Nat, i < 27 → ((Term.static RX9 (wN.getD i "") wD).eval args s none [] s = some (.ref t) ∧ va_O RX9 t A s s.heap) := by
    intro i
    by_cases hi : i < 27
    · obtain ⟨a, h1, h2⟩ := start_O (hg _ (nf_ex i hi)) hA
      exact ⟨a, fun _ => ⟨h1, h2⟩⟩
    · exact ⟨0, fun h => absurd h hi⟩
  obtain ⟨tw, htw⟩ := Classical.axiomOfChoice h0
  obtain ⟨tA, a1, a2⟩ := va_Tof (f := fun j => .ref (tw j)) (A := A) (show 27 < 2 ^ 31 by decide) (hg _ nf_1.1) (va_eqt (hg _ nf_1.2.1)) (fun j hj => nf_eqr (hg _ (nf_el j hj)) (htw j hj).1) hA
  obtain ⟨tS, b1, b2⟩ := va_Tof (f := fun j => .int (Int32.ofInt (wS.getD j 0))) (A := A) (show 27 < 2 ^ 31 by decide) (hg _ nf_1.2.2.1) (va_eqt (hg _ nf_1.2.2.2)) (fun j hj => va_eqt (hg _ (nf_sw j hj))) hA
  obtain ⟨t29, c1, c2⟩ := start_O (hg _ nf_2.1) hA
  obtain ⟨t30, d1, d2⟩ := va_Tof (f := fun j => .int (Int32.ofInt (sB.getD j 0))) (A := A) (show 8 < 2 ^ 31 by decide) (hg _ nf_2.2.2.1) (va_eqt (hg _ nf_2.2.2.2.1)) (fun j hj => va_eqt (hg _ (nf_by j hj))) hA
  obtain ⟨t31, e1, -⟩ := start_O (A := A) (hg _ nf_2.2.2.2.2.1) hA
  obtain ⟨t32, f1, -⟩ := start_O (A := A) (hg _ nf_2.2.2.2.2.2) hA
  obtain ⟨sad, hsad⟩ : ∃ sad : Nat → Nat, ∀ k, sad k = if k < 27 then tw k else if k = 27 then tA else if k = 28 then tS else if k = 29 then t29 else if k = 30 then t30 else if k = 31 then t31 else if k = 32 then t32 else b := ⟨_, fun _ => rfl⟩
  have sw : ∀ i, i < 27 → sad i = tw i := fun i hi => by rw [hsad, if_pos hi]
  have s27 : sad 27 = tA := by rw [hsad]; rfl
  have s28 : sad 28 = tS := by rw [hsad]; rfl
  have s29 : sad 29 = t29 := by rw [hsad]; rfl
  have s30 : sad 30 = t30 := by rw [hsad]; rfl
  have s31 : sad 31 = t31 := by rw [hsad]; rfl
  have s32 : sad 32 = t32 := by rw [hsad]; rfl
  have s33 : sad 33 = b := by rw [hsad]; rfl
  refine ⟨sad, ⟨?_, ?_, ?_, ?_, ?_⟩, s33⟩
  · intro q hq
    unfold zF at hq
    rcases List.mem_append.mp hq with hq | hq
    · obtain ⟨i, hi, rfl⟩ := List.mem_map.mp hq
      have hi := List.mem_range.mp hi
      show va_Z RX9 (wN.getD i "") wD (.ref (sad i)) A s s.heap
      rw [sw i hi]
      exact va_Zof (ht _ (ng_w i hi)) (ht _ ng_2.1) (htw i hi).1 hA
    · simp only [List.mem_cons, List.not_mem_nil, or_false] at hq
      rcases hq with rfl | rfl | rfl
      · show va_Z RX9 "ALL" "[LMangleTown$Word;" (.ref (sad 27)) A s s.heap
        rw [s27]
        exact va_Zof (ht _ ng_1.1) (ht _ ng_2.1) a1 hA
      · show va_Z RX0 "$SwitchMap$MangleTown$Word" "[I" (.ref (sad 28)) A s s.heap
        rw [s28]
        exact va_Zof (ht _ ng_1.2.1) (ht _ ng_2.2.1) b1 hA
      · exact va_Zof (ht _ ng_1.2.2.1) (ht _ ng_2.2.2.1) (va_eqt (hg _ nf_3.1)) hA
  · intro q hq
    unfold oF at hq
    rcases List.mem_append.mp hq with hq | hq
    · obtain ⟨i, hi, rfl⟩ := List.mem_map.mp hq
      have hi := List.mem_range.mp hi
      show va_OF "java/lang/Enum" "ordinal" "I" (.int (Int32.ofInt (i : Int))) (sad i) A s s.heap
      rw [sw i hi]
      exact vk_OFof (htw i hi).1 (va_eqt (hg _ (nf_or i hi))) hA
    rcases List.mem_append.mp hq with hq | hq
    · obtain ⟨i, hi, rfl⟩ := List.mem_map.mp hq
      have hi := List.mem_range.mp hi
      show va_OF RX9 "letters" "J" (.long (Int64.ofInt (wL.getD i 0))) (sad i) A s s.heap
      rw [sw i hi]
      exact vk_OFof (htw i hi).1 (va_eqtl (hg _ (nf_le i hi))) hA
    rcases List.mem_append.mp hq with hq | hq
    · obtain ⟨i, hi, rfl⟩ := List.mem_map.mp hq
      have hi := List.mem_range.mp hi
      show va_OF RX9 "kept" "Z" (.int (Int32.ofInt (wK.getD i 0))) (sad i) A s s.heap
      rw [sw i hi]
      exact vk_OFof (htw i hi).1 (va_eqt (hg _ (nf_ke i hi))) hA
    · simp only [List.mem_cons, List.not_mem_nil, or_false] at hq
      rcases hq with rfl | rfl
      · show va_OF "java/lang/String" "coder" "B" (.int (Int32.ofInt 0)) (sad 29) A s s.heap
        rw [s29]
        exact vk_OFof c1 (va_eqt (hg _ nf_2.2.1)) hA
      · show va_OF "java/lang/String" "value" "[B" (.ref (sad 30)) (sad 29) A s s.heap
        rw [s29, s30]
        exact vk_OFof c1 d1 hA
  · intro q hq
    unfold oC at hq
    rcases List.mem_append.mp hq with hq | hq
    · obtain ⟨i, hi, rfl⟩ := List.mem_map.mp hq
      have hi := List.mem_range.mp hi
      show va_O RX9 (sad i) A s s.heap
      rw [sw i hi]
      exact (htw i hi).2
    · simp only [List.mem_cons, List.not_mem_nil, or_false] at hq
      subst hq
      show va_O "java/lang/String" (sad 29) A s s.heap
      rw [s29]; exact c2
  · intro q hq
    unfold tF at hq
    simp only [List.mem_cons, List.not_mem_nil, or_false] at hq
    rcases hq with rfl | rfl | rfl
    · show va_T (.object RX9) (sad 27) 27 (fun j => .ref (sad j)) A s s.heap
      rw [s27]
      obtain ⟨cell, h1, h2, h3, h4, h5, h6, h7⟩ := a2
      exact ⟨cell, h1, h2, h3, h4, h5, fun j hj => by show cell.slots[j]? = some (.ref (sad j)); rw [sw j hj]; exact h6 j hj, h7⟩
    · show va_T .int (sad 28) 27 (fun j => .int (Int32.ofInt (wS.getD j 0))) A s s.heap
      rw [s28]; exact b2
    · show va_T .byte (sad 30) 8 (fun j => .int (Int32.ofInt (sB.getD j 0))) A s s.heap
      rw [s30]; exact d2
  · intro q hq
    unfold sF at hq
    simp only [List.mem_cons, List.not_mem_nil, or_false] at hq
    rcases hq with rfl | rfl | rfl
    · show vk_R "MangleTown$Tape" 60 "()<=+-*;" (sad 29) s
      rw [s29]; exact vk_R.of (ht _ ng_3.1) c1
    · show vk_R "MangleTown" 290 "no such search for a pin" (sad 31) s
      rw [s31]; exact vk_R.of (ht _ ng_3.2.1) e1
    · show vk_R "MangleTown" 314 "no such rest" (sad 32) s
      rw [s32]; exact vk_R.of (ht _ ng_3.2.2) f1
theorem start_XS (hg : ∀ w ∈ NW1, w.before args s = true) (ht : ∀ w ∈ lw_tbl, w.before args s = true) (hA : ∀ a : Nat, a < s.heap.size → ¬ A a) : XS A s s.heap := by
  refine ⟨vx_Zqof (ht _ ng_1.2.2.2.1) (ht _ ng_2.2.2.2) (hg _ nf_3.2.1) hA, vx_Zqof (ht _ ng_1.2.2.2.2) (ht _ ng_2.2.2.2) (hg _ nf_3.2.2) hA, fun w hw => ?_⟩
  have hf := List.all_eq_true.mp XWL_face w hw
  rw [Bool.and_eq_true] at hf
  exact va_any hf.2 (ht w (ng_6 w hw))
theorem start_KS (ht : ∀ w ∈ lw_tbl, w.before args s = true) : KS s := ⟨fun q hq => va_Nw.of rfl (ht _ (ng_4 q hq)), va_AO.of (ht _ ng_5.1), va_AO.of (ht _ ng_5.2)⟩
theorem start_ar {ty : FieldType} (hn : ∀ C, ty ≠ .object C) (h : (Cond.arrayClass ty).before args s = true) : ∃ c : ClassId, ArrOfT s c ty ∧ va_RA s c ty := by
  obtain ⟨c, k, comp, h1, h2, h3⟩ := Cond.arrayClass_spec h
  refine ⟨c, fun n z => ⟨(fun k h => by cases h), k, h2, comp, h3⟩, ?_⟩
  cases ty with
  | object C => exact absurd rfl (hn C)
  | _ => exact h1
theorem start_aq {C : String} (h : va_AO C s) : ∃ c : ClassId, ArrOfT s c (.object C) ∧ va_RA s c (.object C) := by
  obtain ⟨comp, c, k, h1, -, h3, h4, h5⟩ := Cond.arrayOver_spec h
  exact ⟨c, fun n z => ⟨(fun k h => by cases h), k, h3, comp, h4⟩, k, comp, h3, h4, h1, h5⟩
theorem start_K (ht : ∀ w ∈ TB, w.before args s = true) (hi : ∀ ci, ci < 11 → CI ci ∧ Cond.instantiable (ctN ci).1 (ctN ci).2.2.1 ∈ TB) (hKS : KS s) : ∃ (D : va_G) (ar : Nat → ClassId), va_K D vwCl (tysL ar) s := by
  have h0 : ∀ ci : Nat, ∃ q : ClassId × (Nat → Nat), ci < 11 → u_Kn s (ctN ci).1 (ctN ci).2.1 (ctN ci).2.2.1 q.1 q.2 := by
    intro ci
    by_cases h : ci < 11
    · obtain ⟨c, iS, hk⟩ := u_known ht (hi ci h).1.2.2.1 (ht _ (hi ci h).2)
      exact ⟨(c, iS), fun _ => hk⟩
    · exact ⟨(0, fun _ => 0), fun z => absurd z h⟩
  obtain ⟨f, hf⟩ := Classical.axiomOfChoice h0
  obtain ⟨c0, i1, i2⟩ := start_ar (by intro C h; cases h) (ht _ ka_int)
  obtain ⟨c1, l1, l2⟩ := start_ar (by intro C h; cases h) (ht _ ka_long)
  obtain ⟨c2, b1, b2⟩ := start_ar (by intro C h; cases h) (ht _ ka_byte)
  obtain ⟨c3, z1, z2⟩ := start_ar (by intro C h; cases h) (ht _ ka_boolean)
  obtain ⟨c4, p1, p2⟩ := start_aq hKS.2.1
  obtain ⟨c5, q1, q2⟩ := start_aq hKS.2.2
  refine ⟨(fun k => (f k).1, fun k => (f k).2), fun t => match t with | 0 => c0 | 1 => c1 | 2 => c2 | 3 => c3 | 4 => c4 | _ => c5, ?_, ?_⟩
  · intro c q hq
    have hc : c < 11 := (List.getElem?_eq_some_iff.mp hq).1
    have e := (hi c hc).1.1
    rw [e] at hq
    cases hq
    exact hf c hc
  · intro k q hq
    have hk : k < 6 := (List.getElem?_eq_some_iff.mp hq).1
    rcases (show k = 0 ∨ k = 1 ∨ k = 2 ∨ k = 3 ∨ k = 4 ∨ k = 5 by omega) with rfl | rfl | rfl | rfl | rfl | rfl <;> cases hq
    · exact ⟨i1, i2⟩
    · exact ⟨l1, l2⟩
    · exact ⟨b1, b2⟩
    · exact ⟨z1, z2⟩
    · exact ⟨p1, p2⟩
    · exact ⟨q1, q2⟩
end ST
theorem start_ci (ci : Nat) (h : ci < 11) : CI ci ∧ Cond.instantiable (ctN ci).1 (ctN ci).2.2.1 ∈ TB := by
  rcases (show ci = 0 ∨ ci = 1 ∨ ci = 2 ∨ ci = 3 ∨ ci = 4 ∨ ci = 5 ∨ ci = 6 ∨ ci = 7 ∨ ci = 8 ∨ ci = 9 ∨ ci = 10 by omega) with rfl | rfl | rfl | rfl | rfl | rfl | rfl | rfl | rfl | rfl | rfl
  · exact ⟨cin_0, (inT1 101 rfl rfl)⟩
  · exact ⟨cin_1, (inT2 59 rfl rfl)⟩
  · exact ⟨cin_2, (inT2 93 rfl rfl)⟩
  · exact ⟨cin_3, (inT2 123 rfl rfl)⟩
  · exact ⟨cin_4, (inT2 21 rfl rfl)⟩
  · exact ⟨cin_5, (inT1 211 rfl rfl)⟩
  · exact ⟨cin_6, (inT1 36 rfl rfl)⟩
  · exact ⟨cin_7, (inT1 95 rfl rfl)⟩
  · exact ⟨cin_8, (inT1 186 rfl rfl)⟩
  · exact ⟨cin_9, (inT1 28 rfl rfl)⟩
  · exact ⟨cin_10, (inT6 28 rfl rfl)⟩
