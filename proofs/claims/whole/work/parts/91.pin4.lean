theorem c_millionths {x T : Int} {M : Mm} (hx : 0 ≤ x ∧ x ≤ 20000000000) (hT : 0 < T ∧ T ≤ 140) : S_Main_millionths x T M (fun r M' => M' = M ∧ r = x * 1000000 / (T * 100000000 * 10)) := by
  refine W_Main_millionths _ _ M ⟨by omega, by omega, fun z => ?_, fun z => ⟨by omega, by omega, rfl, ?_⟩⟩
  · rw [cmp_le] at z; omega
  · exact divL_nn (by omega) (by omega) (by omega) (by omega)
