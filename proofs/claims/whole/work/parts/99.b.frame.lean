/-! the law's world: the class's 200 cells, the model's 45, the row out; a call in a part of it leaves the rest -/
theorem P_left {D : va_G} {cl : List vw_C} {a b : va_W} {H : Heap} (h : va_P D cl (a ++ b) H) : va_P D cl a H := fun k q hk => h k q (by
  rw [List.getElem?_append_left (List.getElem?_eq_some_iff.mp hk).1]; exact hk)
theorem P_right {D : va_G} {cl : List vw_C} {a b : va_W} {H : Heap} (h : va_P D cl (a ++ b) H) : va_P D cl b H := fun k q hk => h (a.length + k) q (by
  rw [List.getElem?_append_right (Nat.le_add_right _ _), Nat.add_sub_cancel_left]; exact hk)
theorem get_l {a b : va_W} {i : Nat} {p : Nat × va_E} (h : a[i]? = some p) : (a ++ b)[i]? = some p := by
  rw [List.getElem?_append_left (List.getElem?_eq_some_iff.mp h).1]; exact h
theorem get_r {a b : va_W} {i : Nat} {p : Nat × va_E} (h : b[i]? = some p) : (a ++ b)[a.length + i]? = some p := by
  rw [List.getElem?_append_right (Nat.le_add_right _ _), Nat.add_sub_cancel_left]; exact h
theorem get_or {a b : va_W} {i : Nat} {p : Nat × va_E} (h : (a ++ b)[i]? = some p) : a[i]? = some p ∨ b[i - a.length]? = some p := by
  by_cases hi : i < a.length
  · left; rw [List.getElem?_append_left hi] at h; exact h
  · right; rw [List.getElem?_append_right (by omega)] at h; exact h
theorem D_left {A : Nat → Prop} {a b : va_W} (h : va_D A (a ++ b)) : va_D A a := ⟨fun i j p q hp hq e => h.1 i j p q (get_l hp) (get_l hq) e, fun i q hq => h.2 i q (get_l hq)⟩
theorem D_right {A : Nat → Prop} {a b : va_W} (h : va_D A (a ++ b)) : va_D A b := ⟨fun i j p q hp hq e => by
  have := h.1 _ _ p q (get_r (a := a) hp) (get_r (a := a) hq) e
  omega, fun i q hq => h.2 _ q (get_r (a := a) hq)⟩
def apt (a b : va_W) : Prop := ∀ (i j : Nat) (p q : Nat × va_E), a[i]? = some p → b[j]? = some q → p.1 ≠ q.1
theorem D_apt {A : Nat → Prop} {a b : va_W} (h : va_D A (a ++ b)) : apt a b := fun i j p q hp hq e => by
  have e1 := h.1 _ _ p q (get_l hp) (get_r (a := a) hq) e
  have := (List.getElem?_eq_some_iff.mp hp).1
  omega
theorem apt.sym {a b : va_W} (h : apt a b) : apt b a := fun i j p q hp hq e => h j i q p hq hp e.symm
theorem fr_keep {D : va_G} {cl : List vw_C} {w w' r : va_W} {H H1 : Heap} (hPr : va_P D cl r H) (hap : apt w r) (hD1 : va_D (va_A w H.size) w') (hk : ∀ q : Nat, q < H.size → ¬ va_A w H.size q → H1[q]? = H[q]?) : va_P D cl r H1 ∧ apt w' r := by
  have key : ∀ (j : Nat) (q : Nat × va_E), r[j]? = some q → q.1 < H.size ∧ ¬ va_A w H.size q.1 := by
    intro j q hj
    have hlt := vx_lt hPr hj
    refine ⟨hlt, ?_⟩
    rintro (⟨k, e, h9⟩ | h9)
    · exact hap k j _ q h9 hj rfl
    · omega
  refine ⟨hPr.kept (fun j q hj => hk _ (key j q hj).1 (key j q hj).2), fun i j p q hp hq e => ?_⟩
  exact (key j q hq).2 (e ▸ hD1.2 i p hp)
theorem fr3 {D : va_G} {cl : List vw_C} {A : Nat → Prop} {a w w' b : va_W} {H H1 : Heap} (hP : va_P D cl (a ++ (w ++ b)) H) (hD : va_D A (a ++ (w ++ b))) (hP1 : va_P D cl w' H1) (hD1 : va_D (va_A w H.size) w') (hk : ∀ q : Nat, q < H.size → ¬ va_A w H.size q → H1[q]? = H[q]?) (hF : ∀ q, va_A w H.size q → A q) : va_P D cl (a ++ (w' ++ b)) H1 ∧ va_D A (a ++ (w' ++ b)) := by
  have hpr := P_right hP
  have hdr := D_right hD
  have h1 := D_apt hD
  have h2 := D_apt hdr
  have h3 : apt w a := fun i j p q hp hq e => h1 j i q p hq (get_l hp) e.symm
  obtain ⟨a1, a2⟩ := fr_keep (P_left hP) h3 hD1 hk
  obtain ⟨b1, b2⟩ := fr_keep (P_right hpr) h2 hD1 hk
  refine ⟨a1.app (hP1.app b1), (D_left hD).app ((hD1.weaken (fun _ _ _ h => hF _ h)).app (D_right hdr) b2) ?_⟩
  intro i j p q hp hq e
  rcases get_or hq with h | h
  · exact a2 _ _ q p h hp e.symm
  · exact h1 i _ p q hp (get_r (a := w) h) e
theorem fr_F {D : va_G} {cl : List vw_C} {A : Nat → Prop} {a w b : va_W} {H0 H : Heap} {locs : List Loc} (hD : va_D A (a ++ (w ++ b))) (hS : va_S A H0 H locs) (hA : ∀ q, H0.size ≤ q → A q) : ∀ q, va_A w H.size q → A q := by
  rintro q (⟨k, e, hk⟩ | hq)
  · exact (D_left (D_right hD)).2 k _ hk
  · exact hA q (Nat.le_trans hS.1 hq)
def shW : Sh := fun c => if c ≤ 200 then shC c else if c ≤ 245 then shM (c - 200) else .inr (1, 1)
/-- the references: the class's by R0, the model's by RRM -/
def RLB (R0 : Rr) : Rr := fun c => if c ≤ 200 then R0 c else if c ≤ 245 then (fun k => if RRM (c - 200) k = 0 then 0 else RRM (c - 200) k + 200) else zr
abbrev RRL : Rr := RLB RRC
def ML (M N : Mm) (o : Nat → Int) : Mm := fun c => if c ≤ 200 then M c else if c ≤ 245 then N (c - 200) else if c = 246 then o else z0
theorem shW_C {c : Nat} (h : c ≤ 200) : shW c = shC c := if_pos h
theorem shW_M {c : Nat} (h1 : 1 ≤ c) (h2 : c ≤ 45) : shW (c + 200) = shM c := by
  unfold shW
  rw [if_neg (by omega), if_pos (by omega), Nat.add_sub_cancel]
theorem RLB_C {R0 : Rr} {c : Nat} (h : c ≤ 200) : RLB R0 c = R0 c := if_pos h
theorem RLB_M {R0 : Rr} {c k : Nat} (h1 : 1 ≤ c) (h2 : c ≤ 45) : RLB R0 (c + 200) k = if RRM c k = 0 then 0 else RRM c k + 200 := by
  unfold RLB
  rw [if_neg (by omega), if_pos (by omega), Nat.add_sub_cancel]
theorem ML_C {M N : Mm} {o : Nat → Int} {c : Nat} (h : c ≤ 200) : ML M N o c = M c := if_pos h
theorem ML_M {M N : Mm} {o : Nat → Int} {c : Nat} (h1 : 1 ≤ c) (h2 : c ≤ 45) : ML M N o (c + 200) = N c := by
  unfold ML
  rw [if_neg (by omega), if_pos (by omega), Nat.add_sub_cancel]
theorem ML_o {M N : Mm} {o : Nat → Int} : ML M N o 246 = o := by
  unfold ML
  rw [if_neg (by omega), if_neg (by omega), if_pos rfl]
theorem ce_sh {sh sh' : Sh} {ar : Nat → ClassId} {ad sad : Nat → Nat} {R : Rr} {M : Mm} {c : Nat} (h : sh c = sh' c) : ce sh ar ad sad R M c = ce sh' ar ad sad R M c := by unfold ce; rw [h]
theorem ce_C {ar : Nat → ClassId} {ad sad : Nat → Nat} {R0 : Rr} {M N : Mm} {o : Nat → Int} {c : Nat} (h : c ≤ 200) : ce shW ar ad sad (RLB R0) (ML M N o) c = ce shC ar ad sad R0 M c :=
  (ce_sh (shW_C h)).trans (ce_congr (ML_C h) (RLB_C h) (fun _ => rfl) (fun _ _ _ _ => rfl))
theorem kd10_3 : ∀ k, k < 62 → (kd 10).getD k 0 ≠ 3 := by decide +kernel
theorem ce_M {ar : Nat → ClassId} {ad ad2 sad : Nat → Nat} {R0 : Rr} {M N : Mm} {o : Nat → Int} {c : Nat} (h1 : 1 ≤ c) (h2 : c ≤ 45) (h3 : ∀ q, ad2 q = ad (q + 200)) : ce shW ar ad sad (RLB R0) (ML M N o) (c + 200) = ce shM ar ad2 sad RRM N c := by
  have hk := akM_ok c h1 h2
  unfold akM at hk
  have eM : ∀ k, ML M N o (c + 200) k = N c k := fun k => by rw [ML_M h1 h2]
  have rvE : ∀ k, rv ad (RLB R0 (c + 200) k) = rv ad2 (RRM c k) := by
    intro k
    rw [RLB_M h1 h2]
    unfold rv
    by_cases h : RRM c k = 0
    · rw [if_pos h, if_pos rfl, if_pos h]
    · rw [if_neg h, if_neg (by omega), if_neg h, h3]
  have roE : ∀ k, ro ad (RLB R0 (c + 200) k) = ro ad2 (RRM c k) := by
    intro k
    rw [RLB_M h1 h2]
    unfold ro
    by_cases h : RRM c k = 0
    · rw [if_pos h, if_pos rfl, if_pos h]
    · rw [if_neg h, if_neg (by omega), if_neg h, h3]
  have e0 := shW_M h1 h2
  cases hs : shM c with
  | inl ci =>
    rw [hs] at hk
    have hc : c = 1 := by simpa using hk
    have hci : ci = 10 := by
      subst hc
      have e' : (Sum.inl 10 : Nat ⊕ (Nat × Nat)) = .inl ci := hs
      cases e'; rfl
    rw [ce_obj (e0.trans hs), ce_obj hs]
    have ef : fl ad sad (RLB R0) (ML M N o) (c + 200) ci = fl ad2 sad RRM N c ci := by
      unfold fl
      apply List.map_congr_left
      intro k hk9
      have hk62 : k < 62 := by
        rw [hci] at hk9
        exact List.mem_range.mp hk9
      have ht := kd10_3 k hk62
      rw [← hci] at ht
      generalize (kd ci).getD k 0 = t at ht ⊢
      unfold fv
      split
      · rw [eM k]
      · rw [rvE k]
      · exact absurd rfl ht
      · rw [eM k]
      · rw [eM k]
    rw [ef]
  | inr q =>
    obtain ⟨t, len⟩ := q
    rw [ce_arr (e0.trans hs), ce_arr hs]
    unfold pay
    simp only [eM, roE]
abbrev wo (ar : Nat → ClassId) (ad : Nat → Nat) (o : Nat → Int) : va_W := [(ad 246, .inl (ar 1, 1, .inr (.inl (fun j => Int64.ofInt (o j)))))]
theorem wld_C {ar : Nat → ClassId} {ad sad : Nat → Nat} {R0 : Rr} {M N : Mm} {o : Nat → Int} {n : Nat} (hn : n ≤ 200) : wld shW ar ad sad n (RLB R0) (ML M N o) = wld shC ar ad sad n R0 M := by
  unfold wld
  apply List.map_congr_left
  intro i hi
  have := List.mem_range.mp hi
  rw [ce_C (by omega)]
theorem wL_eq {ar : Nat → ClassId} {ad ad2 sad : Nat → Nat} {R0 : Rr} {M N : Mm} {o : Nat → Int} (h3 : ∀ q, ad2 q = ad (q + 200)) : wld shW ar ad sad 245 (RLB R0) (ML M N o) = wld shC ar ad sad 200 R0 M ++ wld shM ar ad2 sad 45 RRM N := by
  have h0 : wld shW ar ad sad 245 (RLB R0) (ML M N o) = wld shW ar ad sad 200 (RLB R0) (ML M N o) ++ ((List.range 45).map (fun i => (ad (i + 1 + 200), ce shW ar ad sad (RLB R0) (ML M N o) (i + 1 + 200)))) := by
    unfold wld
    rw [show (245 : Nat) = 200 + 45 from rfl, List.range_add, List.map_append, List.map_map]
    congr 1
  rw [h0, wld_C (Nat.le_refl _)]
  congr 1
  unfold wld
  apply List.map_congr_left
  intro i hi
  have := List.mem_range.mp hi
  rw [ce_M (ad2 := ad2) (by omega) (by omega) h3, h3]
theorem wL_6 {ar : Nat → ClassId} {ad ad2 sad : Nat → Nat} {R0 : Rr} {M N : Mm} {o : Nat → Int} (h3 : ∀ q, ad2 q = ad (q + 200)) : wld shW ar ad sad 246 (RLB R0) (ML M N o) = wld shC ar ad sad 200 R0 M ++ (wld shM ar ad2 sad 45 RRM N ++ wo ar ad o) := by
  have h0 : wld shW ar ad sad 246 (RLB R0) (ML M N o) = wld shW ar ad sad 245 (RLB R0) (ML M N o) ++ [(ad 246, ce shW ar ad sad (RLB R0) (ML M N o) 246)] := by
    unfold wld
    rw [show (246 : Nat) = 245 + 1 from rfl, List.range_succ, List.map_append]
    rfl
  rw [h0, wL_eq h3, List.append_assoc, ce_arr (show shW 246 = .inr (1, 1) from rfl)]
  unfold pay
  rw [ML_o]
  rfl
