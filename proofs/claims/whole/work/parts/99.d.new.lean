/-! the objects made in the law -/
theorem wld_sh {sh sh' : Sh} {ar : Nat → ClassId} {ad sad : Nat → Nat} {n : Nat} {R : Rr} {M : Mm} (hs : ∀ c, 1 ≤ c → c ≤ n → sh c = sh' c) : wld sh ar ad sad n R M = wld sh' ar ad sad n R M := by
  unfold wld
  apply List.map_congr_left
  intro i hi
  have := List.mem_range.mp hi
  rw [ce_sh (hs (i + 1) (by omega) (by omega))]
theorem cum_sh {sh sh' : Sh} : ∀ {n : Nat}, (∀ c, 1 ≤ c → c ≤ n → sh c = sh' c) → cum sh n = cum sh' n
  | 0, _ => rfl
  | n + 1, hs => by
    show cum sh n + csz sh (n + 1) = cum sh' n + csz sh' (n + 1)
    have e1 : csz sh (n + 1) = csz sh' (n + 1) := by
      unfold csz
      rw [hs (n + 1) (by omega) (by omega)]
    rw [cum_sh (fun c h1 h2 => hs c h1 (by omega)), e1]
theorem MSo_sh {sh sh' : Sh} {y : MethodName} {cc : ByteArray} {nL : Nat} {ret : Option FieldType} {d n0 n1 : Nat} {R : Rr} {as : List AV} {M : Mm} {Q : Option AV → Rr → Mm → Prop} (hn : n0 ≤ n1) (hs : ∀ c, 1 ≤ c → c ≤ n1 → sh c = sh' c) (h : MSo sh y cc nL ret d n0 n1 R as M Q) : MSo sh' y cc nL ret d n0 n1 R as M Q := by
  have e0 : ∀ (ar : Nat → ClassId) (ad sad : Nat → Nat) (R : Rr) (M : Mm), wld sh ar ad sad n0 R M = wld sh' ar ad sad n0 R M := fun _ _ _ _ _ => wld_sh (fun c h1 h2 => hs c h1 (by omega))
  have e1 : ∀ (ar : Nat → ClassId) (ad sad : Nat → Nat) (R : Rr) (M : Mm), wld sh ar ad sad n1 R M = wld sh' ar ad sad n1 R M := fun _ _ _ _ _ => wld_sh hs
  have c0 : cum sh n0 = cum sh' n0 := cum_sh (fun c h1 h2 => hs c h1 (by omega))
  have c1 : cum sh n1 = cum sh' n1 := cum_sh hs
  intro l ad sad D ar sz
  have k := h l ad sad D ar sz
  unfold PcO Qc rmd at k ⊢
  simp only [e0, e1, c0, c1] at k
  exact k
theorem r_initO {sh : Sh} {y : MethodName} {cc : ByteArray} {nL : Nat} {ret : Option FieldType} {d n0 n1 : Nat} {Q : Option AV → Rr → Mm → Prop} {K : Nat → Rr → Nat → List (Nat × AV) → List AV → Mm → Prop} {n : Nat} {R : Rr} {pc : Nat} {L : List (Nat × AV)} {S S0 : List AV} {M : Mm} {y' : MethodName} {cc' : ByteArray} {nL' : Nat} {idx na d' b n' : Nat} {as : List AV} {Q' : Option AV → Rr → Mm → Prop}
    (h : EKO sh y cc nL ret d n0 n1 Q K) (ml : MLI y.cls idx y' cc' nL' na) (hm : MSo sh y' cc' nL' none d' n n' R (vr b :: as) M Q') (hd9 : d' + 1 ≤ d) (hnn : n ≤ n') (hn1 : n' ≤ n1) (hlen : as.length = na) (hst : S0 = as.reverse ++ vr b :: S) (hL : avs n (L.map (fun q => q.2))) (hS9 : avs n S) (hs9 : (S.map (fun v => if isl v then 2 else 1)).sum ≤ 8) (hd : decode cc pc = .ok (.invokespecial idx, 3)) (hrn : ∀ r R' M', Q' r R' M' → r = none)
    (kk : ∀ R' M', Q' none R' M' → K n' R' (pc + 3) L S M') : K n R pc L S0 M := by
  obtain ⟨p, l, e, s, m, args, below, meth, c, ad0, sad, D, A, ar, xc, xs, gc, gs, Z, ⟨hx, hb, hr, hml, hown, hts, hlk, hnm, hK, hSS, hA, ⟨hgc, hgs, hZ⟩, rfl⟩, hKS⟩ := h
  intro hn ad H locs ls had hP hD hS hl
  subst hst
  have hF := va_A_sub hD hS hA
  have em := cum_mono (sh := sh) hn
  have em1 := cum_mono (sh := sh) hnn
  have em2 := cum_mono (sh := sh) hn1
  have run := va_runI (b := ad b) (As := as.map (cv ad sad)) (rest := S.map (cv ad sad)) (g := F0 m pc ls ((as.reverse ++ vr b :: S).map (cv ad sad))) (below := below) (meth := meth) (e := e) (locs := locs) (cells := n - n0 + gc) (slots := cum sh n - cum sh n0 + gs) ⟨hx, hb, hml, hown, hts⟩ (hm l ad sad D ar H.size) (R := rmx sh d n0 n1 xc xs) ⟨callB_TB hts ml.1 hd9, ml.2.1, hts _ ml.2.2⟩
    ⟨PcO_blind (as := vr b :: as), PcO_of (as := vr b :: as) hK hSS hKS hP hD hS hF⟩ rfl (by rw [List.length_map]; exact hlen) hl.1 (by simp [cv, List.map_reverse]) (lv_room (by rw [cat_sum]; exact hs9)) hd ⟨by show _ ≤ n1 - n0 + xc; omega, by show _ ≤ cum sh n1 - cum sh n0 + xs; omega⟩
  refine w_call run hS hF ?_
  intro ad' r R' M' H1 locs1 hq hag hP1 hD1 hS1
  obtain rfl := hrn r R' M' hq
  have k2 := kk R' M' hq (by omega) ad' H1 locs1 ls ⟨fun c hc9 => (hag.1 c (by omega)).trans (had.1 c hc9), fun e9 => by
    have e1 : n' = n := by omega
    have e2 : n = n0 := by omega
    rw [hag.2 e1, had.2 e2]⟩ hP1 (hD1.weaken (fun _ _ _ h9 => hF _ h9)) hS1 (by rw [avs_mapL hag.1 L hL]; exact hl)
  rw [avs_map hag.1 S hS9, show n' - n0 + gc = n - n0 + gc + (n' - n) by omega, show cum sh n' - cum sh n0 + gs = cum sh n - cum sh n0 + gs + (cum sh n' - cum sh n) by omega] at k2
  exact k2
theorem cumM_eq : cum shW 245 = cum shW 201 + (cum shM 45 - cum shM 1) := by decide +kernel
theorem sh201 : shW 201 = .inl 10 := rfl
theorem wld_201 {ar : Nat → ClassId} {ad ad2 sad : Nat → Nat} {R0 : Rr} {M : Mm} (h3 : ∀ q, ad2 q = ad (q + 200)) : wld shW ar ad sad 201 (upr R0 201 zr) (upr M 201 z0) = wld shC ar ad sad 200 R0 M ++ (wld shM ar ad2 sad 1 (fun _ => zr) (fun _ => z0) ++ []) := by
  have h0 : wld shW ar ad sad 201 (upr R0 201 zr) (upr M 201 z0) = wld shW ar ad sad 200 (upr R0 201 zr) (upr M 201 z0) ++ [(ad 201, ce shW ar ad sad (upr R0 201 zr) (upr M 201 z0) 201)] := by
    unfold wld
    rw [show (201 : Nat) = 200 + 1 from rfl, List.range_succ, List.map_append]
    rfl
  have h1 : wld shW ar ad sad 200 (upr R0 201 zr) (upr M 201 z0) = wld shC ar ad sad 200 R0 M := by
    unfold wld
    apply List.map_congr_left
    intro i hi
    have := List.mem_range.mp hi
    rw [ce_sh (shW_C (show i + 1 ≤ 200 by omega)), ce_congr (upr_ne (show i + 1 ≠ 201 by omega)).symm (upr_ne (show i + 1 ≠ 201 by omega)).symm (fun _ => rfl) (fun _ _ _ _ => rfl)]
  have h2 : wld shM ar ad2 sad 1 (fun _ => zr) (fun _ => z0) = [(ad2 1, ce shM ar ad2 sad (fun _ => zr) (fun _ => z0) 1)] := rfl
  rw [h0, h1, h2, List.append_nil, ce_obj sh201, fl_zero upr_at upr_at, ce_obj (show shM 1 = .inl 10 from rfl), fl_zero rfl rfl, h3 1]
theorem r_initM {y : MethodName} {cc : ByteArray} {nL : Nat} {ret : Option FieldType} {d n0 n1 : Nat} {Q : Option AV → Rr → Mm → Prop} {K : Nat → Rr → Nat → List (Nat × AV) → List AV → Mm → Prop} {pc : Nat} {L : List (Nat × AV)} {S : List AV} {M : Mm} {idx : Nat} {R0 : Rr} {P : Mm → Prop}
    (h : EK shW y cc nL ret d n0 n1 Q K) (ml : MLI y.cls idx yX12_init cX12_init 1 0) (hB : RB shC 200 R0 M) (hm : MSg shM yX12_init cX12_init 1 none 8 1 45 (fun _ => zr) [vr 1] (fun _ => z0) (QN (fun R' N => R' = RRM ∧ P N))) (hd9 : 9 ≤ d) (hn0 : n0 ≤ 200) (hn1 : 245 ≤ n1) (hL : avs 201 (L.map (fun q => q.2))) (hS9 : avs 201 S) (hs9 : (S.map (fun v => if isl v then 2 else 1)).sum ≤ 8) (hd : decode cc pc = .ok (.invokespecial idx, 3))
    (kk : ∀ N, P N → K 245 (RLB R0) (pc + 3) L S (ML M N z0)) : K 201 (upr R0 201 zr) pc L (vr 201 :: S) (upr M 201 z0) := by
  obtain ⟨p, l, e, s, m, args, below, meth, c, ad0, sad, D, A, ar, xc, xs, gc, gs, Z, hx, hb, hr, hml, hown, hts, hlk, hnm, hK, hSS, hA, ⟨hgc, hgs, hZ⟩, rfl⟩ := h
  intro hn ad H locs ls had hP hD hS hl
  obtain ⟨ad2, h3⟩ : ∃ ad2 : Nat → Nat, ∀ q, ad2 q = ad (q + 200) := ⟨fun q => ad (q + 200), fun _ => rfl⟩
  rw [wld_201 h3] at hP hD
  have hPw := P_left (P_right hP)
  have hDw := D_left (D_right hD)
  have hF := fr_F (D := D) (cl := vwCl) (a := wld shC ar ad sad 200 R0 M) (w := wld shM ar ad2 sad 1 (fun _ => zr) (fun _ => z0)) hD hS hA
  have e1 : ad2 1 = ad 201 := h3 1
  have em := cum_mono (sh := shW) (show n0 ≤ 201 by omega)
  have em2 := cum_mono (sh := shW) hn1
  have ec := cumM_eq
  have run := va_runI (b := ad2 1) (As := []) (rest := S.map (cv ad sad)) (g := F0 m pc ls ((vr 201 :: S).map (cv ad sad))) (below := below) (meth := meth) (e := e) (locs := locs) (cells := 201 - n0 + gc) (slots := cum shW 201 - cum shW n0 + gs) ⟨hx, hb, hml, hown, hts⟩ (hm l ad2 sad D ar H.size) (R := rmx shW d n0 n1 xc xs) ⟨callB2 hts ml.1 hd9, ml.2.1, hts _ ml.2.2⟩
    ⟨PcM_blind (as := [vr 1]), PcM_of (as := [vr 1]) hK hSS hPw hDw hS hF⟩ rfl rfl hl.1 (by rw [e1]; rfl) (lv_room (by rw [cat_sum]; exact hs9)) hd ⟨by show _ ≤ n1 - n0 + xc; omega, by show _ ≤ cum shW n1 - cum shW n0 + xs; omega⟩
  refine w_call2 run hS hF ?_
  intro ad3 r R' N H1 locs1 hq hag hP1 hD1 hk hS1
  obtain ⟨rfl, rfl, hp⟩ := hq
  obtain ⟨hP2, hD2⟩ := fr3 (a := wld shC ar ad sad 200 R0 M) hP hD hP1 hD1 hk hF
  obtain ⟨ad', h4⟩ : ∃ ad' : Nat → Nat, ∀ c, ad' c = if c ≤ 200 then ad c else ad3 (c - 200) := ⟨fun c => if c ≤ 200 then ad c else ad3 (c - 200), fun _ => rfl⟩
  have h5 : ∀ q, ad3 q = ad' (q + 200) := by
    intro q
    rw [h4]
    by_cases hq : q = 0
    · subst hq
      rw [if_pos (by omega), hag.1 0 (by omega), h3]
    · rw [if_neg (by omega), Nat.add_sub_cancel]
  have h6 : ∀ c, c ≤ 200 → ad' c = ad c := fun c hc => by rw [h4, if_pos hc]
  have h7 : ∀ c, c ≤ 201 → ad' c = ad c := by
    intro c hc
    by_cases h : c ≤ 200
    · exact h6 c h
    · have : c = 201 := by omega
      subst this
      rw [← e1, ← hag.1 1 (by omega), h5 1]
  have h8 : wld shC ar ad' sad 200 R0 M = wld shC ar ad sad 200 R0 M := by
    unfold wld
    apply List.map_congr_left
    intro i hi
    have := List.mem_range.mp hi
    have hb9 := hB (i + 1) (by omega) (by omega)
    rw [h6 (i + 1) (by omega), ce_congr rfl rfl (fun k => h6 _ (hb9 k).1) (fun ci k g1 g2 => h6 _ ((hb9 k).2 ⟨ci, g1, g2⟩))]
  have h9 : wld shW ar ad' sad 245 (RLB R0) (ML M N z0) = wld shC ar ad sad 200 R0 M ++ (wld shM ar ad3 sad 45 RRM N ++ []) := by
    rw [wL_eq h5, h8, List.append_nil]
  have k2 := kk N hp (by omega) ad' H1 locs1 ls ⟨fun c hc => (h7 c (by omega)).trans (had.1 c hc), fun z => by omega⟩ (by rw [h9]; exact hP2) (by rw [h9]; exact hD2) hS1 (by rw [avs_mapL h7 L hL]; exact hl)
  rw [avs_map h7 S hS9, show 245 - n0 + gc = 201 - n0 + gc + (45 - 1) by omega, show cum shW 245 - cum shW n0 + gs = cum shW 201 - cum shW n0 + gs + (cum shM 45 - cum shM 1) by omega] at k2
  exact k2
/-- the class's references, none past its cells -/
def RBC : Rr := fun c k => if RRC c k ≤ 200 then RRC c k else 0
def rrB (c : Nat) : Bool := match shC c with
  | .inl ci => (List.range (kd ci).length).all (fun k => decide (RRC c k ≤ 200))
  | .inr q => (q.1 != 4 && q.1 != 5) || (List.range q.2).all (fun j => decide (RRC c j ≤ 200))
theorem rrB_ok : ∀ c, c ≤ 200 → rrB c = true := by decide +kernel
theorem RBC_eq {c : Nat} (hc : c ≤ 200) : (∀ ci, shC c = .inl ci → ∀ k, (kd ci)[k]? = some 2 → RRC c k = RBC c k) ∧ (∀ t len, shC c = .inr (t, len) → t = 4 ∨ t = 5 → ∀ j, j < len → RRC c j = RBC c j) := by
  have h := rrB_ok c hc
  unfold rrB at h
  refine ⟨fun ci e k hk => ?_, fun t len e ht j hj => ?_⟩
  · rw [e] at h
    have := List.all_eq_true.mp h k (List.mem_range.mpr (List.getElem?_eq_some_iff.mp hk).1)
    unfold RBC
    rw [if_pos (of_decide_eq_true this)]
  · rw [e] at h
    simp only [Bool.or_eq_true, Bool.and_eq_true, bne_iff_ne] at h
    rcases h with h | h
    · rcases ht with rfl | rfl
      · exact absurd rfl h.1
      · exact absurd rfl h.2
    · have := List.all_eq_true.mp h j (List.mem_range.mpr hj)
      unfold RBC
      rw [if_pos (of_decide_eq_true this)]
theorem RQ_C : RQ shW 200 RRC RBC := by
  intro c c1 c2
  rw [shW_C c2]
  exact RBC_eq c2
theorem kd_3 : ∀ ci, ci < 11 → ∀ k, k < 62 → (kd ci).getD k 0 = 3 → ci = 9 ∧ (k = 1 ∨ k = 2) := by decide +kernel
theorem sh_9 : ∀ c, c ≤ 200 → shC c = .inl 9 → c = 1 := by decide +kernel
def shB9 (c : Nat) : Bool := match shC c with
  | .inl ci => decide (ci < 11)
  | .inr _ => true
theorem shB9_ok : ∀ c, c ≤ 200 → shB9 c = true := by decide +kernel
theorem kd_len : ∀ ci, ci < 11 → (kd ci).length ≤ 62 := by decide +kernel
theorem getD_out {l : List Nat} {k : Nat} (h : l.length ≤ k) : l.getD k 0 = 0 := by
  rw [List.getD, List.getElem?_eq_none h]; rfl
theorem RB_C {M : Mm} (h1 : M 1 1 = 4) (h2 : M 1 2 = 18) : RB shC 200 RBC M := by
  intro c c1 c2 k
  refine ⟨?_, ?_⟩
  · unfold RBC
    split
    · assumption
    · omega
  · rintro ⟨ci, e1, e2⟩
    have h := shB9_ok c c2
    unfold shB9 at h
    rw [e1] at h
    have hci : ci < 11 := of_decide_eq_true h
    have hk : k < 62 := by
      by_cases hk : k < 62
      · exact hk
      · have := getD_out (l := kd ci) (k := k) (by have := kd_len ci hci; omega)
        omega
    obtain ⟨rfl, hk2⟩ := kd_3 ci hci k hk e2
    have hc := sh_9 c c2 e1
    subst hc
    rcases hk2 with rfl | rfl
    · rw [h1]; decide
    · rw [h2]; decide
theorem RB_L200 {M : Mm} (h : RB shC 200 RBC M) : RB shW 200 RBC M := by
  intro c c1 c2 k
  rw [shW_C c2]
  exact h c c1 c2 k
def rmB (c : Nat) : Bool := match shM c with
  | .inl ci => c == 1 && ci == 10
  | .inr _ => true
theorem rmB_ok : ∀ c, c ≤ 45 → rmB c = true := by decide +kernel
theorem ofs_10 : ∀ k, k < 62 → (ofs 10).getD k 0 ≤ 44 := by decide +kernel
theorem RRM_le {c k : Nat} (hc : c ≤ 45) : RRM c k ≤ 45 := by
  have h := rmB_ok c hc
  unfold rmB at h
  unfold RRM
  split
  · rename_i ci e
    rw [e] at h
    simp only [Bool.and_eq_true, beq_iff_eq] at h
    rw [h.1, h.2]
    by_cases hk : k < 62
    · have := ofs_10 k hk; omega
    · rw [getD_out (by show 62 ≤ k; omega)]; omega
  · omega
theorem RB_245 {R0 : Rr} {M N : Mm} {o : Nat → Int} (h : RB shC 200 R0 M) : RB shW 245 (RLB R0) (ML M N o) := by
  intro c c1 c2 k
  by_cases hc : c ≤ 200
  · rw [shW_C hc, RLB_C hc, ML_C hc]
    obtain ⟨a, b⟩ := h c c1 hc k
    exact ⟨by omega, fun z => by have := b z; omega⟩
  · obtain ⟨q, rfl⟩ : ∃ q, c = q + 200 := ⟨c - 200, by omega⟩
    rw [shW_M (by omega) (by omega), RLB_M (by omega) (by omega), ML_M (by omega) (by omega)]
    have h1 := RRM_le (c := q) (k := k) (by omega)
    refine ⟨?_, ?_⟩
    · split <;> omega
    · rintro ⟨ci, e1, e2⟩
      have h2 := rmB_ok q (by omega)
      unfold rmB at h2
      rw [e1] at h2
      simp only [Bool.and_eq_true, beq_iff_eq] at h2
      rw [h2.2] at e2
      by_cases hk : k < 62
      · exact absurd e2 (kd10_3 k hk)
      · rw [getD_out (by show 62 ≤ k; omega)] at e2; omega
theorem RQ_L : RQ shW 246 (upr (RLB RBC) 246 zr) RRL := by
  intro c c1 c2
  by_cases hc : c ≤ 200
  · have e1 : upr (RLB RBC) 246 zr c = RBC c := by rw [← upr_ne (by omega), RLB_C hc]
    have e2 : RRL c = RRC c := RLB_C hc
    rw [shW_C hc, e1, e2]
    obtain ⟨a, b⟩ := RBC_eq hc
    exact ⟨fun ci e k hk => (a ci e k hk).symm, fun t len e ht j hj => (b t len e ht j hj).symm⟩
  · by_cases h6 : c = 246
    · subst h6
      refine ⟨fun ci e => ?_, fun t len e ht j hj => ?_⟩
      · have e' : (Sum.inr (1, 1) : Nat ⊕ (Nat × Nat)) = .inl ci := e
        cases e'
      · have e' : (Sum.inr (1, 1) : Nat ⊕ (Nat × Nat)) = .inr (t, len) := e
        cases e'
        omega
    · have e1 : upr (RLB RBC) 246 zr c = RRL c := by
        rw [← upr_ne h6]
        show RLB RBC c = RLB RRC c
        unfold RLB
        rw [if_neg hc, if_neg hc]
      rw [e1]
      exact ⟨fun _ _ _ _ => rfl, fun _ _ _ _ _ _ => rfl⟩
theorem ML_up {M N : Mm} {o v : Nat → Int} : upr (ML M N o) 246 v = ML M N v := by
  funext c
  rw [upr_eq]
  by_cases h : c = 246
  · subst h; rw [if_pos rfl, ML_o]
  · rw [if_neg h]
    unfold ML
    by_cases h1 : c ≤ 200
    · rw [if_pos h1, if_pos h1]
    · rw [if_neg h1, if_neg h1]
      by_cases h2 : c ≤ 245
      · rw [if_pos h2, if_pos h2]
      · rw [if_neg h2, if_neg h2, if_neg h, if_neg h]
