/-- the class's memory as its constructor leaves it -/
def MC0 (M' : Mm) : Prop := ∃ M : Mm, (M 1 = GMM ∧ ∀ c, 2 ≤ c → c ≤ 200 → M c = MTM c) ∧ RS (dn D0) (sD D0) M' 36 ∧ RS (dn D0) (sD D0) M' 42 ∧ (M' 47 3 = 0 ∧ M' 41 4 = 0 ∧ M' 41 5 = -1) ∧ ∀ c, ¬ (36 ≤ c ∧ c ≤ 40) → ¬ (41 ≤ c ∧ c ≤ 52) → M' c = M c
theorem MTT_4 {M : Mm} {b : Nat} (hb : b = 4 ∨ b = 18) (h : ∀ c, 2 ≤ c → c ≤ 200 → M c = MTM c) : DC D0 b M := by
  have key : ∀ j, j ≤ 13 → M (b + j) = MTT b (b + j) := fun j hj => by
    rw [h (b + j) (by omega) (by omega)]
    exact (MTM_t hb (by omega) (by omega)).symm
  have k0 : M b = GT := by rw [show M b = M (b + 0) from rfl, key 0 (by omega)]; exact if_pos rfl
  have k7 : M (b + 7) = up1 z0 0 1 := by rw [key 7 (by omega)]; unfold MTT; rw [if_neg (by omega), if_pos rfl]
  have k8 : M (b + 8) = z0 := by rw [key 8 (by omega)]; unfold MTT; rw [if_neg (by omega), if_neg (by omega), if_neg (by omega)]
  have k11 : M (b + 11) = up1 z0 0 1 := by rw [key 11 (by omega)]; unfold MTT; rw [if_neg (by omega), if_neg (by omega), if_pos rfl]
  refine ⟨⟨by rw [k0]; rfl, by rw [k0]; rfl, by rw [k0]; rfl, by rw [k0]; rfl, by rw [k0]; rfl⟩, fun h hh => absurd hh (Nat.not_lt_zero _), ⟨fun _ => by rw [k7]; rfl, fun i hi => absurd hi (Nat.not_lt_zero _)⟩, ?_, ?_, by rw [k8], by rw [k11]; rfl⟩
  · exact ⟨fun _ => by rw [k8], fun x e => by cases e⟩
  · exact ⟨fun _ => by rw [k11]; rfl, fun x e => by cases e⟩
set_option maxHeartbeats 2000000 in
set_option maxRecDepth 100000 in
theorem iM_199 {K : Nat → Rr → Nat → List (Nat × AV) → List AV → Mm → Prop} {M : Mm} (hO : EKO shC yX11_init cX11_init 2 none 12 1 200 (QN (fun R' M' => R' = RRC ∧ MC0 M')) K) (h1 : M 1 = GMM) (h2 : ∀ c, 2 ≤ c → c ≤ 200 → M c = MTM c) : K 200 RRC 199 [(0, vr 1)] [] M := by
  have h := hO.ek
  refine r_aloadn h (q := 0) 0 rfl (by decide +kernel : decode cX11_init 199 = .ok (.aload_n 0, 1)) ?_
  refine r_getR h (r := 36) f_Main_36 at1C rfl (by omega) (by decide +kernel : decode cX11_init 200 = .ok (.getfield 36, 3)) ?_
  refine r_aloadn h (q := 0) 0 rfl (by decide +kernel : decode cX11_init 203 = .ok (.aload_n 0, 1)) ?_
  refine r_getM h (r := 4) f_Main_19 at1C (by rw [h1]; rfl) (by omega) (by decide +kernel : decode cX11_init 204 = .ok (.getfield 19, 3)) ?_
  refine r_callV h (as := [vr 4]) (S := []) (b := 36) m_Main_87 (c_SbeginAs (tx := (fun _ => 0, 0)) atC_4 (WD0 _) (MTT_4 (Or.inl rfl) h2)) (by decide) (Nat.le_refl _) rfl ⟨rfl, by decide, by decide⟩ rfl (Nat.le_of_ble_eq_true rfl) (by decide +kernel : decode cX11_init 207 = .ok (.invokevirtual 87, 3)) ?_
  rintro _ _ M1 ⟨rfl, rfl, a1, a2⟩
  show K 200 RRC 210 [(0, vr 1)] [] M1
  refine r_aloadn h (q := 0) 0 rfl (by decide +kernel : decode cX11_init 210 = .ok (.aload_n 0, 1)) ?_
  refine r_getR h (r := 41) f_Main_43 at1C rfl (by omega) (by decide +kernel : decode cX11_init 211 = .ok (.getfield 43, 3)) ?_
  refine r_aloadn h (q := 0) 0 rfl (by decide +kernel : decode cX11_init 214 = .ok (.aload_n 0, 1)) ?_
  refine r_getR h (r := 36) f_Main_36 at1C rfl (by omega) (by decide +kernel : decode cX11_init 215 = .ok (.getfield 36, 3)) ?_
  refine r_callV h (as := [vr 36]) (S := []) (b := 41) m_Main_91 (c_beginAs (by decide) a1) (by decide) (Nat.le_refl _) rfl ⟨rfl, by decide, by decide⟩ rfl (Nat.le_of_ble_eq_true rfl) (by decide +kernel : decode cX11_init 218 = .ok (.invokevirtual 91, 3)) ?_
  rintro _ _ M2 ⟨rfl, rfl, b1, b2, b3, b4, b5⟩
  show K 200 RRC 221 [(0, vr 1)] [] M2
  refine r_vret h rfl (by decide +kernel : decode cX11_init 221 = .ok (.return_, 1)) rfl ⟨rfl, rfl, M, ⟨h1, h2⟩, a1.fr (fun i hi => b5 _ (by omega)), b1, ⟨b2, b3, b4⟩, fun c c1 c2 => (b5 c c2).trans (a2 c c1)⟩
def akB (c : Nat) : Bool := match shC c with
  | .inl _ => true
  | .inr q => (q.1 != 4 || (c == 58 && q.2 == 4)) && (q.1 != 5 || (c == 60 && q.2 == 16))
theorem akB_ok : ∀ c, c ≤ 200 → akB c = true := by decide +kernel
theorem at_key2 {c : Nat} {q : Nat × Nat} (hc : c ≤ 200) (e : shC c = .inr q) : (q.1 = 4 → c = 58 ∧ q.2 = 4) ∧ (q.1 = 5 → c = 60 ∧ q.2 = 16) := by
  have h := akB_ok c hc
  unfold akB at h
  rw [e] at h
  simp only [Bool.and_eq_true, Bool.or_eq_true, bne_iff_ne, beq_iff_eq] at h
  refine ⟨fun z => ?_, fun z => ?_⟩
  · rcases h.1 with a | a
    · exact absurd z a
    · exact a
  · rcases h.2 with a | a
    · exact absurd z a
    · exact a
theorem k2_9 : ∀ k, k < 16 → (kd 9)[k]? = some 2 → FMM k = RRC 1 k := by decide +kernel
set_option maxHeartbeats 2000000 in
set_option maxRecDepth 100000 in
theorem i_Main {R : Rr} {M : Mm} (hR : R 1 = zr) (hM : M 1 = z0) (hB : RB shC 1 R M) : MSo shC yX11_init cX11_init 2 none 12 1 200 R [vr 1] M (QN (fun R' M' => R' = RRC ∧ MC0 M')) := by
  refine MSo_of (by decide +kernel) (Nat.le_of_ble_eq_true rfl) fun K hO => ?_
  have h := hO.ek
  show K 1 R 0 [(0, vr 1)] [] M
  refine iM_0 hO hR hM hB (fun R1 M1 hD1 z58 z60 => ?_)
  refine r_iconst h (v := 0) (by decide +kernel : decode cX11_init 146 = .ok (.iconst 0, 1)) ?_
  refine r_istoren h (q := 1) (L' := [(1, vi 0), (0, vr 1)]) (by decide) rfl (by decide +kernel : decode cX11_init 147 = .ok (.istore_n 1, 1)) ?_
  refine r_drop h [1, 0] rfl ?_
  refine iM_148 hO (fun R2 M2 hD2 h58 z60 => ?_) 0 (by omega) R1 M1 hD1 (fun j hj => absurd hj (Nat.not_lt_zero _)) z60
  refine r_iconst h (v := 0) (by decide +kernel : decode cX11_init 172 = .ok (.iconst 0, 1)) ?_
  refine r_istoren h (q := 1) (L' := [(1, vi 0), (0, vr 1)]) (by decide) rfl (by decide +kernel : decode cX11_init 173 = .ok (.istore_n 1, 1)) ?_
  refine r_drop h [1, 0] rfl ?_
  refine iM_174 hO (fun R3 M3 hD3 h60 h58 => ?_) 0 (by omega) R2 M2 hD2 (fun j hj => absurd hj (Nat.not_lt_zero _)) h58
  obtain ⟨-, ⟨hF, hG⟩, hE, -⟩ := hD3
  refine r_RQ h (R' := RRC) (fun c c1 c2 => ⟨fun ci e k hk => ?_, fun t len e ht j hj => ?_⟩) (iM_199 hO hG (fun c c1 c2 => (hE c (by omega) c2).2))
  · by_cases e1 : c = 1
    · subst e1
      have e' : (Sum.inl 9 : Nat ⊕ (Nat × Nat)) = .inl ci := e
      cases e'
      rw [hF]
      exact k2_9 k (List.getElem?_eq_some_iff.mp hk).1 hk
    · exact (hE c (by omega) c2).1 ci e k hk
  · obtain ⟨k4, k5⟩ := at_key2 c2 e
    rcases ht with rfl | rfl
    · obtain ⟨rfl, h9⟩ := k4 rfl
      have hj4 : j < 4 := by have h9 : len = 4 := h9; omega
      exact h58 j hj4
    · obtain ⟨rfl, h9⟩ := k5 rfl
      have hj16 : j < 16 := by have h9 : len = 16 := h9; omega
      exact h60 j hj16
