abbrev z0 : Nat → Int := fun _ => 0
abbrev zr : Nat → Nat := fun _ => 0
/-- no reference points past n -/
def RB (sh : Sh) (n : Nat) (R : Rr) (M : Mm) : Prop := ∀ c, 1 ≤ c → c ≤ n → ∀ k, R c k ≤ n ∧ ((∃ ci, sh c = .inl ci ∧ (kd ci).getD k 0 = 3) → (M c k).toNat ≤ n)
theorem RB.new {sh : Sh} {n : Nat} {R : Rr} {M : Mm} (h : RB sh n R M) : RB sh (n + 1) (upr R (n + 1) zr) (upr M (n + 1) z0) := by
  intro c h1 h2 k
  by_cases e : c = n + 1
  · subst e
    rw [upr_at, upr_at]
    exact ⟨Nat.zero_le _, fun _ => Nat.zero_le _⟩
  · rw [← upr_ne e, ← upr_ne e]
    obtain ⟨a, b⟩ := h c h1 (by omega) k
    exact ⟨by omega, fun z => by have := b z; omega⟩
theorem RB.putR {sh : Sh} {n b k r : Nat} {R : Rr} {M : Mm} (h : RB sh n R M) (hr : r ≤ n) : RB sh n (upr R b (up1 (R b) k r)) M := by
  intro c h1 h2 j
  obtain ⟨a, b'⟩ := h c h1 h2 j
  refine ⟨?_, b'⟩
  by_cases e : c = b
  · subst e
    rw [upr_at]
    show (if j = k then r else R c j) ≤ n
    split <;> assumption
  · rw [← upr_ne e]; exact a
theorem RB.putI {sh : Sh} {n b k : Nat} {v : Int} {R : Rr} {M : Mm} (h : RB sh n R M) (hv : v.toNat ≤ n ∨ ∀ ci, sh b = .inl ci → (kd ci).getD k 0 ≠ 3) : RB sh n R (upr M b (up1 (M b) k v)) := by
  intro c h1 h2 j
  obtain ⟨a, b'⟩ := h c h1 h2 j
  refine ⟨a, fun z => ?_⟩
  by_cases e : c = b
  · subst e
    rw [upr_at]
    show (if j = k then v else M c j).toNat ≤ n
    split
    · rename_i ek
      subst ek
      rcases hv with hv | hv
      · exact hv
      · obtain ⟨ci, z1, z2⟩ := z
        exact absurd z2 (hv ci z1)
    · exact b' z
  · rw [← upr_ne e]; exact b' z
theorem up1_ne {α : Type} {f : Nat → α} {k j : Nat} {v : α} (h : j ≠ k) : up1 f k v j = f j := by simp [up1, h]
theorem up1_at {α : Type} {f : Nat → α} {k : Nat} {v : α} : up1 f k v k = v := by simp [up1]
theorem wld_push {sh : Sh} {ar : Nat → ClassId} {ad sad : Nat → Nat} {n q : Nat} {R : Rr} {M : Mm} (hB : RB sh n R M) : wld sh ar ad sad n R M ++ [(q, ce sh ar (up1 ad (n + 1) q) sad (upr R (n + 1) zr) (upr M (n + 1) z0) (n + 1))] = wld sh ar (up1 ad (n + 1) q) sad (n + 1) (upr R (n + 1) zr) (upr M (n + 1) z0) := by
  unfold wld
  rw [List.range_succ, List.map_append]
  congr 1
  · apply List.map_congr_left
    intro i hi
    have hi' : i < n := List.mem_range.mp hi
    have e1 : up1 ad (n + 1) q (i + 1) = ad (i + 1) := up1_ne (by omega)
    have hb := hB (i + 1) (by omega) (by omega)
    have e2 : ce sh ar ad sad R M (i + 1) = ce sh ar (up1 ad (n + 1) q) sad (upr R (n + 1) zr) (upr M (n + 1) z0) (i + 1) := ce_congr (upr_ne (show i + 1 ≠ n + 1 by omega)) (upr_ne (show i + 1 ≠ n + 1 by omega)) (fun k => (up1_ne (show R (i + 1) k ≠ n + 1 by have := (hb k).1; omega)).symm) (fun ci k h1 h2 => (up1_ne (show (M (i + 1) k).toNat ≠ n + 1 by have := (hb k).2 ⟨ci, h1, h2⟩; omega)).symm)
    rw [e1, e2]
  · simp [up1]
def zv (t : Nat) : Value := match t with
  | 1 => .long (Int64.ofInt 0)
  | 2 => .null
  | 3 => .null
  | 4 => .null
  | _ => .int (Int32.ofInt 0)
theorem fv_zero {ad sad : Nat → Nat} {R : Rr} {M : Mm} {c k t : Nat} (hR : R c = zr) (hM : M c = z0) : fv ad sad R M c k t = zv t := by
  have e1 : M c k = 0 := by rw [hM]
  have e2 : R c k = 0 := by rw [hR]
  unfold fv zv rv
  split <;> simp [e1, e2]
theorem fl_zero {ad sad : Nat → Nat} {R : Rr} {M : Mm} {c ci : Nat} (hR : R c = zr) (hM : M c = z0) : fl ad sad R M c ci = (kd ci).map zv := by
  apply List.ext_getElem?
  intro i
  by_cases hi : i < (kd ci).length
  · rw [fl_get (List.getElem?_eq_getElem hi), fv_zero hR hM, List.getElem?_map, List.getElem?_eq_getElem hi]
    rfl
  · rw [List.getElem?_eq_none (by rw [fl_len]; omega), List.getElem?_eq_none (by simp; omega)]
/-- an object of the class ci can be made in the class own -/
def NW (own : String) (idx ci : Nat) : Prop := CI ci ∧ Cond.classLink own idx (ctN ci).1 ∈ TB ∧ Cond.instantiable (ctN ci).1 (ctN ci).2.2.1 ∈ TB ∧ Cond.initialized (ctN ci).1 ∈ TB ∧ ∀ j, j < (ctN ci).2.2.1 → defaultValue ((ctN ci).2.2.2 j) = vp_V ((kd ci).map zv) j
/-- all references among these values are of cells up to n -/
def avs (n : Nat) : List AV → Prop
  | [] => True
  | .inr (.inr (.inl r)) :: l => r ≤ n ∧ avs n l
  | _ :: l => avs n l
theorem avs_map {n : Nat} {ad ad' sad : Nat → Nat} (h : ∀ c, c ≤ n → ad' c = ad c) : ∀ (l : List AV), avs n l → l.map (cv ad' sad) = l.map (cv ad sad)
  | [], _ => rfl
  | .inl x :: l, z => by rw [List.map_cons, List.map_cons, avs_map h l z]; rfl
  | .inr (.inl x) :: l, z => by rw [List.map_cons, List.map_cons, avs_map h l z]; rfl
  | .inr (.inr (.inl r)) :: l, z => by
    rw [List.map_cons, List.map_cons, avs_map h l z.2]
    show Value.ref (ad' r) :: _ = Value.ref (ad r) :: _
    rw [h r z.1]
  | .inr (.inr (.inr k)) :: l, z => by rw [List.map_cons, List.map_cons, avs_map h l z]; rfl
theorem avs_mapL {n : Nat} {ad ad' sad : Nat → Nat} (h : ∀ c, c ≤ n → ad' c = ad c) (L : List (Nat × AV)) (z : avs n (L.map (fun q => q.2))) : L.map (fun q => (q.1, cv ad' sad q.2)) = L.map (fun q => (q.1, cv ad sad q.2)) := by
  apply List.map_congr_left
  intro q hq
  have h1 := avs_map (sad := sad) h _ z
  rw [List.map_map, List.map_map] at h1
  have h2 := List.map_inj_left.mp h1 q hq
  have h3 : cv ad' sad q.2 = cv ad sad q.2 := h2
  rw [h3]
section ROWS
variable {sh : Sh} {y : MethodName} {cc : ByteArray} {nL : Nat} {ret : Option FieldType} {d n0 n1 : Nat} {Q : Option AV → Rr → Mm → Prop} {K : Nat → Rr → Nat → List (Nat × AV) → List AV → Mm → Prop} {n : Nat} {R : Rr} {pc : Nat} {L : List (Nat × AV)} {S : List AV} {M : Mm}
theorem r_objInit (h : EK sh y cc nL ret d n0 n1 Q K) {idx b : Nat} (hm : Cond.methodLink y.cls idx Lib.objectInit ∈ TB ∧ Cond.instanceMethod Lib.objectInit ∈ TB ∧ Cond.code Lib.objectInit ⟨#[0xb1]⟩ 1 none ∈ TB) (hd0 : 1 ≤ d) (hs9 : (S.map (fun v => if isl v then 2 else 1)).sum ≤ 8) (hd : decode cc pc = .ok (.invokespecial idx, 3)) (kk : K n R (pc + 3) L S M) : K n R pc L (vr b :: S) M := by
  obtain ⟨p, l, e, s, m, args, below, meth, c, ad0, sad, D, A, ar, xc, xs, gc, gs, Z, hx, hb, hr, hml, hown, hts, hlk, hnm, hK, hSS, hA, ⟨hgc, hgs, hZ⟩, rfl⟩ := h
  intro hn ad H locs ls had hP hD hS hl
  refine W.objInit hx hb hown (hts _ hm.1) (hts _ hm.2.1) (hts _ hm.2.2) rfl (by rw [hml]; exact hl.1) rfl hd (show 1 ≤ d from hd0) ?_ (kk hn ad H locs ls had hP hD hS hl)
  show 2 * 0 + _ + 12 ≤ 64 * d
  have := cat_sum ad sad S
  omega
theorem r_new (h : EK sh y cc nL ret d n0 n1 Q K) {idx ci : Nat} (hB : RB sh n R M) (hc : NW y.cls idx ci) (hsh : sh (n + 1) = .inl ci) (hn1 : n + 1 ≤ n1) (hL : avs n (L.map (fun q => q.2))) (hS9 : avs n S) (hd : decode cc pc = .ok (.new idx, 3)) (kk : RB sh (n + 1) (upr R (n + 1) zr) (upr M (n + 1) z0) → K (n + 1) (upr R (n + 1) zr) (pc + 3) L (vr (n + 1) :: S) (upr M (n + 1) z0)) : K n R pc L S M := by
  obtain ⟨p, l, e, s, m, args, below, meth, c, ad0, sad, D, A, ar, xc, xs, gc, gs, Z, hx, hb, hr, hml, hown, hts, hlk, hnm, hK, hSS, hA, ⟨hgc, hgs, hZ⟩, rfl⟩ := h
  intro hn ad H locs ls had hP hD hS hl
  have ecs : cum sh (n + 1) = cum sh n + (ctN ci).2.2.1 := by
    show cum sh n + csz sh (n + 1) = _
    unfold csz
    rw [hsh]
    show cum sh n + (kd ci).length = _
    rw [hc.1.2.1]
  have em := cum_mono (sh := sh) hn
  have em1 := cum_mono (sh := sh) hn1
  refine va_new (C := (ctN ci).1) (T := (ctN ci).2.1) (N := (ctN ci).2.2.1) (fs := (kd ci).map zv) hx hb hts hc.1.2.2.1 (ctN ci).2.2.2 hc.1.2.2.2.1 hown (hts _ hc.2.1) (hts _ hc.2.2.1) (hts _ hc.2.2.2.1) hK hP hD hS hA hc.1.1 hc.2.2.2.2 (by show _ ≤ n1 - n0 + xc; omega) (by show _ ≤ cum sh n1 - cum sh n0 + xs; omega) hd ?_
  intro q H1 hP1 hD1 hS1
  have e9 : ((q, .inr (ci, (kd ci).map zv)) : Nat × va_E) = (q, ce sh ar (up1 ad (n + 1) q) sad (upr R (n + 1) zr) (upr M (n + 1) z0) (n + 1)) := by
    rw [ce_obj hsh, fl_zero upr_at upr_at]
  rw [e9, wld_push hB] at hP1 hD1
  have hag : ∀ c, c ≤ n → up1 ad (n + 1) q c = ad c := fun c hc9 => up1_ne (by omega)
  have k2 := kk hB.new (by omega) (up1 ad (n + 1) q) H1 locs ls ⟨fun c hc9 => (hag c (by omega)).trans (had.1 c hc9), fun e9 => by omega⟩ hP1 hD1 hS1 (by rw [avs_mapL hag L hL]; exact hl)
  rw [List.map_cons, avs_map hag S hS9, show cv (up1 ad (n + 1) q) sad (vr (n + 1)) = .ref q by show Value.ref (up1 ad (n + 1) q (n + 1)) = _; rw [up1_at], ecs, show n + 1 - n0 + gc = n - n0 + gc + 1 by omega, show cum sh n + (ctN ci).2.2.1 - cum sh n0 + gs = cum sh n - cum sh n0 + gs + (ctN ci).2.2.1 by omega] at k2
  exact k2
/-- a new row of numbers: t its kind, z its zeros -/
theorem r_newa (h : EK sh y cc nL ret d n0 n1 Q K) {t N : Nat} {at9 : ArrayType} {ty : FieldType} {z : (Nat → Int32) ⊕ (Nat → Int64) ⊕ (Nat → UInt32) ⊕ (Nat → UInt64) ⊕ (Nat → Option Nat)} (hB : RB sh n R M) (hty : Op.newarray.typeOf at9 = ty) (harr : Cond.arrayClass ty ∈ TB) (htl : ∀ ar : Nat → ClassId, (tysL ar)[t]? = some (ar t, ty)) (hz : ∀ (ad : Nat → Nat) (R : Rr) (M : Mm) (c : Nat), R c = zr → M c = z0 → pay ad R M c t = z) (ha : ∀ cA : ClassId, vp_cell cA (N, z) = arrV cA N (fun _ => defaultValue ty)) (hra : ∀ (U : State) (c1 c2 : ClassId), va_RA U c1 ty → va_RA U c2 ty → c1 = c2)
    (hsh : sh (n + 1) = .inr (t, N)) (hN : N < 60000000) (hcb : componentBytes ty ≤ 8) (hn1 : n + 1 ≤ n1) (hL : avs n (L.map (fun q => q.2))) (hS9 : avs n S) (hd : decode cc pc = .ok (.newarray at9, 2)) (kk : RB sh (n + 1) (upr R (n + 1) zr) (upr M (n + 1) z0) → K (n + 1) (upr R (n + 1) zr) (pc + 2) L (vr (n + 1) :: S) (upr M (n + 1) z0)) : K n R pc L (vi (N : Int) :: S) M := by
  obtain ⟨p, l, e, s, m, args, below, meth, c, ad0, sad, D, A, ar, xc, xs, gc, gs, Z, hx, hb, hr, hml, hown, hts, hlk, hnm, hK, hSS, hA, ⟨hgc, hgs, hZ⟩, rfl⟩ := h
  intro hn ad H locs ls had hP hD hS hl
  have ecs : cum sh (n + 1) = cum sh n + N := by
    show cum sh n + csz sh (n + 1) = _
    unfold csz
    rw [hsh]
  have em := cum_mono (sh := sh) hn
  have em1 := cum_mono (sh := sh) hn1
  have hNi : (Int32.ofInt (N : Int)).toNatClampNeg = N := by
    show (Int32.ofInt (N : Int)).toInt.toNat = N
    rw [oI ⟨by omega, by omega⟩]; rfl
  refine va_newa (ty := ty) (N' := N) (a0 := (N, z)) hx hb (by rw [hty]; exact hts _ harr) hty hK hP hD hS hA ha ?_ hNi ?_ (by show _ ≤ n1 - n0 + xc; omega) (by show _ ≤ cum sh n1 - cum sh n0 + xs; omega) hd ?_
  · intro q9
    have := (i32_lt (x := (N : Int)) (z := 0) ⟨by omega, by omega⟩ (by decide)).mp q9
    omega
  · have := Nat.mul_le_mul (Nat.le_of_lt hN) hcb
    omega
  intro q cA H1 hK1 hP1 hD1 hS1
  have hl6 : (tysL ar).length = 6 := rfl
  have hcA : cA = ar t := by
    refine hra s cA (ar t) ?_ (hK.2 t _ (htl ar)).2
    exact (hK1.2 6 (cA, ty) (by rw [List.getElem?_append_right (by rw [hl6]; exact Nat.le_refl _), hl6]; rfl)).2
  subst hcA
  have e9 : ((q, .inl (ar t, (N, z))) : Nat × va_E) = (q, ce sh ar (up1 ad (n + 1) q) sad (upr R (n + 1) zr) (upr M (n + 1) z0) (n + 1)) := by
    rw [ce_arr hsh, hz _ _ _ _ upr_at upr_at]
  rw [e9, wld_push hB] at hP1 hD1
  have hag : ∀ c, c ≤ n → up1 ad (n + 1) q c = ad c := fun c hc9 => up1_ne (by omega)
  have k2 := kk hB.new (by omega) (up1 ad (n + 1) q) H1 locs ls ⟨fun c hc9 => (hag c (by omega)).trans (had.1 c hc9), fun e9 => by omega⟩ hP1 hD1 hS1 (by rw [avs_mapL hag L hL]; exact hl)
  rw [List.map_cons, avs_map hag S hS9, show cv (up1 ad (n + 1) q) sad (vr (n + 1)) = .ref q by show Value.ref (up1 ad (n + 1) q (n + 1)) = _; rw [up1_at], ecs, show n + 1 - n0 + gc = n - n0 + gc + 1 by omega, show cum sh n + N - cum sh n0 + gs = cum sh n - cum sh n0 + gs + N by omega] at k2
  exact k2
end ROWS
def MLI (own : String) (idx : Nat) (y' : MethodName) (cc' : ByteArray) (nL' na : Nat) : Prop := MLB own idx y' cc' nL' none na ∧ y'.name = "<init>" ∧ Cond.instanceMethod y' ∈ TB
theorem r_init {sh : Sh} {y : MethodName} {cc : ByteArray} {nL : Nat} {ret : Option FieldType} {d n0 n1 : Nat} {Q : Option AV → Rr → Mm → Prop} {K : Nat → Rr → Nat → List (Nat × AV) → List AV → Mm → Prop} {n : Nat} {R : Rr} {pc : Nat} {L : List (Nat × AV)} {S S0 : List AV} {M : Mm} {y' : MethodName} {cc' : ByteArray} {nL' : Nat} {idx na d' b n' : Nat} {as : List AV} {Q' : Option AV → Rr → Mm → Prop}
    (h : EK sh y cc nL ret d n0 n1 Q K) (ml : MLI y.cls idx y' cc' nL' na) (hm : MSg sh y' cc' nL' none d' n n' R (vr b :: as) M Q') (hd9 : d' + 1 ≤ d) (hnn : n ≤ n') (hn1 : n' ≤ n1) (hlen : as.length = na) (hst : S0 = as.reverse ++ vr b :: S) (hL : avs n (L.map (fun q => q.2))) (hS9 : avs n S) (hs9 : (S.map (fun v => if isl v then 2 else 1)).sum ≤ 8) (hd : decode cc pc = .ok (.invokespecial idx, 3)) (hrn : ∀ r R' M', Q' r R' M' → r = none)
    (kk : ∀ R' M', Q' none R' M' → K n' R' (pc + 3) L S M') : K n R pc L S0 M := by
  obtain ⟨p, l, e, s, m, args, below, meth, c, ad0, sad, D, A, ar, xc, xs, gc, gs, Z, hx, hb, hr, hml, hown, hts, hlk, hnm, hK, hSS, hA, ⟨hgc, hgs, hZ⟩, rfl⟩ := h
  intro hn ad H locs ls had hP hD hS hl
  subst hst
  have hF := va_A_sub hD hS hA
  have em := cum_mono (sh := sh) hn
  have em1 := cum_mono (sh := sh) hnn
  have em2 := cum_mono (sh := sh) hn1
  have run := va_runI (b := ad b) (As := as.map (cv ad sad)) (rest := S.map (cv ad sad)) (g := F0 m pc ls ((as.reverse ++ vr b :: S).map (cv ad sad))) (below := below) (meth := meth) (e := e) (locs := locs) (cells := n - n0 + gc) (slots := cum sh n - cum sh n0 + gs) ⟨hx, hb, hml, hown, hts⟩ (hm l ad sad D ar H.size) (R := rmx sh d n0 n1 xc xs) ⟨callB_TB hts ml.1 hd9, ml.2.1, hts _ ml.2.2⟩
    ⟨PcM_blind (as := vr b :: as), PcM_of (as := vr b :: as) hK hSS hP hD hS hF⟩ rfl (by rw [List.length_map]; exact hlen) hl.1 (by simp [cv, List.map_reverse]) (lv_room (by rw [cat_sum]; exact hs9)) hd ⟨by show _ ≤ n1 - n0 + xc; omega, by show _ ≤ cum sh n1 - cum sh n0 + xs; omega⟩
  refine w_call run hS hF ?_
  intro ad' r R' M' H1 locs1 hq hag hP1 hD1 hS1
  obtain rfl := hrn r R' M' hq
  have k2 := kk R' M' hq (by omega) ad' H1 locs1 ls ⟨fun c hc9 => (hag.1 c (by omega)).trans (had.1 c hc9), fun e9 => by
    have e1 : n' = n := by omega
    have e2 : n = n0 := by omega
    rw [hag.2 e1, had.2 e2]⟩ hP1 (hD1.weaken (fun _ _ _ h9 => hF _ h9)) hS1 (by rw [avs_mapL hag.1 L hL]; exact hl)
  rw [avs_map hag.1 S hS9, show n' - n0 + gc = n - n0 + gc + (n' - n) by omega, show cum sh n' - cum sh n0 + gs = cum sh n - cum sh n0 + gs + (cum sh n' - cum sh n) by omega] at k2
  exact k2
/-- what of the references the world shows -/
def RQ (sh : Sh) (n : Nat) (R R' : Rr) : Prop := ∀ c, 1 ≤ c → c ≤ n → (∀ ci, sh c = .inl ci → ∀ k, (kd ci)[k]? = some 2 → R c k = R' c k) ∧ (∀ t len, sh c = .inr (t, len) → t = 4 ∨ t = 5 → ∀ j, j < len → R c j = R' c j)
theorem arrV_cg {cI : ClassId} {N : Nat} {f g : Nat → Value} (h : ∀ j, j < N → f j = g j) : arrV cI N f = arrV cI N g := by
  have e : (Array.ofFn (n := N) fun j => f j.val) = Array.ofFn (n := N) fun j => g j.val := by
    congr 1
    funext j
    exact h j.val j.isLt
  unfold arrV
  rw [e]
theorem ce_RQ {sh : Sh} {n : Nat} {R R' : Rr} {D : va_G} {ar : Nat → ClassId} {ad sad : Nat → Nat} {M : Mm} {H : Heap} {c a : Nat} (h : RQ sh n R R') (h1 : 1 ≤ c) (h2 : c ≤ n) (k : va_at D vwCl (a, ce sh ar ad sad R M c) H) : va_at D vwCl (a, ce sh ar ad sad R' M c) H := by
  obtain ⟨a1, a2⟩ := h c h1 h2
  cases e : sh c with
  | inl ci =>
    rw [ce_obj e] at k ⊢
    have e9 : fl ad sad R M c ci = fl ad sad R' M c ci := by
      apply List.ext_getElem?
      intro i
      by_cases hi : i < (kd ci).length
      · have hg : (kd ci)[i]? = some (kd ci)[i] := List.getElem?_eq_getElem hi
        rw [fl_get hg, fl_get hg]
        by_cases h9 : (kd ci)[i] = 2
        · have := a1 ci e i (by rw [hg, h9])
          unfold fv
          rw [this]
        · generalize (kd ci)[i] = t at h9
          unfold fv
          split <;> first | rfl | exact absurd rfl h9
      · rw [List.getElem?_eq_none (by rw [fl_len]; omega), List.getElem?_eq_none (by rw [fl_len]; omega)]
    rw [← e9]; exact k
  | inr q =>
    obtain ⟨t, len⟩ := q
    rw [ce_arr e] at k ⊢
    by_cases h9 : t = 4 ∨ t = 5
    · have e9 : vp_cell (ar t) (len, pay ad R M c t) = vp_cell (ar t) (len, pay ad R' M c t) := by
        have := a2 t len e h9
        rcases h9 with rfl | rfl
        · exact arrV_cg (fun j hj => by show va_rf (ro ad (R c j)) = va_rf (ro ad (R' c j)); rw [this j hj])
        · exact arrV_cg (fun j hj => by show va_rf (ro ad (R c j)) = va_rf (ro ad (R' c j)); rw [this j hj])
      have k' : H[a]? = some (vp_cell (ar t) (len, pay ad R M c t)) := k
      show H[a]? = some (vp_cell (ar t) (len, pay ad R' M c t))
      rw [← e9]; exact k'
    · have e9 : pay ad R M c t = pay ad R' M c t := by
        unfold pay
        split
        · rfl
        · exact absurd (Or.inl rfl) h9
        · exact absurd (Or.inr rfl) h9
        · rfl
      rw [← e9]; exact k
theorem wld_getD {sh : Sh} {ar : Nat → ClassId} {ad sad : Nat → Nat} {n : Nat} {R : Rr} {M : Mm} {k : Nat} {q : Nat × va_E} (h : (wld sh ar ad sad n R M)[k]? = some q) : k < n ∧ q = (ad (k + 1), ce sh ar ad sad R M (k + 1)) := by
  have hk : k < n := by
    have := (List.getElem?_eq_some_iff.mp h).1
    rw [wld_len] at this; exact this
  have := wld_get (sh := sh) (ar := ar) (ad := ad) (sad := sad) (R := R) (M := M) (show 0 < k + 1 by omega) (show k + 1 ≤ n by omega)
  rw [Nat.add_sub_cancel, h] at this
  exact ⟨hk, Option.some.inj this⟩
theorem P_RQ {sh : Sh} {n : Nat} {R R' : Rr} {D : va_G} {ar : Nat → ClassId} {ad sad : Nat → Nat} {M : Mm} {H : Heap} (h : RQ sh n R R') (k : va_P D vwCl (wld sh ar ad sad n R M) H) : va_P D vwCl (wld sh ar ad sad n R' M) H := by
  intro i q hq
  obtain ⟨hi, rfl⟩ := wld_getD hq
  exact ce_RQ h (by omega) (by omega) (k i _ (by
    have := wld_get (sh := sh) (ar := ar) (ad := ad) (sad := sad) (R := R) (M := M) (show 0 < i + 1 by omega) (show i + 1 ≤ n by omega)
    rw [Nat.add_sub_cancel] at this; exact this))
theorem D_RQ {sh : Sh} {n : Nat} {R R' : Rr} {A : Nat → Prop} {ar : Nat → ClassId} {ad sad : Nat → Nat} {M : Mm} (k : va_D A (wld sh ar ad sad n R M)) : va_D A (wld sh ar ad sad n R' M) := by
  have key : ∀ (i : Nat) (q : Nat × va_E), (wld sh ar ad sad n R' M)[i]? = some q → ∃ q', (wld sh ar ad sad n R M)[i]? = some q' ∧ q'.1 = q.1 := by
    intro i q hq
    obtain ⟨hi, rfl⟩ := wld_getD hq
    refine ⟨(ad (i + 1), ce sh ar ad sad R M (i + 1)), ?_, rfl⟩
    have := wld_get (sh := sh) (ar := ar) (ad := ad) (sad := sad) (R := R) (M := M) (show 0 < i + 1 by omega) (show i + 1 ≤ n by omega)
    rw [Nat.add_sub_cancel] at this; exact this
  refine ⟨fun i j p q hp hq e => ?_, fun i q hq => ?_⟩
  · obtain ⟨p', a1, a2⟩ := key i p hp
    obtain ⟨q', b1, b2⟩ := key j q hq
    exact k.1 i j p' q' a1 b1 (by rw [a2, b2]; exact e)
  · obtain ⟨q', b1, b2⟩ := key i q hq
    rw [← b2]
    exact k.2 i q' b1
/-- the world seen by other references, where they show the same -/
theorem r_RQ {sh : Sh} {y : MethodName} {cc : ByteArray} {nL : Nat} {ret : Option FieldType} {d n0 n1 : Nat} {Q : Option AV → Rr → Mm → Prop} {K : Nat → Rr → Nat → List (Nat × AV) → List AV → Mm → Prop} {n : Nat} {R R' : Rr} {pc : Nat} {L : List (Nat × AV)} {S : List AV} {M : Mm} (h : EK sh y cc nL ret d n0 n1 Q K) (hR : RQ sh n R R') (kk : K n R' pc L S M) : K n R pc L S M := by
  obtain ⟨p, l, e, s, m, args, below, meth, c, ad0, sad, D, A, ar, xc, xs, gc, gs, Z, hx, hb, hr, hml, hown, hts, hlk, hnm, hK, hSS, hA, ⟨hgc, hgs, hZ⟩, rfl⟩ := h
  intro hn ad H locs ls had hP hD hS hl
  exact kk hn ad H locs ls had (P_RQ hR hP) (D_RQ hD) hS hl
