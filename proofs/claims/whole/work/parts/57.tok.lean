def wlt : List (List Nat) := [[], [8, 15, 21, 19, 5], [20, 8, 9, 3, 11], [23, 5, 20], [9, 14, 11], [19, 8, 21, 14, 19], [7, 1, 16], [18, 1, 9, 14, 19], [16, 18, 9, 3, 5], [16, 18, 5, 19, 19, 5, 19], [16, 18, 9, 14, 20, 19], [16, 21, 20], [18, 15, 1, 4], [18, 21, 14], [19, 5, 12, 12], [16, 12, 1, 9, 14], [19, 20, 15, 21, 20], [19, 8, 1, 18, 16], [3, 1, 20], [14, 15, 20], [1, 14, 4], [15, 18], [23, 9, 4, 5], [4, 1, 13, 16], [2, 5, 20, 23, 5, 5, 14], [2, 12, 1, 3, 11], [23, 1, 12, 12]]
def w27 : List Int := [0, 4562600, 10792937, 16922, 6950, 10270549, 5146, 9592579, 8863997, 6460053337, 239336362, 12251, 365260, 13703, 377958, 8740238, 10502561, 10256074, 2234, 10631, 1111, 423, 459383, 79828, 857670836, 1299899, 453774]
theorem enc_app (b : Int) (l : List Nat) (x : Nat) : enc b (l ++ [x]) = enc b l * b + (x : Int) := by
  unfold enc
  rw [List.foldl_append]; rfl
def encR (b : Int) : List Nat → Int
  | [] => 0
  | x :: l => encR b l * b + (x : Int)
theorem enc_R (b : Int) : ∀ l : List Nat, enc b l.reverse = encR b l
  | [] => rfl
  | x :: l => by rw [List.reverse_cons, enc_app, enc_R b l]; rfl
theorem encR_nn {b : Int} (hb : 27 ≤ b) : ∀ l : List Nat, 0 ≤ encR b l
  | [] => Int.le_refl _
  | x :: l => by
    have := Int.mul_nonneg (encR_nn hb l) (show 0 ≤ b by omega)
    show 0 ≤ encR b l * b + (x : Int)
    omega
theorem encR_inj {b : Int} (hb : 27 ≤ b) : ∀ l l' : List Nat, (∀ x ∈ l, 1 ≤ x ∧ x ≤ 26) → (∀ x ∈ l', 1 ≤ x ∧ x ≤ 26) → encR b l = encR b l' → l = l'
  | [], [], _, _, _ => rfl
  | [], y :: l', _, h', e => by
    have := Int.mul_nonneg (encR_nn hb l') (show 0 ≤ b by omega)
    have hy := h' y (List.mem_cons_self ..)
    have e2 : (0 : Int) = encR b l' * b + (y : Int) := e
    omega
  | x :: l, [], h, _, e => by
    have := Int.mul_nonneg (encR_nn hb l) (show 0 ≤ b by omega)
    have hx := h x (List.mem_cons_self ..)
    have e2 : encR b l * b + (x : Int) = (0 : Int) := e
    omega
  | x :: l, y :: l', h, h', e => by
    have hx := h x (List.mem_cons_self ..)
    have hy := h' y (List.mem_cons_self ..)
    have e2 : encR b l * b + (x : Int) = encR b l' * b + (y : Int) := e
    have m1 : (encR b l * b + (x : Int)) % b = (x : Int) := by
      rw [Int.add_comm, Int.add_mul_emod_self_right]
      exact Int.emod_eq_of_lt (by omega) (by omega)
    have m2 : (encR b l' * b + (y : Int)) % b = (y : Int) := by
      rw [Int.add_comm, Int.add_mul_emod_self_right]
      exact Int.emod_eq_of_lt (by omega) (by omega)
    have exy : (x : Int) = (y : Int) := by rw [← m1, ← m2, e2]
    have e3 : encR b l * b = encR b l' * b := by omega
    have e4 : encR b l = encR b l' := Int.eq_of_mul_eq_mul_right (by omega) e3
    have := encR_inj hb l l' (fun z hz => h z (List.mem_cons_of_mem _ hz)) (fun z hz => h' z (List.mem_cons_of_mem _ hz)) e4
    rw [this, show x = y by omega]
theorem enc_inj {b : Int} (hb : 27 ≤ b) {l l' : List Nat} (h : ∀ x ∈ l, 1 ≤ x ∧ x ≤ 26) (h' : ∀ x ∈ l', 1 ≤ x ∧ x ≤ 26) (e : enc b l = enc b l') : l = l' := by
  rw [← List.reverse_reverse l, ← List.reverse_reverse l', enc_R, enc_R] at e
  have := encR_inj hb _ _ (fun x hx => h x (List.mem_reverse.mp hx)) (fun x hx => h' x (List.mem_reverse.mp hx)) e
  have e2 := congrArg List.reverse this
  rwa [List.reverse_reverse, List.reverse_reverse] at e2
theorem encR_lt {b : Int} (hb : 27 ≤ b) : ∀ l : List Nat, (∀ x ∈ l, 1 ≤ x ∧ x ≤ 26) → encR b l + 1 ≤ b ^ l.length
  | [], _ => by show (0 : Int) + 1 ≤ b ^ 0; simp
  | x :: l, h => by
    have ih := encR_lt hb l (fun z hz => h z (List.mem_cons_of_mem _ hz))
    have hx := h x (List.mem_cons_self ..)
    have m := Int.mul_le_mul_of_nonneg_right ih (show 0 ≤ b by omega)
    rw [List.length_cons, Int.pow_succ]
    rw [Int.add_mul, Int.one_mul] at m
    show encR b l * b + (x : Int) + 1 ≤ _
    omega
theorem enc_rL {b : Int} {l : List Nat} (hb : b = 27 ∨ b = 32) (h : okw l) : 0 ≤ enc b l ∧ rngL (enc b l) := by
  have hb27 : 27 ≤ b := by omega
  have e := enc_R b l.reverse
  rw [List.reverse_reverse] at e
  have h0 := encR_nn hb27 l.reverse
  have h1 := encR_lt hb27 l.reverse (fun x hx => h.2 x (List.mem_reverse.mp hx))
  have h8 : l.reverse.length ≤ 8 := by rw [List.length_reverse]; exact h.1
  have hp : b ^ l.reverse.length ≤ 32 ^ 8 := by
    have p1 : ∀ n : Nat, n ≤ 8 → (27 : Int) ^ n ≤ 32 ^ 8 := by decide
    have p2 : ∀ n : Nat, n ≤ 8 → (32 : Int) ^ n ≤ 32 ^ 8 := by decide
    rcases hb with rfl | rfl
    · exact p1 _ h8
    · exact p2 _ h8
  have p3 : (32 : Int) ^ 8 = 1099511627776 := by decide
  rw [e]
  omega
def spo (x : Int) : Nat := if fsb (fun i => decide (wL.getD i 0 = x)) 27 27 = 27 then 0 else fsb (fun i => decide (wL.getD i 0 = x)) 27 27
theorem spo_tab : ∀ o, o < 27 → (1 ≤ o → spo (enc 32 (wlt.getD o [])) = o) ∧ wL.getD o 0 = enc 32 (wlt.getD o []) ∧ w27.getD o 0 = enc 27 (wlt.getD o []) ∧ (wlt.getD o []).length ≤ 8 ∧ ∀ x ∈ wlt.getD o [], 1 ≤ x ∧ x ≤ 26 := by decide +kernel
theorem spo_lt (x : Int) : spo x < 27 := by
  have : ∀ k, fsb (fun i => decide (wL.getD i 0 = x)) 27 k ≤ 27 := by
    intro k
    induction k with
    | zero => rw [fsb]; exact Nat.le_refl _
    | succ k ih =>
      rw [fsb]
      split
      · omega
      · exact ih
  have h := this 27
  unfold spo
  split
  · omega
  · omega
theorem spo_iff {l : List Nat} {o : Nat} (h : okw l) (ho : 1 ≤ o) (ho2 : o < 27) : spo (enc 32 l) = o ↔ l = wlt.getD o [] := by
  have t := spo_tab o ho2
  constructor
  · intro e
    have hx : wL.getD o 0 = enc 32 l := by
      unfold spo at e
      by_cases c : fsb (fun i => decide (wL.getD i 0 = enc 32 l)) 27 27 = 27
      · rw [if_pos c] at e; omega
      · rw [if_neg c] at e
        have ex : ∃ i, i < 27 ∧ (fun i => decide (wL.getD i 0 = enc 32 l)) i = true := by
          apply Classical.byContradiction
          intro y
          apply c
          have : ∀ k, k ≤ 27 → fsb (fun i => decide (wL.getD i 0 = enc 32 l)) 27 k = 27 := by
            intro k
            induction k with
            | zero => intro _; rfl
            | succ k ih =>
              intro hk
              rw [fsb, if_neg (fun z => y ⟨27 - (k + 1), by omega, z⟩)]
              exact ih (by omega)
          exact this 27 (Nat.le_refl _)
        have g := (fsb_ok ex).2.1
        rw [e] at g
        exact of_decide_eq_true g
    rw [t.2.1] at hx
    exact (enc_inj (by decide) t.2.2.2.2 h.2 hx).symm
  · intro e
    rw [e]; exact t.1 ho
theorem w27_iff {l : List Nat} {o : Nat} (h : okw l) (ho2 : o < 27) : enc 27 l = w27.getD o 0 ↔ l = wlt.getD o [] := by
  have t := spo_tab o ho2
  rw [t.2.2.1]
  constructor
  · intro e; exact enc_inj (by decide) h.2 t.2.2.2.2 e
  · intro e; rw [e]
/-- a text and its length -/
abbrev TX : Type := (Nat → Int) × Nat
def scn (p : Int → Bool) (tx : TX) : Nat → Nat → Nat
  | 0, i => i
  | k + 1, i => if i < tx.2 ∧ p (tx.1 i) = true then scn p tx k (i + 1) else i
def sc (p : Int → Bool) (tx : TX) (i : Nat) : Nat := scn p tx (tx.2 - i) i
theorem sc_y {p : Int → Bool} {tx : TX} {i : Nat} (h1 : i < tx.2) (h2 : p (tx.1 i) = true) : sc p tx i = sc p tx (i + 1) := by
  unfold sc
  rw [show tx.2 - i = (tx.2 - (i + 1)) + 1 by omega, scn, if_pos ⟨h1, h2⟩]
theorem sc_n {p : Int → Bool} {tx : TX} {i : Nat} (h : ¬ (i < tx.2 ∧ p (tx.1 i) = true)) : sc p tx i = i := by
  unfold sc
  by_cases e : tx.2 - i = 0
  · rw [e, scn]
  · obtain ⟨k, hk⟩ : ∃ k, tx.2 - i = k + 1 := ⟨tx.2 - i - 1, by omega⟩
    rw [hk, scn, if_neg h]
theorem sc_le {p : Int → Bool} {tx : TX} : ∀ k i, i + k = tx.2 → i ≤ sc p tx i ∧ sc p tx i ≤ tx.2 ∧ ¬ (sc p tx i < tx.2 ∧ p (tx.1 (sc p tx i)) = true) ∧ ∀ j, i ≤ j → j < sc p tx i → p (tx.1 j) = true
  | 0, i, h => by
    rw [sc_n (by omega)]
    exact ⟨Nat.le_refl _, by omega, by omega, fun j a b => by omega⟩
  | k + 1, i, h => by
    by_cases c : p (tx.1 i) = true
    · have ⟨a, b, d, e⟩ := sc_le (p := p) (tx := tx) k (i + 1) (by omega)
      rw [sc_y (by omega) c]
      refine ⟨by omega, b, d, fun j h1 h2 => ?_⟩
      by_cases y : j = i
      · rw [y]; exact c
      · exact e j (by omega) h2
    · rw [sc_n (fun z => c z.2)]
      exact ⟨Nat.le_refl _, by omega, fun z => c z.2, fun j a b => by omega⟩
theorem sc_ok {p : Int → Bool} {tx : TX} {i : Nat} (h : i ≤ tx.2) : i ≤ sc p tx i ∧ sc p tx i ≤ tx.2 ∧ ¬ (sc p tx i < tx.2 ∧ p (tx.1 (sc p tx i)) = true) ∧ ∀ j, i ≤ j → j < sc p tx i → p (tx.1 j) = true := sc_le (tx.2 - i) i (by omega)
def isB (c : Int) : Bool := decide (c = 10 ∨ c = 32)
def isL (c : Int) : Bool := decide (97 ≤ c ∧ c ≤ 122)
def isD (c : Int) : Bool := decide (48 ≤ c ∧ c ≤ 57)
def isG (c : Int) : Bool := decide ((40 ≤ c ∧ c ≤ 43) ∨ c = 45 ∨ (59 ≤ c ∧ c ≤ 61))
def tb_ (tx : TX) (i : Nat) : Nat := sc isB tx i
def te_ (tx : TX) (i : Nat) : Nat := if tx.2 ≤ tb_ tx i then tb_ tx i else if isL (tx.1 (tb_ tx i)) = true then sc isL tx (tb_ tx i) else if isD (tx.1 (tb_ tx i)) = true then sc isD tx (tb_ tx i) else tb_ tx i + 1
/-- 0 the end, 1 none, 2 a word, 3 a number, 4 a sign -/
def tk_ (tx : TX) (i : Nat) : Nat := if tx.2 ≤ tb_ tx i then 0 else if isL (tx.1 (tb_ tx i)) = true then (if te_ tx i - tb_ tx i ≤ 8 then 2 else 1) else if isD (tx.1 (tb_ tx i)) = true then (if te_ tx i - tb_ tx i ≤ 4 then 3 else 1) else if isG (tx.1 (tb_ tx i)) = true then 4 else 1
def lwd (f : Nat → Int) (b : Nat) : Nat → List Nat
  | 0 => []
  | k + 1 => lwd f b k ++ [(f (b + k) - 96).toNat]
def dvd_ (f : Nat → Int) (b : Nat) : Nat → Int
  | 0 => 0
  | k + 1 => dvd_ f b k * 10 + (f (b + k) - 48)
def tl_ (tx : TX) (i : Nat) : List Nat := lwd tx.1 (tb_ tx i) (te_ tx i - tb_ tx i)
def tv_ (tx : TX) (i : Nat) : Int := if isD (tx.1 (tb_ tx i)) = true then dvd_ tx.1 (tb_ tx i) (te_ tx i - tb_ tx i) else tx.1 (tb_ tx i)
def wo_ (tx : TX) (i : Nat) : Nat := if tk_ tx i = 2 then spo (enc 32 (tl_ tx i)) else 0
def WX (tx : TX) : Prop := tx.2 ≤ 1000 ∧ ∀ i, i < tx.2 → goodS (tx.1 i)
theorem lwd_len (f : Nat → Int) (b : Nat) : ∀ k, (lwd f b k).length = k
  | 0 => rfl
  | k + 1 => by rw [lwd, List.length_append, lwd_len f b k]; rfl
theorem lwd_in {f : Nat → Int} {b : Nat} : ∀ k, (∀ j, b ≤ j → j < b + k → isL (f j) = true) → ∀ x ∈ lwd f b k, 1 ≤ x ∧ x ≤ 26
  | 0, _, x, hx => by cases hx
  | k + 1, h, x, hx => by
    rw [lwd, List.mem_append] at hx
    rcases hx with hx | hx
    · exact lwd_in k (fun j a b => h j a (by omega)) x hx
    · rw [List.mem_singleton] at hx
      have := h (b + k) (by omega) (by omega)
      unfold isL at this
      have := of_decide_eq_true this
      omega
theorem te_ok {tx : TX} {i : Nat} (h : i ≤ tx.2) : i ≤ tb_ tx i ∧ tb_ tx i ≤ te_ tx i ∧ te_ tx i ≤ tx.2 ∧ (tk_ tx i ≠ 0 → tb_ tx i < te_ tx i) ∧ (tk_ tx i = 0 → tb_ tx i = tx.2 ∧ te_ tx i = tx.2) := by
  have ⟨a, b, c, d⟩ := sc_ok (p := isB) h
  have ha : i ≤ tb_ tx i := a
  have hb : tb_ tx i ≤ tx.2 := b
  unfold te_ tk_
  by_cases e : tx.2 ≤ tb_ tx i
  · rw [if_pos e, if_pos e]; omega
  · rw [if_neg e, if_neg e]
    by_cases e1 : isL (tx.1 (tb_ tx i)) = true
    · rw [if_pos e1, if_pos e1]
      have h1 := sc_ok (p := isL) (tx := tx) (i := tb_ tx i + 1) (by omega)
      rw [← sc_y (by omega) e1] at h1
      refine ⟨by omega, by omega, by omega, fun _ => by omega, fun z => ?_⟩
      split at z <;> omega
    · rw [if_neg e1, if_neg e1]
      by_cases e2 : isD (tx.1 (tb_ tx i)) = true
      · rw [if_pos e2, if_pos e2]
        have h1 := sc_ok (p := isD) (tx := tx) (i := tb_ tx i + 1) (by omega)
        rw [← sc_y (by omega) e2] at h1
        refine ⟨by omega, by omega, by omega, fun _ => by omega, fun z => ?_⟩
        split at z <;> omega
      · rw [if_neg e2, if_neg e2]
        refine ⟨by omega, by omega, by omega, fun _ => by omega, fun z => ?_⟩
        split at z <;> omega
theorem tl_ok {tx : TX} {i : Nat} (h : i ≤ tx.2) (hk : tk_ tx i = 2) : okw (tl_ tx i) := by
  have ht := te_ok h
  unfold tk_ at hk
  by_cases e : tx.2 ≤ tb_ tx i
  · rw [if_pos e] at hk; omega
  · rw [if_neg e] at hk
    by_cases e1 : isL (tx.1 (tb_ tx i)) = true
    · rw [if_pos e1] at hk
      have h8 : te_ tx i - tb_ tx i ≤ 8 := by
        apply Classical.byContradiction
        intro y
        rw [if_neg y] at hk; omega
      have et : te_ tx i = sc isL tx (tb_ tx i) := by unfold te_; rw [if_neg e, if_pos e1]
      have h1 := sc_ok (p := isL) (tx := tx) (i := tb_ tx i) (by omega)
      refine ⟨by unfold tl_; rw [lwd_len]; exact h8, ?_⟩
      unfold tl_
      refine lwd_in _ (fun j a b => h1.2.2.2 j a (by omega))
    · rw [if_neg e1] at hk
      split at hk
      · split at hk <;> omega
      · split at hk <;> omega
theorem dvd_in {f : Nat → Int} {b : Nat} : ∀ k, (∀ j, b ≤ j → j < b + k → isD (f j) = true) → 0 ≤ dvd_ f b k ∧ dvd_ f b k + 1 ≤ ((10 ^ k : Nat) : Int)
  | 0, _ => by rw [dvd_]; decide
  | k + 1, h => by
    have ih := dvd_in k (fun j a b => h j a (by omega))
    have := of_decide_eq_true (h (b + k) (by omega) (by omega))
    rw [dvd_, Nat.pow_succ]
    omega
theorem tv_in {tx : TX} {i : Nat} (h : i ≤ tx.2) (hk : tk_ tx i = 3) : 0 ≤ tv_ tx i ∧ tv_ tx i ≤ 9999 := by
  have ht := te_ok h
  unfold tk_ at hk
  by_cases e : tx.2 ≤ tb_ tx i
  · rw [if_pos e] at hk; omega
  · rw [if_neg e] at hk
    by_cases e1 : isL (tx.1 (tb_ tx i)) = true
    · rw [if_pos e1] at hk
      split at hk <;> omega
    · rw [if_neg e1] at hk
      by_cases e2 : isD (tx.1 (tb_ tx i)) = true
      · rw [if_pos e2] at hk
        have h4 : te_ tx i - tb_ tx i ≤ 4 := by
          apply Classical.byContradiction
          intro y
          rw [if_neg y] at hk; omega
        have et : te_ tx i = sc isD tx (tb_ tx i) := by unfold te_; rw [if_neg e, if_neg e1, if_pos e2]
        have h1 := sc_ok (p := isD) (tx := tx) (i := tb_ tx i) (by omega)
        have h2 := dvd_in (f := tx.1) (b := tb_ tx i) (te_ tx i - tb_ tx i) (fun j a b => h1.2.2.2 j a (by omega))
        have h3 : 10 ^ (te_ tx i - tb_ tx i) ≤ 10 ^ 4 := Nat.pow_le_pow_right (by omega) h4
        unfold tv_
        rw [if_pos e2]
        omega
      · rw [if_neg e2] at hk
        split at hk <;> omega
theorem tv_sg {tx : TX} {i : Nat} (h : i ≤ tx.2) (hW : WX tx) (hk : tk_ tx i = 4) : tv_ tx i = tx.1 (tb_ tx i) ∧ tb_ tx i < tx.2 ∧ 0 ≤ tv_ tx i ∧ tv_ tx i ≤ 126 := by
  have ht := te_ok h
  have hb := ht.2.2.2.1 (by omega)
  have hg := hW.2 (tb_ tx i) (by omega)
  have e2 : ¬ isD (tx.1 (tb_ tx i)) = true := by
    intro c
    unfold tk_ at hk
    rw [if_neg (by omega)] at hk
    split at hk
    · split at hk <;> omega
    · split at hk <;> omega
  unfold tv_
  rw [if_neg e2]
  exact ⟨rfl, by omega, by omega, by omega⟩
theorem wo_lt (tx : TX) (i : Nat) : wo_ tx i < 27 := by
  unfold wo_
  split
  · exact spo_lt _
  · omega
/-- the class's tape: it stands at the token that begins from i on -/
def TpC (tx : TX) (i : Nat) (M : Mm) : Prop := (∀ j, j < tx.2 → M 3 j = tx.1 j) ∧ M 2 2 = (tx.2 : Int) ∧ M 2 3 = (tb_ tx i : Int) ∧ M 2 4 = (te_ tx i : Int) ∧ M 2 5 = (tk_ tx i : Int) ∧ M 2 6 = (wo_ tx i : Int) + 1 ∧ (tk_ tx i = 2 → M 2 7 = enc 32 (tl_ tx i)) ∧ (tk_ tx i = 3 → M 2 8 = tv_ tx i) ∧ (tk_ tx i = 4 → M 2 11 = tv_ tx i)
def mk_ (k : Nat) : Int := if k = 0 then 0 else if k = 1 then 4 else if k = 2 then 1 else if k = 3 then 2 else 3
def TpM (tx : TX) (i : Nat) (N : Mm) : Prop := (∀ j, j < tx.2 → N 2 j = tx.1 j) ∧ N 1 3 = (tx.2 : Int) ∧ N 1 5 = (tb_ tx i : Int) ∧ N 1 4 = (te_ tx i : Int) ∧ N 1 6 = mk_ (tk_ tx i) ∧ (tk_ tx i = 2 → N 1 7 = enc 27 (tl_ tx i)) ∧ (tk_ tx i = 3 → N 1 8 = tv_ tx i)
