theorem lt32 (j : Nat) (h : j < 32) : j = 0 ∨ j = 1 ∨ j = 2 ∨ j = 3 ∨ j = 4 ∨ j = 5 ∨ j = 6 ∨ j = 7 ∨ j = 8 ∨ j = 9 ∨ j = 10 ∨ j = 11 ∨ j = 12 ∨ j = 13 ∨ j = 14 ∨ j = 15 ∨ j = 16 ∨ j = 17 ∨ j = 18 ∨ j = 19 ∨ j = 20 ∨ j = 21 ∨ j = 22 ∨ j = 23 ∨ j = 24 ∨ j = 25 ∨ j = 26 ∨ j = 27 ∨ j = 28 ∨ j = 29 ∨ j = 30 ∨ j = 31 := by omega
set_option maxHeartbeats 4000000 in
set_option maxRecDepth 100000 in
theorem law_sw {b Ls : Nat} {xs : Nat → Int32} {Kf : Nat → Nat → Rr → Nat → List (Nat × AV) → List AV → Mm → Prop} (hW : LW b Ls xs Kf) (hLs : Ls ≤ 3584) {g k : Nat} (hgk : g ≤ k) (hk : 7 * k + 7 ≤ Ls) {t : TT} {tb : Nat} {M N : Mm} {o : Nat → Int} (hS : Sim t tb k M N) (hJ : JN Kf k) : Kf g 246 RRL 33 (LL k) [] (ML M N o) := by
  have hg : g ≤ 600 := by omega
  have h := hW.ek hg
  refine r_aloadEn h (q := 0) 0 rfl (by decide +kernel : decode code 33 = .ok (.aload_n 0, 1)) ?_
  refine r_iload h 4 rfl (by decide +kernel : decode code 34 = .ok (.iload 4, 2)) ?_
  refine r_sld hW hg (7 * k) rfl (by omega) (by omega) (by decide +kernel : decode code 36 = .ok (.iaload, 1)) ?_
  refine r_bipush h (v := 31) (by decide) (by decide +kernel : decode code 37 = .ok (.bipush 31, 2)) ?_
  refine r_iand h (by decide +kernel : decode code 39 = .ok (.iand, 1)) ?_
  rw [and31]
  obtain ⟨j, hj, ej⟩ : ∃ j : Nat, j < 32 ∧ (xs (7 * k)).toInt % 32 = (j : Int) := ⟨((xs (7 * k)).toInt % 32).toNat, by omega, by omega⟩
  rw [ej]
  have d40 : decode code 40 = .ok (.tableswitch 1168 0 31 #[144, 291, 304, 317, 354, 379, 404, 429, 466, 503, 528, 541, 566, 579, 604, 617, 642, 655, 680, 705, 730, 755, 768, 805, 818, 843, 856, 881, 961, 1041, 1090, 1143], 144) := by decide +kernel
  rcases lt32 j hj with rfl | rfl | rfl | rfl | rfl | rfl | rfl | rfl | rfl | rfl | rfl | rfl | rfl | rfl | rfl | rfl | rfl | rfl | rfl | rfl | rfl | rfl | rfl | rfl | rfl | rfl | rfl | rfl | rfl | rfl | rfl | rfl
  · exact r_tabIn h (lo := 0) (hi := 31) (dflt := 1168) (offs := #[144, 291, 304, 317, 354, 379, 404, 429, 466, 503, 528, 541, 566, 579, 604, 617, 642, 655, 680, 705, 730, 755, 768, 805, 818, 843, 856, 881, 961, 1041, 1090, 1143]) (off := 144) 184 (by decide) (by decide) rfl (by decide) d40 (lc_feed hW hLs hgk hk hS hJ)
  · exact r_tabIn h (lo := 0) (hi := 31) (dflt := 1168) (offs := #[144, 291, 304, 317, 354, 379, 404, 429, 466, 503, 528, 541, 566, 579, 604, 617, 642, 655, 680, 705, 730, 755, 768, 805, 818, 843, 856, 881, 961, 1041, 1090, 1143]) (off := 291) 331 (by decide) (by decide) rfl (by decide) d40 (lc_town hW hLs hgk hk hS hJ)
  · exact r_tabIn h (lo := 0) (hi := 31) (dflt := 1168) (offs := #[144, 291, 304, 317, 354, 379, 404, 429, 466, 503, 528, 541, 566, 579, 604, 617, 642, 655, 680, 705, 730, 755, 768, 805, 818, 843, 856, 881, 961, 1041, 1090, 1143]) (off := 304) 344 (by decide) (by decide) rfl (by decide) d40 (lc_years hW hLs hgk hk hS hJ)
  · exact r_tabIn h (lo := 0) (hi := 31) (dflt := 1168) (offs := #[144, 291, 304, 317, 354, 379, 404, 429, 466, 503, 528, 541, 566, 579, 604, 617, 642, 655, 680, 705, 730, 755, 768, 805, 818, 843, 856, 881, 961, 1041, 1090, 1143]) (off := 317) 357 (by decide) (by decide) rfl (by decide) d40 (lc_house hW hLs hgk hk hS hJ)
  · exact r_tabIn h (lo := 0) (hi := 31) (dflt := 1168) (offs := #[144, 291, 304, 317, 354, 379, 404, 429, 466, 503, 528, 541, 566, 579, 604, 617, 642, 655, 680, 705, 730, 755, 768, 805, 818, 843, 856, 881, 961, 1041, 1090, 1143]) (off := 354) 394 (by decide) (by decide) rfl (by decide) d40 (lc_order hW hLs hgk hk hS hJ)
  · exact r_tabIn h (lo := 0) (hi := 31) (dflt := 1168) (offs := #[144, 291, 304, 317, 354, 379, 404, 429, 466, 503, 528, 541, 566, 579, 604, 617, 642, 655, 680, 705, 730, 755, 768, 805, 818, 843, 856, 881, 961, 1041, 1090, 1143]) (off := 379) 419 (by decide) (by decide) rfl (by decide) d40 (lc_ahead hW hLs hgk hk hS hJ)
  · exact r_tabIn h (lo := 0) (hi := 31) (dflt := 1168) (offs := #[144, 291, 304, 317, 354, 379, 404, 429, 466, 503, 528, 541, 566, 579, 604, 617, 642, 655, 680, 705, 730, 755, 768, 805, 818, 843, 856, 881, 961, 1041, 1090, 1143]) (off := 404) 444 (by decide) (by decide) rfl (by decide) d40 (lc_pressed hW hLs hgk hk hS hJ)
  · exact r_tabIn h (lo := 0) (hi := 31) (dflt := 1168) (offs := #[144, 291, 304, 317, 354, 379, 404, 429, 466, 503, 528, 541, 566, 579, 604, 617, 642, 655, 680, 705, 730, 755, 768, 805, 818, 843, 856, 881, 961, 1041, 1090, 1143]) (off := 429) 469 (by decide) (by decide) rfl (by decide) d40 (lc_blot hW hLs hgk hk hS hJ)
  · exact r_tabIn h (lo := 0) (hi := 31) (dflt := 1168) (offs := #[144, 291, 304, 317, 354, 379, 404, 429, 466, 503, 528, 541, 566, 579, 604, 617, 642, 655, 680, 705, 730, 755, 768, 805, 818, 843, 856, 881, 961, 1041, 1090, 1143]) (off := 466) 506 (by decide) (by decide) rfl (by decide) d40 (lc_put hW hLs hgk hk hS hJ)
  · exact r_tabIn h (lo := 0) (hi := 31) (dflt := 1168) (offs := #[144, 291, 304, 317, 354, 379, 404, 429, 466, 503, 528, 541, 566, 579, 604, 617, 642, 655, 680, 705, 730, 755, 768, 805, 818, 843, 856, 881, 961, 1041, 1090, 1143]) (off := 503) 543 (by decide) (by decide) rfl (by decide) d40 (lc_road hW hLs hgk hk hS hJ)
  · exact r_tabIn h (lo := 0) (hi := 31) (dflt := 1168) (offs := #[144, 291, 304, 317, 354, 379, 404, 429, 466, 503, 528, 541, 566, 579, 604, 617, 642, 655, 680, 705, 730, 755, 768, 805, 818, 843, 856, 881, 961, 1041, 1090, 1143]) (off := 528) 568 (by decide) (by decide) rfl (by decide) d40 (lc_run hW hLs hgk hk hS hJ)
  · exact r_tabIn h (lo := 0) (hi := 31) (dflt := 1168) (offs := #[144, 291, 304, 317, 354, 379, 404, 429, 466, 503, 528, 541, 566, 579, 604, 617, 642, 655, 680, 705, 730, 755, 768, 805, 818, 843, 856, 881, 961, 1041, 1090, 1143]) (off := 541) 581 (by decide) (by decide) rfl (by decide) d40 (lc_sell hW hLs hgk hk hS hJ)
  · exact r_tabIn h (lo := 0) (hi := 31) (dflt := 1168) (offs := #[144, 291, 304, 317, 354, 379, 404, 429, 466, 503, 528, 541, 566, 579, 604, 617, 642, 655, 680, 705, 730, 755, 768, 805, 818, 843, 856, 881, 961, 1041, 1090, 1143]) (off := 566) 606 (by decide) (by decide) rfl (by decide) d40 (lc_undo hW hLs hgk hk hS hJ)
  · exact r_tabIn h (lo := 0) (hi := 31) (dflt := 1168) (offs := #[144, 291, 304, 317, 354, 379, 404, 429, 466, 503, 528, 541, 566, 579, 604, 617, 642, 655, 680, 705, 730, 755, 768, 805, 818, 843, 856, 881, 961, 1041, 1090, 1143]) (off := 579) 619 (by decide) (by decide) rfl (by decide) d40 (lc_judged hW hLs hgk hk hS hJ)
  · exact r_tabIn h (lo := 0) (hi := 31) (dflt := 1168) (offs := #[144, 291, 304, 317, 354, 379, 404, 429, 466, 503, 528, 541, 566, 579, 604, 617, 642, 655, 680, 705, 730, 755, 768, 805, 818, 843, 856, 881, 961, 1041, 1090, 1143]) (off := 604) 644 (by decide) (by decide) rfl (by decide) d40 (lc_shunned hW hLs hgk hk hS hJ)
  · exact r_tabIn h (lo := 0) (hi := 31) (dflt := 1168) (offs := #[144, 291, 304, 317, 354, 379, 404, 429, 466, 503, 528, 541, 566, 579, 604, 617, 642, 655, 680, 705, 730, 755, 768, 805, 818, 843, 856, 881, 961, 1041, 1090, 1143]) (off := 617) 657 (by decide) (by decide) rfl (by decide) d40 (lc_best hW hLs hgk hk hS hJ)
  · exact r_tabIn h (lo := 0) (hi := 31) (dflt := 1168) (offs := #[144, 291, 304, 317, 354, 379, 404, 429, 466, 503, 528, 541, 566, 579, 604, 617, 642, 655, 680, 705, 730, 755, 768, 805, 818, 843, 856, 881, 961, 1041, 1090, 1143]) (off := 642) 682 (by decide) (by decide) rfl (by decide) d40 (lc_around hW hLs hgk hk hS hJ)
  · exact r_tabIn h (lo := 0) (hi := 31) (dflt := 1168) (offs := #[144, 291, 304, 317, 354, 379, 404, 429, 466, 503, 528, 541, 566, 579, 604, 617, 642, 655, 680, 705, 730, 755, 768, 805, 818, 843, 856, 881, 961, 1041, 1090, 1143]) (off := 655) 695 (by decide) (by decide) rfl (by decide) d40 (lc_till hW hLs hgk hk hS hJ)
  · exact r_tabIn h (lo := 0) (hi := 31) (dflt := 1168) (offs := #[144, 291, 304, 317, 354, 379, 404, 429, 466, 503, 528, 541, 566, 579, 604, 617, 642, 655, 680, 705, 730, 755, 768, 805, 818, 843, 856, 881, 961, 1041, 1090, 1143]) (off := 680) 720 (by decide) (by decide) rfl (by decide) d40 (lc_dry hW hLs hgk hk hS hJ)
  · exact r_tabIn h (lo := 0) (hi := 31) (dflt := 1168) (offs := #[144, 291, 304, 317, 354, 379, 404, 429, 466, 503, 528, 541, 566, 579, 604, 617, 642, 655, 680, 705, 730, 755, 768, 805, 818, 843, 856, 881, 961, 1041, 1090, 1143]) (off := 705) 745 (by decide) (by decide) rfl (by decide) d40 (lc_hear hW hLs hgk hk hS hJ)
  · exact r_tabIn h (lo := 0) (hi := 31) (dflt := 1168) (offs := #[144, 291, 304, 317, 354, 379, 404, 429, 466, 503, 528, 541, 566, 579, 604, 617, 642, 655, 680, 705, 730, 755, 768, 805, 818, 843, 856, 881, 961, 1041, 1090, 1143]) (off := 730) 770 (by decide) (by decide) rfl (by decide) d40 (lc_sets hW hLs hgk hk hS hJ)
  · exact r_tabIn h (lo := 0) (hi := 31) (dflt := 1168) (offs := #[144, 291, 304, 317, 354, 379, 404, 429, 466, 503, 528, 541, 566, 579, 604, 617, 642, 655, 680, 705, 730, 755, 768, 805, 818, 843, 856, 881, 961, 1041, 1090, 1143]) (off := 755) 795 (by decide) (by decide) rfl (by decide) d40 (lc_look hW hLs hgk hk hS hJ)
  · exact r_tabIn h (lo := 0) (hi := 31) (dflt := 1168) (offs := #[144, 291, 304, 317, 354, 379, 404, 429, 466, 503, 528, 541, 566, 579, 604, 617, 642, 655, 680, 705, 730, 755, 768, 805, 818, 843, 856, 881, 961, 1041, 1090, 1143]) (off := 768) 808 (by decide) (by decide) rfl (by decide) d40 (lc_see hW hLs hgk hk hS hJ)
  · exact r_tabIn h (lo := 0) (hi := 31) (dflt := 1168) (offs := #[144, 291, 304, 317, 354, 379, 404, 429, 466, 503, 528, 541, 566, 579, 604, 617, 642, 655, 680, 705, 730, 755, 768, 805, 818, 843, 856, 881, 961, 1041, 1090, 1143]) (off := 805) 845 (by decide) (by decide) rfl (by decide) d40 (lc_orders hW hLs hgk hk hS hJ)
  · exact r_tabIn h (lo := 0) (hi := 31) (dflt := 1168) (offs := #[144, 291, 304, 317, 354, 379, 404, 429, 466, 503, 528, 541, 566, 579, 604, 617, 642, 655, 680, 705, 730, 755, 768, 805, 818, 843, 856, 881, 961, 1041, 1090, 1143]) (off := 818) 858 (by decide) (by decide) rfl (by decide) d40 (lc_first hW hLs hgk hk hS hJ)
  · exact r_tabIn h (lo := 0) (hi := 31) (dflt := 1168) (offs := #[144, 291, 304, 317, 354, 379, 404, 429, 466, 503, 528, 541, 566, 579, 604, 617, 642, 655, 680, 705, 730, 755, 768, 805, 818, 843, 856, 881, 961, 1041, 1090, 1143]) (off := 843) 883 (by decide) (by decide) rfl (by decide) d40 (lc_ask hW hLs hgk hk hS hJ)
  · exact r_tabIn h (lo := 0) (hi := 31) (dflt := 1168) (offs := #[144, 291, 304, 317, 354, 379, 404, 429, 466, 503, 528, 541, 566, 579, 604, 617, 642, 655, 680, 705, 730, 755, 768, 805, 818, 843, 856, 881, 961, 1041, 1090, 1143]) (off := 856) 896 (by decide) (by decide) rfl (by decide) d40 (lc_share hW hLs hgk hk hS hJ)
  · exact r_tabIn h (lo := 0) (hi := 31) (dflt := 1168) (offs := #[144, 291, 304, 317, 354, 379, 404, 429, 466, 503, 528, 541, 566, 579, 604, 617, 642, 655, 680, 705, 730, 755, 768, 805, 818, 843, 856, 881, 961, 1041, 1090, 1143]) (off := 881) 921 (by decide) (by decide) rfl (by decide) d40 (lc_pin hW hLs hgk hk hS hJ)
  · exact r_tabIn h (lo := 0) (hi := 31) (dflt := 1168) (offs := #[144, 291, 304, 317, 354, 379, 404, 429, 466, 503, 528, 541, 566, 579, 604, 617, 642, 655, 680, 705, 730, 755, 768, 805, 818, 843, 856, 881, 961, 1041, 1090, 1143]) (off := 961) 1001 (by decide) (by decide) rfl (by decide) d40 (lc_rests hW hLs hgk hk hS hJ)
  · exact r_tabIn h (lo := 0) (hi := 31) (dflt := 1168) (offs := #[144, 291, 304, 317, 354, 379, 404, 429, 466, 503, 528, 541, 566, 579, 604, 617, 642, 655, 680, 705, 730, 755, 768, 805, 818, 843, 856, 881, 961, 1041, 1090, 1143]) (off := 1041) 1081 (by decide) (by decide) rfl (by decide) d40 (lc_decades hW hLs hgk hk hS hJ)
  · exact r_tabIn h (lo := 0) (hi := 31) (dflt := 1168) (offs := #[144, 291, 304, 317, 354, 379, 404, 429, 466, 503, 528, 541, 566, 579, 604, 617, 642, 655, 680, 705, 730, 755, 768, 805, 818, 843, 856, 881, 961, 1041, 1090, 1143]) (off := 1090) 1130 (by decide) (by decide) rfl (by decide) d40 (lc_mark hW hLs hgk hk hS hJ)
  · exact r_tabIn h (lo := 0) (hi := 31) (dflt := 1168) (offs := #[144, 291, 304, 317, 354, 379, 404, 429, 466, 503, 528, 541, 566, 579, 604, 617, 642, 655, 680, 705, 730, 755, 768, 805, 818, 843, 856, 881, 961, 1041, 1090, 1143]) (off := 1143) 1183 (by decide) (by decide) rfl (by decide) d40 (lc_count hW hLs hgk hk hS hJ)
set_option maxHeartbeats 4000000 in
set_option maxRecDepth 100000 in
theorem law_loop {b Ls : Nat} {xs : Nat → Int32} {Kf : Nat → Nat → Rr → Nat → List (Nat × AV) → List AV → Mm → Prop} (hW : LW b Ls xs Kf) (hLs : Ls ≤ 3584) (hend : ∀ (g : Nat) (M N : Mm) (o : Nat → Int) (L : List (Nat × AV)), g ≤ 600 → Kf g 246 RRL 1215 L [vi 1] (ML M N o)) : ∀ k, k ≤ Ls / 7 → ∀ (g : Nat) (M N : Mm) (o : Nat → Int) (t : TT) (tb : Nat), g ≤ k → Sim t tb k M N → Kf g 246 RRL 23 (LL k) [] (ML M N o) := by
  refine up_ind ?_ ?_
  · intro g M N o t tb hgk hS
    have hg : g ≤ 600 := by omega
    have h := hW.ek hg
    refine r_iload h 4 rfl (by decide +kernel : decode code 23 = .ok (.iload 4, 2)) ?_
    refine r_aloadEn h (q := 0) 0 rfl (by decide +kernel : decode code 25 = .ok (.aload_n 0, 1)) ?_
    refine r_slen hW hg (by decide +kernel : decode code 26 = .ok (.arraylength, 1)) ?_
    refine r_bipush h (v := 7) (by decide) (by decide +kernel : decode code 27 = .ok (.bipush 7, 2)) ?_
    refine r_isub h (by decide +kernel : decode code 29 = .ok (.isub, 1)) ?_
    refine r_icmp_gt h 1214 (by omega) (by omega) (by decide) (by decide +kernel : decode code 30 = .ok (.if_icmp .gt 1184, 3)) (fun _ => ?_) (fun z => absurd (show (Ls : Int) - 7 < ((7 * (Ls / 7) : Nat) : Int) by omega) z)
    refine r_iconst h (v := 1) (by decide +kernel : decode code 1214 = .ok (.iconst 1, 1)) ?_
    exact hend g M N o _ hg
  · intro k hk ih g M N o t tb hgk hS
    have hg : g ≤ 600 := by omega
    have h := hW.ek hg
    refine r_iload h 4 rfl (by decide +kernel : decode code 23 = .ok (.iload 4, 2)) ?_
    refine r_aloadEn h (q := 0) 0 rfl (by decide +kernel : decode code 25 = .ok (.aload_n 0, 1)) ?_
    refine r_slen hW hg (by decide +kernel : decode code 26 = .ok (.arraylength, 1)) ?_
    refine r_bipush h (v := 7) (by decide) (by decide +kernel : decode code 27 = .ok (.bipush 7, 2)) ?_
    refine r_isub h (by decide +kernel : decode code 29 = .ok (.isub, 1)) ?_
    refine r_icmp_gt h 1214 (by omega) (by omega) (by decide) (by decide +kernel : decode code 30 = .ok (.if_icmp .gt 1184, 3)) (fun z => by omega) (fun _ => ?_)
    refine law_sw hW hLs hgk (by omega) hS ?_
    intro g1 M1 N1 o1 t1 tb1 hg1 hS1
    have hg2 : g1 ≤ 600 := by omega
    have h1 := hW.ek hg2
    refine r_iinc h1 (i := 4) (v := 7) (L' := [(4, vi (((7 * k : Nat) : Int) + 7)), (0, ve 33), (1, vr 1), (2, vr 201), (3, vr 246)]) 4 rfl (by decide) rfl (by decide +kernel : decode code 1208 = .ok (.iinc 4 7, 3)) ?_
    refine r_goto h1 23 (by decide) (by decide +kernel : decode code 1211 = .ok (.goto (-1188), 3)) ?_
    rw [show ((7 * k : Nat) : Int) + 7 = ((7 * (k + 1) : Nat) : Int) by omega]
    refine r_drop h1 [1, 2, 3, 4, 0] rfl ?_
    exact ih g1 M1 N1 o1 t1 tb1 hg1 hS1
