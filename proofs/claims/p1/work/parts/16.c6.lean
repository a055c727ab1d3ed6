def rmDn (n : Nat) : Room := { frames := 4 + 2 * n, cells := 0, slots := 0, locals := 140 + 70 * n }
def rmWn (n : Nat) : Room := { frames := 5 + 2 * n, cells := 0, slots := 0, locals := 175 + 70 * n }
theorem cbDW (n : Nat) : CB yB_descend cB_descend 8 none (rmDn n) (rmWn n) 3 := ⟨wd380, wd3, by decide +kernel, rfl, rfl, by simp only [rmDn, rmWn]; omega⟩
theorem cbWD (n : Nat) : CB yB_walk cB_walk 13 none (rmWn n) (rmDn (n + 1)) 5 := ⟨wd428, wd3, by decide +kernel, rfl, rfl, by simp only [rmDn, rmWn]; omega⟩
theorem dB_walk_0 : decode cB_walk 0 = .ok (.aload_n 0, 1) := by decide +kernel
theorem dB_walk_1 : decode cB_walk 1 = .ok (.getfield 26, 3) := by decide +kernel
theorem dB_walk_4 : decode cB_walk 4 = .ok (.iload_n 1, 1) := by decide +kernel
theorem dB_walk_5 : decode cB_walk 5 = .ok (.iconst 1, 1) := by decide +kernel
theorem dB_walk_6 : decode cB_walk 6 = .ok (.iadd, 1) := by decide +kernel
theorem dB_walk_7 : decode cB_walk 7 = .ok (.aaload, 1) := by decide +kernel
theorem dB_walk_8 : decode cB_walk 8 = .ok (.aload_n 0, 1) := by decide +kernel
theorem dB_walk_9 : decode cB_walk 9 = .ok (.getfield 26, 3) := by decide +kernel
theorem dB_walk_12 : decode cB_walk 12 = .ok (.iload_n 1, 1) := by decide +kernel
theorem dB_walk_13 : decode cB_walk 13 = .ok (.aaload, 1) := by decide +kernel
theorem dB_walk_14 : decode cB_walk 14 = .ok (.invokestatic 49, 3) := by decide +kernel
theorem dB_walk_17 : decode cB_walk 17 = .ok (.aload_n 0, 1) := by decide +kernel
theorem dB_walk_18 : decode cB_walk 18 = .ok (.getfield 26, 3) := by decide +kernel
theorem dB_walk_21 : decode cB_walk 21 = .ok (.iload_n 1, 1) := by decide +kernel
theorem dB_walk_22 : decode cB_walk 22 = .ok (.aaload, 1) := by decide +kernel
theorem dB_walk_23 : decode cB_walk 23 = .ok (.aload_n 0, 1) := by decide +kernel
theorem dB_walk_24 : decode cB_walk 24 = .ok (.getfield 13, 3) := by decide +kernel
theorem dB_walk_27 : decode cB_walk 27 = .ok (.iload_n 1, 1) := by decide +kernel
theorem dB_walk_28 : decode cB_walk 28 = .ok (.aaload, 1) := by decide +kernel
theorem dB_walk_29 : decode cB_walk 29 = .ok (.lload_n 2, 1) := by decide +kernel
theorem dB_walk_30 : decode cB_walk 30 = .ok (.invokestatic 95, 3) := by decide +kernel
theorem dB_walk_33 : decode cB_walk 33 = .ok (.iconst 0, 1) := by decide +kernel
theorem dB_walk_34 : decode cB_walk 34 = .ok (.istore 8, 2) := by decide +kernel
theorem dB_walk_36 : decode cB_walk 36 = .ok (.iload 8, 2) := by decide +kernel
theorem dB_walk_38 : decode cB_walk 38 = .ok (.ldc 71, 2) := by decide +kernel
theorem dB_walk_40 : decode cB_walk 40 = .ok (.if_icmp .ge 81, 3) := by decide +kernel
theorem dB_walk_43 : decode cB_walk 43 = .ok (.aload_n 0, 1) := by decide +kernel
theorem dB_walk_44 : decode cB_walk 44 = .ok (.getfield 16, 3) := by decide +kernel
theorem dB_walk_47 : decode cB_walk 47 = .ok (.iload_n 1, 1) := by decide +kernel
theorem dB_walk_48 : decode cB_walk 48 = .ok (.aaload, 1) := by decide +kernel
theorem dB_walk_49 : decode cB_walk 49 = .ok (.aload_n 0, 1) := by decide +kernel
theorem dB_walk_50 : decode cB_walk 50 = .ok (.getfield 26, 3) := by decide +kernel
theorem dB_walk_53 : decode cB_walk 53 = .ok (.iload_n 1, 1) := by decide +kernel
theorem dB_walk_54 : decode cB_walk 54 = .ok (.aaload, 1) := by decide +kernel
theorem dB_walk_55 : decode cB_walk 55 = .ok (.invokestatic 63, 3) := by decide +kernel
theorem dB_walk_58 : decode cB_walk 58 = .ok (.lstore 9, 2) := by decide +kernel
theorem dB_walk_60 : decode cB_walk 60 = .ok (.lload 5, 2) := by decide +kernel
theorem dB_walk_62 : decode cB_walk 62 = .ok (.lload 9, 2) := by decide +kernel
theorem dB_walk_64 : decode cB_walk 64 = .ok (.lload 9, 2) := by decide +kernel
theorem dB_walk_66 : decode cB_walk 66 = .ok (.lmul, 1) := by decide +kernel
theorem dB_walk_67 : decode cB_walk 67 = .ok (.aload_n 0, 1) := by decide +kernel
theorem dB_walk_68 : decode cB_walk 68 = .ok (.getfield 19, 3) := by decide +kernel
theorem dB_walk_71 : decode cB_walk 71 = .ok (.iload_n 1, 1) := by decide +kernel
theorem dB_walk_72 : decode cB_walk 72 = .ok (.laload, 1) := by decide +kernel
theorem dB_walk_73 : decode cB_walk 73 = .ok (.ldiv, 1) := by decide +kernel
theorem dB_walk_74 : decode cB_walk 74 = .ok (.ladd, 1) := by decide +kernel
theorem dB_walk_75 : decode cB_walk 75 = .ok (.lstore 11, 2) := by decide +kernel
theorem dB_walk_77 : decode cB_walk 77 = .ok (.aload 7, 2) := by decide +kernel
theorem dB_walk_79 : decode cB_walk 79 = .ok (.lload 11, 2) := by decide +kernel
theorem dB_walk_81 : decode cB_walk 81 = .ok (.invokevirtual 147, 3) := by decide +kernel
theorem dB_walk_84 : decode cB_walk 84 = .ok (.ifCond .ne 4, 3) := by decide +kernel
theorem dB_walk_87 : decode cB_walk 87 = .ok (.return_, 1) := by decide +kernel
theorem dB_walk_88 : decode cB_walk 88 = .ok (.aload_n 0, 1) := by decide +kernel
theorem dB_walk_89 : decode cB_walk 89 = .ok (.iload_n 1, 1) := by decide +kernel
theorem dB_walk_90 : decode cB_walk 90 = .ok (.lload 11, 2) := by decide +kernel
theorem dB_walk_92 : decode cB_walk 92 = .ok (.aload 7, 2) := by decide +kernel
theorem dB_walk_94 : decode cB_walk 94 = .ok (.invokevirtual 133, 3) := by decide +kernel
theorem dB_walk_97 : decode cB_walk 97 = .ok (.aload_n 0, 1) := by decide +kernel
theorem dB_walk_98 : decode cB_walk 98 = .ok (.getfield 26, 3) := by decide +kernel
theorem dB_walk_101 : decode cB_walk 101 = .ok (.iload_n 1, 1) := by decide +kernel
theorem dB_walk_102 : decode cB_walk 102 = .ok (.aaload, 1) := by decide +kernel
theorem dB_walk_103 : decode cB_walk 103 = .ok (.aload_n 0, 1) := by decide +kernel
theorem dB_walk_104 : decode cB_walk 104 = .ok (.getfield 13, 3) := by decide +kernel
theorem dB_walk_107 : decode cB_walk 107 = .ok (.iload_n 1, 1) := by decide +kernel
theorem dB_walk_108 : decode cB_walk 108 = .ok (.aaload, 1) := by decide +kernel
theorem dB_walk_109 : decode cB_walk 109 = .ok (.iload 4, 2) := by decide +kernel
theorem dB_walk_111 : decode cB_walk 111 = .ok (.i2l, 1) := by decide +kernel
theorem dB_walk_112 : decode cB_walk 112 = .ok (.invokestatic 95, 3) := by decide +kernel
theorem dB_walk_115 : decode cB_walk 115 = .ok (.iinc 8 1, 3) := by decide +kernel
theorem dB_walk_118 : decode cB_walk 118 = .ok (.goto (-82), 3) := by decide +kernel
theorem dB_walk_121 : decode cB_walk 121 = .ok (.return_, 1) := by decide +kernel
theorem cb_V_addMultiple_B_walk_T (m9 : Nat) : CB yV_addMultiple cV_addMultiple 5 none rm_V_addMultiple (rmWn m9) 3 := ⟨wd187, wd1, by decide +kernel, rfl, rfl, by simp only [rm_V_addMultiple, rmWn]; omega⟩
theorem cb_V_copy_B_walk_T (m9 : Nat) : CB yV_copy cV_copy 2 none rm_V_copy (rmWn m9) 2 := ⟨wd170, wd1, by decide +kernel, rfl, rfl, by simp only [rm_V_copy, rmWn]; omega⟩
theorem cb_V_product_B_walk_T (m9 : Nat) : CB yV_product cV_product 5 (some .long) rm_V_product (rmWn m9) 2 := ⟨wd263, wd1, by decide +kernel, rfl, rfl, by simp only [rm_V_product, rmWn]; omega⟩
theorem cb_K_wants_T_B_walk_T (m9 : Nat) : CB yK_wants cK_wants 3 (some .boolean) rm_K_wants_T (rmWn m9) 1 := ⟨wd402, wd4, by decide +kernel, rfl, rfl, by simp only [rm_K_wants_T, rmWn]; omega⟩
noncomputable def lB_walk_T_36 (F : Nat) (D : Int32 → Int64 → (Nat → Nat → Int64) → (Nat → Int32) → Option ((Nat → Nat → Int64) × (Nat → Int32))) (x_bR : Nat → Nat → Int64) (x_bD : Nat → Nat → Int64) (x_bQ : Nat → Int64) (x_tb : Int64) (v1 : Int32) (v4 : Int32) (v5 : Int64) : Nat → Int32 → (Nat → Nat → Int64) → (Nat → Int32) → Option (((Nat → Nat → Int64) × (Nat → Int32)) ⊕ ((Nat → Nat → Int64) × (Nat → Int32)))
  | 0, _, _, _ => none
  | n + 1, v8, x_bS, x_ts => if (1000000 : Int32) ≤ v8 then some (.inl (x_bS, x_ts)) else gd (vp_in v1 4) (gd (vp_in v1 5) ((V_product F (x_bD v1.toNatClampNeg) (x_bS v1.toNatClampNeg) ).bind (fun r55 => gd (vp_in v1 4) (gd (¬ (x_bQ v1.toNatClampNeg) = 0) ((K_wants F x_tb (v5 + ((r55 * r55) / (x_bQ v1.toNatClampNeg)))).bind (fun r81 => if r81 = 0 then some (.inr (x_bS, x_ts)) else (D v1 (v5 + ((r55 * r55) / (x_bQ v1.toNatClampNeg))) x_bS x_ts).bind (fun r94 => gd (vp_in v1 5) (gd (vp_in v1 4) ((V_addMultiple F (r94.1 v1.toNatClampNeg) (x_bR v1.toNatClampNeg) v4.toInt64).bind (fun r112 => lB_walk_T_36 F D x_bR x_bD x_bQ x_tb v1 v4 v5 n (v8 + 1) (va_up r94.1 v1.toNatClampNeg r112) r94.2))))))))))
set_option maxHeartbeats 8000000 in
set_option maxRecDepth 100000 in
theorem lB_walk_T_36_ok {g : Gm} {κ : ctx} {m9 : Nat} (G : OK g κ RB cB_walk 13 none (rmWn m9)) (τ : MS) (F : Nat) (D : Int32 → Int64 → (Nat → Nat → Int64) → (Nat → Int32) → Option ((Nat → Nat → Int64) × (Nat → Int32))) {x_added : Nat → Nat → Int64} {x_asked : Nat → Int64} {x_eR : Nat → Nat → Int64} {x_et : Nat → Int64} {x_oR : Nat → Nat → Int64} {x_ot : Nat → Int64} {x_bR : Nat → Nat → Int64} {x_bD : Nat → Nat → Int64} {x_bQ : Nat → Int64} {x_bW : Nat → Int64} {x_bM : Nat → Nat → Int64} {x_bT : Nat → Int64} {x_bn : Int32} {x_tg : Nat → Int64} {x_tb : Int64} {x_fg : Nat → Int64} {x_fb : Int64} {x_fV : Nat → Nat → Int64} {x_fS : Nat → Int64} {x_fn : Int32} {x_cg : Nat → Int64} {x_cb : Int64} {x_cB : Nat → Int64} {x_cq : Int64} {x_vHeld : Int32} {x_vRed : Int32} {x_vTal : Int32} {x_vLis : Int32} (v1 : Int32) (v4 : Int32) (v5 : Int64) (hD : ∀ (x_bS : Nat → Nat → Int64) (x_ts : Nat → Int32) (v : Int64) (out : (Nat → Nat → Int64) × (Nat → Int32)), D v1 v x_bS x_ts = some out → Mt yB_descend cB_descend 8 none (rmDn m9) κ [.ref (κ.1 38), .int v1, .long v, .ref (κ.1 63)] (LM κ τ (LC κ (x_added, x_asked, x_eR, x_et, x_oR, x_ot, x_bR, x_bD, x_bQ, x_bW, x_bS, x_bM, x_bT, x_bn, x_tg, x_tb, x_ts, x_fg, x_fb, x_fV, x_fS, x_fn, x_cg, x_cb, x_cB, x_cq, x_vHeld, x_vRed, x_vTal, x_vLis))) none (LM κ τ (LC κ (x_added, x_asked, x_eR, x_et, x_oR, x_ot, x_bR, x_bD, x_bQ, x_bW, out.1, x_bM, x_bT, x_bn, x_tg, x_tb, out.2, x_fg, x_fb, x_fV, x_fS, x_fn, x_cg, x_cb, x_cB, x_cq, x_vHeld, x_vRed, x_vTal, x_vLis)))) : ∀ (n : Nat) (v8 : Int32) (x_bS : Nat → Nat → Int64) (x_ts : Nat → Int32) (out : ((Nat → Nat → Int64) × (Nat → Int32)) ⊕ ((Nat → Nat → Int64) × (Nat → Int32))), lB_walk_T_36 F D x_bR x_bD x_bQ x_tb v1 v4 v5 n v8 x_bS x_ts = some out → (∀ e, out = .inl e → (J g κ 13 121 [] [] (LM κ τ (LC κ (x_added, x_asked, x_eR, x_et, x_oR, x_ot, x_bR, x_bD, x_bQ, x_bW, e.1, x_bM, x_bT, x_bn, x_tg, x_tb, e.2, x_fg, x_fb, x_fV, x_fS, x_fn, x_cg, x_cb, x_cB, x_cq, x_vHeld, x_vRed, x_vTal, x_vLis))))) → (∀ r, out = .inr r → Fn g κ none (LM κ τ (LC κ (x_added, x_asked, x_eR, x_et, x_oR, x_ot, x_bR, x_bD, x_bQ, x_bW, r.1, x_bM, x_bT, x_bn, x_tg, x_tb, r.2, x_fg, x_fb, x_fV, x_fS, x_fn, x_cg, x_cb, x_cB, x_cq, x_vHeld, x_vRed, x_vTal, x_vLis)))) → J g κ 13 36 [(0, .ref (κ.1 38)), (1, .int v1), (4, .int v4), (5, .long v5), (7, .ref (κ.1 63)), (8, .int v8)] [] (LM κ τ (LC κ (x_added, x_asked, x_eR, x_et, x_oR, x_ot, x_bR, x_bD, x_bQ, x_bW, x_bS, x_bM, x_bT, x_bn, x_tg, x_tb, x_ts, x_fg, x_fb, x_fV, x_fS, x_fn, x_cg, x_cb, x_cB, x_cq, x_vHeld, x_vRed, x_vTal, x_vLis))) := by
  intro n
  induction n with
  | zero =>
    intro v8 x_bS x_ts
    intro out h
    rw [lB_walk_T_36] at h
    cases h
  | succ n ih =>
    intro v8 x_bS x_ts out h K K2
    rw [lB_walk_T_36] at h
    refine w_iload (pc := 36) (q := 5) G dB_walk_36 rfl ?_
    refine w_ldc (pc := 38) (v := (1000000 : Int32)) G wd252 dB_walk_38 ?_
    refine w_icmp_ge (pc := 40) (tgt := 121) G dB_walk_40 (by decide) (fun c40 => ?_) (fun c40 => ?_)
    · have h := if_t c40 h
      obtain rfl := Option.some.inj h
      refine w_sub (lv' := []) [] rfl ?_
      have K9 := K _ rfl
      exact K9
    · have h := if_f c40 h
      refine w_aload_n (pc := 43) (q := 0) G dB_walk_43 rfl rfl ?_
      refine w_get (pc := 44) (v := .ref (κ.1 44)) (fs := fl_B κ (x_added, x_asked, x_eR, x_et, x_oR, x_ot, x_bR, x_bD, x_bQ, x_bW, x_bS, x_bM, x_bT, x_bn, x_tg, x_tb, x_ts, x_fg, x_fb, x_fV, x_fS, x_fn, x_cg, x_cb, x_cB, x_cq, x_vHeld, x_vRed, x_vTal, x_vLis)) G 38 (by decide) lb_B rfl wsB_ok 1 (by decide) wd45 gf_B_1 dB_walk_44 ?_
      refine w_iload_n (pc := 47) (q := 1) G dB_walk_47 rfl rfl ?_
      obtain ⟨i48, h⟩ := gd_some h
      refine w_aald (pc := 48) (n := 4) (f := og κ 45 4) (b := κ.1 (45 + v1.toNatClampNeg)) G 44 (by decide) lo_bD i48 (og_at (ixlt i48)) dB_walk_48 ?_
      refine w_aload_n (pc := 49) (q := 0) G dB_walk_49 rfl rfl ?_
      refine w_get (pc := 50) (v := .ref (κ.1 51)) (fs := fl_B κ (x_added, x_asked, x_eR, x_et, x_oR, x_ot, x_bR, x_bD, x_bQ, x_bW, x_bS, x_bM, x_bT, x_bn, x_tg, x_tb, x_ts, x_fg, x_fb, x_fV, x_fS, x_fn, x_cg, x_cb, x_cB, x_cq, x_vHeld, x_vRed, x_vTal, x_vLis)) G 38 (by decide) lb_B rfl wsB_ok 4 (by decide) wd48 gf_B_4 dB_walk_50 ?_
      refine w_iload_n (pc := 53) (q := 1) G dB_walk_53 rfl rfl ?_
      obtain ⟨i54, h⟩ := gd_some h
      refine w_aald (pc := 54) (n := 5) (f := og κ 52 5) (b := κ.1 (52 + v1.toNatClampNeg)) G 51 (by decide) lo_bS i54 (og_at (ixlt i54)) dB_walk_54 ?_
      obtain ⟨r55, e55, h⟩ := bd h
      refine w_callSN (pc := 55) (av := [.ref (κ.1 (45 + v1.toNatClampNeg)), .ref (κ.1 (52 + v1.toNatClampNeg))]) (rest := []) (v := some (.long r55)) (L' := (LM κ τ (LC κ (x_added, x_asked, x_eR, x_et, x_oR, x_ot, x_bR, x_bD, x_bQ, x_bW, x_bS, x_bM, x_bT, x_bn, x_tg, x_tb, x_ts, x_fg, x_fb, x_fV, x_fS, x_fn, x_cg, x_cb, x_cB, x_cq, x_vHeld, x_vRed, x_vTal, x_vLis)))) G (cb_V_product_B_walk_T m9) wd262 wd261 (met_V_product κ (LM κ τ (LC κ (x_added, x_asked, x_eR, x_et, x_oR, x_ot, x_bR, x_bD, x_bQ, x_bW, x_bS, x_bM, x_bT, x_bn, x_tg, x_tb, x_ts, x_fg, x_fb, x_fV, x_fS, x_fn, x_cg, x_cb, x_cB, x_cq, x_vHeld, x_vRed, x_vTal, x_vLis))) F  (45 + v1.toNatClampNeg) (nw_bD (ixlt i48)) (x_bD v1.toNatClampNeg) (lk_bD (ixlt i48)) (52 + v1.toNatClampNeg) (nw_bS (ixlt i54)) (x_bS v1.toNatClampNeg) (lk_bS (ixlt i54)) e55) rfl rfl rfl (Nat.le_of_ble_eq_true rfl) dB_walk_55 ?_
      refine w_lstore (pc := 58) (lv' := [(9, .long r55), (0, .ref (κ.1 38)), (1, .int v1), (4, .int v4), (5, .long v5), (7, .ref (κ.1 63)), (8, .int v8)]) G dB_walk_58 (by decide) rfl ?_
      refine w_lload (pc := 60) (q := 4) G dB_walk_60 rfl ?_
      refine w_lload (pc := 62) (q := 0) G dB_walk_62 rfl ?_
      refine w_lload (pc := 64) (q := 0) G dB_walk_64 rfl ?_
      refine w_lmul (pc := 66) G dB_walk_66 ?_
      refine w_aload_n (pc := 67) (q := 1) G dB_walk_67 rfl rfl ?_
      refine w_get (pc := 68) (v := .ref (κ.1 49)) (fs := fl_B κ (x_added, x_asked, x_eR, x_et, x_oR, x_ot, x_bR, x_bD, x_bQ, x_bW, x_bS, x_bM, x_bT, x_bn, x_tg, x_tb, x_ts, x_fg, x_fb, x_fV, x_fS, x_fn, x_cg, x_cb, x_cB, x_cq, x_vHeld, x_vRed, x_vTal, x_vLis)) G 38 (by decide) lb_B rfl wsB_ok 2 (by decide) wd46 gf_B_2 dB_walk_68 ?_
      refine w_iload_n (pc := 71) (q := 2) G dB_walk_71 rfl rfl ?_
      obtain ⟨i72, h⟩ := gd_some h
      refine w_lald (pc := 72) (n := 4) (f := x_bQ) G 49 (by decide) lk_bQ i72 dB_walk_72 ?_
      obtain ⟨z73, h⟩ := gd_some h
      refine w_ldiv (pc := 73) G dB_walk_73 z73 ?_
      refine w_ladd (pc := 74) G dB_walk_74 ?_
      refine w_lstore (pc := 75) (lv' := [(11, .long (v5 + ((r55 * r55) / (x_bQ v1.toNatClampNeg)))), (9, .long r55), (0, .ref (κ.1 38)), (1, .int v1), (4, .int v4), (5, .long v5), (7, .ref (κ.1 63)), (8, .int v8)]) G dB_walk_75 (by decide) rfl ?_
      refine w_aload (pc := 77) (q := 6) G dB_walk_77 rfl ?_
      refine w_lload (pc := 79) (q := 0) G dB_walk_79 rfl ?_
      obtain ⟨r81, e81, h⟩ := bd h
      refine w_callU (pc := 81) (av := [.long (v5 + ((r55 * r55) / (x_bQ v1.toNatClampNeg)))]) (rest := []) (v := some (.int r81)) (L' := (LM κ τ (LC κ (x_added, x_asked, x_eR, x_et, x_oR, x_ot, x_bR, x_bD, x_bQ, x_bW, x_bS, x_bM, x_bT, x_bn, x_tg, x_tb, x_ts, x_fg, x_fb, x_fV, x_fS, x_fn, x_cg, x_cb, x_cB, x_cq, x_vHeld, x_vRed, x_vTal, x_vLis)))) (T := TT) (fs := fl_T κ (x_added, x_asked, x_eR, x_et, x_oR, x_ot, x_bR, x_bD, x_bQ, x_bW, x_bS, x_bM, x_bT, x_bn, x_tg, x_tb, x_ts, x_fg, x_fb, x_fV, x_fS, x_fn, x_cg, x_cb, x_cB, x_cq, x_vHeld, x_vRed, x_vTal, x_vLis)) G 63 4 3 (by decide) lb_T rfl (cb_K_wants_T_B_walk_T m9) wd429 wd759 wd762 wd401 wd399 (by decide) rfl (met_K_wants_T κ τ F (v5 + ((r55 * r55) / (x_bQ v1.toNatClampNeg)))  e81) rfl rfl rfl (Nat.le_of_ble_eq_true rfl) dB_walk_81 ?_
      refine w_if_ne (pc := 84) (tgt := 88) G dB_walk_84 (by decide) (fun c84 => ?_) (fun c84 => ?_)
      · have h := if_t c84 h
        obtain rfl := Option.some.inj h
        have K9 := K2 _ rfl
        exact w_vret (pc := 87) G dB_walk_87 K9
      · have h := if_f c84 h
        refine w_aload_n (pc := 88) (q := 2) G dB_walk_88 rfl rfl ?_
        refine w_iload_n (pc := 89) (q := 3) G dB_walk_89 rfl rfl ?_
        refine w_lload (pc := 90) (q := 0) G dB_walk_90 rfl ?_
        refine w_aload (pc := 92) (q := 6) G dB_walk_92 rfl ?_
        obtain ⟨r94, e94, h⟩ := bd h
        refine w_callV (pc := 94) (av := [.int v1, .long (v5 + ((r55 * r55) / (x_bQ v1.toNatClampNeg))), .ref (κ.1 63)]) (rest := []) (v := none) (L' := (LM κ τ (LC κ (x_added, x_asked, x_eR, x_et, x_oR, x_ot, x_bR, x_bD, x_bQ, x_bW, r94.1, x_bM, x_bT, x_bn, x_tg, x_tb, r94.2, x_fg, x_fb, x_fV, x_fS, x_fn, x_cg, x_cb, x_cB, x_cq, x_vHeld, x_vRed, x_vTal, x_vLis)))) (T := TB) (fs := fl_B κ (x_added, x_asked, x_eR, x_et, x_oR, x_ot, x_bR, x_bD, x_bQ, x_bW, x_bS, x_bM, x_bT, x_bn, x_tg, x_tb, x_ts, x_fg, x_fb, x_fV, x_fS, x_fn, x_cg, x_cb, x_cB, x_cq, x_vHeld, x_vRed, x_vTal, x_vLis)) G 38 3 8 (by decide) lb_B rfl (cbDW m9) wd379 ws15 wd377 (hD x_bS x_ts (v5 + ((r55 * r55) / (x_bQ v1.toNatClampNeg))) _ e94) rfl rfl rfl (Nat.le_of_ble_eq_true rfl) dB_walk_94 ?_
        refine w_aload_n (pc := 97) (q := 2) G dB_walk_97 rfl rfl ?_
        refine w_get (pc := 98) (v := .ref (κ.1 51)) (fs := fl_B κ (x_added, x_asked, x_eR, x_et, x_oR, x_ot, x_bR, x_bD, x_bQ, x_bW, r94.1, x_bM, x_bT, x_bn, x_tg, x_tb, r94.2, x_fg, x_fb, x_fV, x_fS, x_fn, x_cg, x_cb, x_cB, x_cq, x_vHeld, x_vRed, x_vTal, x_vLis)) G 38 (by decide) lb_B rfl wsB_ok 4 (by decide) wd48 gf_B_4 dB_walk_98 ?_
        refine w_iload_n (pc := 101) (q := 3) G dB_walk_101 rfl rfl ?_
        obtain ⟨i102, h⟩ := gd_some h
        refine w_aald (pc := 102) (n := 5) (f := og κ 52 5) (b := κ.1 (52 + v1.toNatClampNeg)) G 51 (by decide) lo_bS i102 (og_at (ixlt i102)) dB_walk_102 ?_
        refine w_aload_n (pc := 103) (q := 2) G dB_walk_103 rfl rfl ?_
        refine w_get (pc := 104) (v := .ref (κ.1 39)) (fs := fl_B κ (x_added, x_asked, x_eR, x_et, x_oR, x_ot, x_bR, x_bD, x_bQ, x_bW, r94.1, x_bM, x_bT, x_bn, x_tg, x_tb, r94.2, x_fg, x_fb, x_fV, x_fS, x_fn, x_cg, x_cb, x_cB, x_cq, x_vHeld, x_vRed, x_vTal, x_vLis)) G 38 (by decide) lb_B rfl wsB_ok 0 (by decide) wd44 gf_B_0 dB_walk_104 ?_
        refine w_iload_n (pc := 107) (q := 3) G dB_walk_107 rfl rfl ?_
        obtain ⟨i108, h⟩ := gd_some h
        refine w_aald (pc := 108) (n := 4) (f := og κ 40 4) (b := κ.1 (40 + v1.toNatClampNeg)) G 39 (by decide) lo_bR i108 (og_at (ixlt i108)) dB_walk_108 ?_
        refine w_iload (pc := 109) (q := 4) G dB_walk_109 rfl ?_
        refine w_i2l (pc := 111) G dB_walk_111 ?_
        obtain ⟨r112, e112, h⟩ := bd h
        refine w_callSN (pc := 112) (av := [.ref (κ.1 (52 + v1.toNatClampNeg)), .ref (κ.1 (40 + v1.toNatClampNeg)), .long v4.toInt64]) (rest := []) (v := none) (L' := (LM κ τ (LC κ (x_added, x_asked, x_eR, x_et, x_oR, x_ot, x_bR, x_bD, x_bQ, x_bW, va_up r94.1 v1.toNatClampNeg r112, x_bM, x_bT, x_bn, x_tg, x_tb, r94.2, x_fg, x_fb, x_fV, x_fS, x_fn, x_cg, x_cb, x_cB, x_cq, x_vHeld, x_vRed, x_vTal, x_vLis)))) G (cb_V_addMultiple_B_walk_T m9) wd186 wd273 (Mt.eqw (up_bS (ixlt i102)) (met_V_addMultiple κ (LM κ τ (LC κ (x_added, x_asked, x_eR, x_et, x_oR, x_ot, x_bR, x_bD, x_bQ, x_bW, r94.1, x_bM, x_bT, x_bn, x_tg, x_tb, r94.2, x_fg, x_fb, x_fV, x_fS, x_fn, x_cg, x_cb, x_cB, x_cq, x_vHeld, x_vRed, x_vTal, x_vLis))) F v4.toInt64 (52 + v1.toNatClampNeg) (nw_bS (ixlt i102)) (r94.1 v1.toNatClampNeg) (lk_bS (ixlt i102)) (40 + v1.toNatClampNeg) (nw_bR (ixlt i108)) (x_bR v1.toNatClampNeg) (lk_bR (ixlt i108)) (by have := (ixlt i108); have := (ixlt i102); omega) e112)) rfl rfl rfl (Nat.le_of_ble_eq_true rfl) dB_walk_112 ?_
        refine w_iinc (pc := 115) (q0 := 7) (v := (v8 + 1)) (lv' := [(8, .int (v8 + 1)), (11, .long (v5 + ((r55 * r55) / (x_bQ v1.toNatClampNeg)))), (9, .long r55), (0, .ref (κ.1 38)), (1, .int v1), (4, .int v4), (5, .long v5), (7, .ref (κ.1 63))]) G dB_walk_115 rfl rfl (by decide) rfl ?_
        refine w_goto (pc := 118) (tgt := 36) G dB_walk_118 (by decide) ?_
        refine w_sub (lv' := [(0, .ref (κ.1 38)), (1, .int v1), (4, .int v4), (5, .long v5), (7, .ref (κ.1 63)), (8, .int (v8 + 1))]) [3, 4, 5, 6, 7, 0] rfl ?_
        exact ih (v8 + 1) (va_up r94.1 v1.toNatClampNeg r112) r94.2 out h K K2
noncomputable def B_walk_T (F : Nat) (D : Int32 → Int64 → (Nat → Nat → Int64) → (Nat → Int32) → Option ((Nat → Nat → Int64) × (Nat → Int32)))  (x_bR : Nat → Nat → Int64) (x_bD : Nat → Nat → Int64) (x_bQ : Nat → Int64) (x_bS : Nat → Nat → Int64) (x_tb : Int64) (x_ts : Nat → Int32) (v1 : Int32) (v2 : Int64) (v4 : Int32) (v5 : Int64) : Option ((Nat → Nat → Int64) × (Nat → Int32)) := gd (vp_in (v1 + (1 : Int32)) 5) (gd (vp_in v1 5) (gd (¬ ((v1 + (1 : Int32)).toNatClampNeg) = v1.toNatClampNeg) ((V_copy F (x_bS (v1 + (1 : Int32)).toNatClampNeg) (x_bS v1.toNatClampNeg) ).bind (fun r14 => gd (vp_in v1 5) (gd (vp_in v1 4) ((V_addMultiple F ((va_up x_bS v1.toNatClampNeg r14) v1.toNatClampNeg) (x_bR v1.toNatClampNeg) v2).bind (fun r30 => (lB_walk_T_36 F D x_bR x_bD x_bQ x_tb v1 v4 v5 F (0 : Int32) (va_up (va_up x_bS v1.toNatClampNeg r14) v1.toNatClampNeg r30) x_ts).bind (fun o36_11 => match o36_11 with | .inl o36_11 => some (o36_11.1, o36_11.2) | .inr o36_11 => some o36_11))))))))
set_option maxHeartbeats 8000000 in
set_option maxRecDepth 100000 in
theorem met_B_walk_T (κ : ctx) (τ : MS) (F : Nat) (m9 : Nat) (D : Int32 → Int64 → (Nat → Nat → Int64) → (Nat → Int32) → Option ((Nat → Nat → Int64) × (Nat → Int32))) {x_added : Nat → Nat → Int64} {x_asked : Nat → Int64} {x_eR : Nat → Nat → Int64} {x_et : Nat → Int64} {x_oR : Nat → Nat → Int64} {x_ot : Nat → Int64} {x_bR : Nat → Nat → Int64} {x_bD : Nat → Nat → Int64} {x_bQ : Nat → Int64} {x_bW : Nat → Int64} {x_bS : Nat → Nat → Int64} {x_bM : Nat → Nat → Int64} {x_bT : Nat → Int64} {x_bn : Int32} {x_tg : Nat → Int64} {x_tb : Int64} {x_ts : Nat → Int32} {x_fg : Nat → Int64} {x_fb : Int64} {x_fV : Nat → Nat → Int64} {x_fS : Nat → Int64} {x_fn : Int32} {x_cg : Nat → Int64} {x_cb : Int64} {x_cB : Nat → Int64} {x_cq : Int64} {x_vHeld : Int32} {x_vRed : Int32} {x_vTal : Int32} {x_vLis : Int32} (v1 : Int32) (v2 : Int64) (v4 : Int32) (v5 : Int64) (hD : ∀ (x_bS : Nat → Nat → Int64) (x_ts : Nat → Int32) (v : Int64) (out : (Nat → Nat → Int64) × (Nat → Int32)), D v1 v x_bS x_ts = some out → Mt yB_descend cB_descend 8 none (rmDn m9) κ [.ref (κ.1 38), .int v1, .long v, .ref (κ.1 63)] (LM κ τ (LC κ (x_added, x_asked, x_eR, x_et, x_oR, x_ot, x_bR, x_bD, x_bQ, x_bW, x_bS, x_bM, x_bT, x_bn, x_tg, x_tb, x_ts, x_fg, x_fb, x_fV, x_fS, x_fn, x_cg, x_cb, x_cB, x_cq, x_vHeld, x_vRed, x_vTal, x_vLis))) none (LM κ τ (LC κ (x_added, x_asked, x_eR, x_et, x_oR, x_ot, x_bR, x_bD, x_bQ, x_bW, out.1, x_bM, x_bT, x_bn, x_tg, x_tb, out.2, x_fg, x_fb, x_fV, x_fS, x_fn, x_cg, x_cb, x_cB, x_cq, x_vHeld, x_vRed, x_vTal, x_vLis)))) {out : (Nat → Nat → Int64) × (Nat → Int32)} (h : B_walk_T F D x_bR x_bD x_bQ x_bS x_tb x_ts v1 v2 v4 v5 = some out) : Mt yB_walk cB_walk 13 none (rmWn m9) κ [.ref (κ.1 38), .int v1, .long v2, .int v4, .long v5, .ref (κ.1 63)] (LM κ τ (LC κ (x_added, x_asked, x_eR, x_et, x_oR, x_ot, x_bR, x_bD, x_bQ, x_bW, x_bS, x_bM, x_bT, x_bn, x_tg, x_tb, x_ts, x_fg, x_fb, x_fV, x_fS, x_fn, x_cg, x_cb, x_cB, x_cq, x_vHeld, x_vRed, x_vTal, x_vLis))) none (LM κ τ (LC κ (x_added, x_asked, x_eR, x_et, x_oR, x_ot, x_bR, x_bD, x_bQ, x_bW, out.1, x_bM, x_bT, x_bn, x_tg, x_tb, out.2, x_fg, x_fb, x_fV, x_fS, x_fn, x_cg, x_cb, x_cB, x_cq, x_vHeld, x_vRed, x_vTal, x_vLis))) := by
  refine Mt.of (by decide) (Nat.le_of_ble_eq_true rfl) ?_
  intro g G Fh
  unfold B_walk_T at h
  show J g κ 13 0 [(0, .ref (κ.1 38)), (1, .int v1), (2, .long v2), (4, .int v4), (5, .long v5), (7, .ref (κ.1 63))] [] (LM κ τ (LC κ (x_added, x_asked, x_eR, x_et, x_oR, x_ot, x_bR, x_bD, x_bQ, x_bW, x_bS, x_bM, x_bT, x_bn, x_tg, x_tb, x_ts, x_fg, x_fb, x_fV, x_fS, x_fn, x_cg, x_cb, x_cB, x_cq, x_vHeld, x_vRed, x_vTal, x_vLis)))
  refine w_aload_n (pc := 0) (q := 0) G dB_walk_0 rfl rfl ?_
  refine w_get (pc := 1) (v := .ref (κ.1 51)) (fs := fl_B κ (x_added, x_asked, x_eR, x_et, x_oR, x_ot, x_bR, x_bD, x_bQ, x_bW, x_bS, x_bM, x_bT, x_bn, x_tg, x_tb, x_ts, x_fg, x_fb, x_fV, x_fS, x_fn, x_cg, x_cb, x_cB, x_cq, x_vHeld, x_vRed, x_vTal, x_vLis)) G 38 (by decide) lb_B rfl wsB_ok 4 (by decide) wd48 gf_B_4 dB_walk_1 ?_
  refine w_iload_n (pc := 4) (q := 1) G dB_walk_4 rfl rfl ?_
  refine w_iconst (pc := 5) (v := (1 : Int32)) G dB_walk_5 (by decide) ?_
  refine w_iadd (pc := 6) G dB_walk_6 ?_
  obtain ⟨i7, h⟩ := gd_some h
  refine w_aald (pc := 7) (n := 5) (f := og κ 52 5) (b := κ.1 (52 + (v1 + (1 : Int32)).toNatClampNeg)) G 51 (by decide) lo_bS i7 (og_at (ixlt i7)) dB_walk_7 ?_
  refine w_aload_n (pc := 8) (q := 0) G dB_walk_8 rfl rfl ?_
  refine w_get (pc := 9) (v := .ref (κ.1 51)) (fs := fl_B κ (x_added, x_asked, x_eR, x_et, x_oR, x_ot, x_bR, x_bD, x_bQ, x_bW, x_bS, x_bM, x_bT, x_bn, x_tg, x_tb, x_ts, x_fg, x_fb, x_fV, x_fS, x_fn, x_cg, x_cb, x_cB, x_cq, x_vHeld, x_vRed, x_vTal, x_vLis)) G 38 (by decide) lb_B rfl wsB_ok 4 (by decide) wd48 gf_B_4 dB_walk_9 ?_
  refine w_iload_n (pc := 12) (q := 1) G dB_walk_12 rfl rfl ?_
  obtain ⟨i13, h⟩ := gd_some h
  refine w_aald (pc := 13) (n := 5) (f := og κ 52 5) (b := κ.1 (52 + v1.toNatClampNeg)) G 51 (by decide) lo_bS i13 (og_at (ixlt i13)) dB_walk_13 ?_
  obtain ⟨ne14, h⟩ := gd_some h
  obtain ⟨r14, e14, h⟩ := bd h
  refine w_callSN (pc := 14) (av := [.ref (κ.1 (52 + (v1 + (1 : Int32)).toNatClampNeg)), .ref (κ.1 (52 + v1.toNatClampNeg))]) (rest := []) (v := none) (L' := (LM κ τ (LC κ (x_added, x_asked, x_eR, x_et, x_oR, x_ot, x_bR, x_bD, x_bQ, x_bW, va_up x_bS v1.toNatClampNeg r14, x_bM, x_bT, x_bn, x_tg, x_tb, x_ts, x_fg, x_fb, x_fV, x_fS, x_fn, x_cg, x_cb, x_cB, x_cq, x_vHeld, x_vRed, x_vTal, x_vLis)))) G (cb_V_copy_B_walk_T m9) wd169 wd247 (Mt.eqw (up_bS (ixlt i13)) (met_V_copy κ (LM κ τ (LC κ (x_added, x_asked, x_eR, x_et, x_oR, x_ot, x_bR, x_bD, x_bQ, x_bW, x_bS, x_bM, x_bT, x_bn, x_tg, x_tb, x_ts, x_fg, x_fb, x_fV, x_fS, x_fn, x_cg, x_cb, x_cB, x_cq, x_vHeld, x_vRed, x_vTal, x_vLis))) F  (52 + (v1 + (1 : Int32)).toNatClampNeg) (nw_bS (ixlt i7)) (x_bS (v1 + (1 : Int32)).toNatClampNeg) (lk_bS (ixlt i7)) (52 + v1.toNatClampNeg) (nw_bS (ixlt i13)) (x_bS v1.toNatClampNeg) (lk_bS (ixlt i13)) (fun q => ne14 (by omega)) e14)) rfl rfl rfl (Nat.le_of_ble_eq_true rfl) dB_walk_14 ?_
  refine w_aload_n (pc := 17) (q := 0) G dB_walk_17 rfl rfl ?_
  refine w_get (pc := 18) (v := .ref (κ.1 51)) (fs := fl_B κ (x_added, x_asked, x_eR, x_et, x_oR, x_ot, x_bR, x_bD, x_bQ, x_bW, va_up x_bS v1.toNatClampNeg r14, x_bM, x_bT, x_bn, x_tg, x_tb, x_ts, x_fg, x_fb, x_fV, x_fS, x_fn, x_cg, x_cb, x_cB, x_cq, x_vHeld, x_vRed, x_vTal, x_vLis)) G 38 (by decide) lb_B rfl wsB_ok 4 (by decide) wd48 gf_B_4 dB_walk_18 ?_
  refine w_iload_n (pc := 21) (q := 1) G dB_walk_21 rfl rfl ?_
  obtain ⟨i22, h⟩ := gd_some h
  refine w_aald (pc := 22) (n := 5) (f := og κ 52 5) (b := κ.1 (52 + v1.toNatClampNeg)) G 51 (by decide) lo_bS i22 (og_at (ixlt i22)) dB_walk_22 ?_
  refine w_aload_n (pc := 23) (q := 0) G dB_walk_23 rfl rfl ?_
  refine w_get (pc := 24) (v := .ref (κ.1 39)) (fs := fl_B κ (x_added, x_asked, x_eR, x_et, x_oR, x_ot, x_bR, x_bD, x_bQ, x_bW, va_up x_bS v1.toNatClampNeg r14, x_bM, x_bT, x_bn, x_tg, x_tb, x_ts, x_fg, x_fb, x_fV, x_fS, x_fn, x_cg, x_cb, x_cB, x_cq, x_vHeld, x_vRed, x_vTal, x_vLis)) G 38 (by decide) lb_B rfl wsB_ok 0 (by decide) wd44 gf_B_0 dB_walk_24 ?_
  refine w_iload_n (pc := 27) (q := 1) G dB_walk_27 rfl rfl ?_
  obtain ⟨i28, h⟩ := gd_some h
  refine w_aald (pc := 28) (n := 4) (f := og κ 40 4) (b := κ.1 (40 + v1.toNatClampNeg)) G 39 (by decide) lo_bR i28 (og_at (ixlt i28)) dB_walk_28 ?_
  refine w_lload_n (pc := 29) (q := 2) G dB_walk_29 rfl rfl ?_
  obtain ⟨r30, e30, h⟩ := bd h
  refine w_callSN (pc := 30) (av := [.ref (κ.1 (52 + v1.toNatClampNeg)), .ref (κ.1 (40 + v1.toNatClampNeg)), .long v2]) (rest := []) (v := none) (L' := (LM κ τ (LC κ (x_added, x_asked, x_eR, x_et, x_oR, x_ot, x_bR, x_bD, x_bQ, x_bW, va_up (va_up x_bS v1.toNatClampNeg r14) v1.toNatClampNeg r30, x_bM, x_bT, x_bn, x_tg, x_tb, x_ts, x_fg, x_fb, x_fV, x_fS, x_fn, x_cg, x_cb, x_cB, x_cq, x_vHeld, x_vRed, x_vTal, x_vLis)))) G (cb_V_addMultiple_B_walk_T m9) wd186 wd273 (Mt.eqw (up_bS (ixlt i22)) (met_V_addMultiple κ (LM κ τ (LC κ (x_added, x_asked, x_eR, x_et, x_oR, x_ot, x_bR, x_bD, x_bQ, x_bW, va_up x_bS v1.toNatClampNeg r14, x_bM, x_bT, x_bn, x_tg, x_tb, x_ts, x_fg, x_fb, x_fV, x_fS, x_fn, x_cg, x_cb, x_cB, x_cq, x_vHeld, x_vRed, x_vTal, x_vLis))) F v2 (52 + v1.toNatClampNeg) (nw_bS (ixlt i22)) ((va_up x_bS v1.toNatClampNeg r14) v1.toNatClampNeg) (lk_bS (ixlt i22)) (40 + v1.toNatClampNeg) (nw_bR (ixlt i28)) (x_bR v1.toNatClampNeg) (lk_bR (ixlt i28)) (by have := (ixlt i28); have := (ixlt i22); omega) e30)) rfl rfl rfl (Nat.le_of_ble_eq_true rfl) dB_walk_30 ?_
  refine w_iconst (pc := 33) (v := (0 : Int32)) G dB_walk_33 (by decide) ?_
  refine w_istore (pc := 34) (lv' := [(8, .int (0 : Int32)), (0, .ref (κ.1 38)), (1, .int v1), (2, .long v2), (4, .int v4), (5, .long v5), (7, .ref (κ.1 63))]) G dB_walk_34 (by decide) rfl ?_
  refine w_sub (lv' := [(0, .ref (κ.1 38)), (1, .int v1), (4, .int v4), (5, .long v5), (7, .ref (κ.1 63)), (8, .int (0 : Int32))]) [1, 2, 4, 5, 6, 0] rfl ?_
  obtain ⟨o36_11, eo36_11, h⟩ := bd h
  rcases o36_11 with o36_11 | o36_11
  · refine lB_walk_T_36_ok G τ F D v1 v4 v5 hD F (0 : Int32) (va_up (va_up x_bS v1.toNatClampNeg r14) v1.toNatClampNeg r30) x_ts (.inl o36_11) eo36_11 (fun e he => ?_) (fun r he => by cases he)
    cases he
    dsimp only at h
    obtain rfl := Option.some.inj h
    exact w_vret (pc := 121) G dB_walk_121 Fh
  · refine lB_walk_T_36_ok G τ F D v1 v4 v5 hD F (0 : Int32) (va_up (va_up x_bS v1.toNatClampNeg r14) v1.toNatClampNeg r30) x_ts (.inr o36_11) eo36_11 (fun e he => by cases he) (fun r he => ?_)
    cases he
    dsimp only at h
    obtain rfl := Option.some.inj h
    exact Fh
theorem dB_descend_0 : decode cB_descend 0 = .ok (.iload_n 1, 1) := by decide +kernel
theorem dB_descend_1 : decode cB_descend 1 = .ok (.ifCond .gt 30, 3) := by decide +kernel
theorem dB_descend_4 : decode cB_descend 4 = .ok (.aload 4, 2) := by decide +kernel
theorem dB_descend_6 : decode cB_descend 6 = .ok (.aload_n 0, 1) := by decide +kernel
theorem dB_descend_7 : decode cB_descend 7 = .ok (.getfield 26, 3) := by decide +kernel
theorem dB_descend_10 : decode cB_descend 10 = .ok (.iconst 0, 1) := by decide +kernel
theorem dB_descend_11 : decode cB_descend 11 = .ok (.aaload, 1) := by decide +kernel
theorem dB_descend_12 : decode cB_descend 12 = .ok (.aload_n 0, 1) := by decide +kernel
theorem dB_descend_13 : decode cB_descend 13 = .ok (.getfield 26, 3) := by decide +kernel
theorem dB_descend_16 : decode cB_descend 16 = .ok (.iconst 0, 1) := by decide +kernel
theorem dB_descend_17 : decode cB_descend 17 = .ok (.aaload, 1) := by decide +kernel
theorem dB_descend_18 : decode cB_descend 18 = .ok (.aload_n 0, 1) := by decide +kernel
theorem dB_descend_19 : decode cB_descend 19 = .ok (.getfield 26, 3) := by decide +kernel
theorem dB_descend_22 : decode cB_descend 22 = .ok (.iconst 0, 1) := by decide +kernel
theorem dB_descend_23 : decode cB_descend 23 = .ok (.aaload, 1) := by decide +kernel
theorem dB_descend_24 : decode cB_descend 24 = .ok (.invokestatic 63, 3) := by decide +kernel
theorem dB_descend_27 : decode cB_descend 27 = .ok (.invokevirtual 140, 3) := by decide +kernel
theorem dB_descend_30 : decode cB_descend 30 = .ok (.return_, 1) := by decide +kernel
theorem dB_descend_31 : decode cB_descend 31 = .ok (.iload_n 1, 1) := by decide +kernel
theorem dB_descend_32 : decode cB_descend 32 = .ok (.iconst 1, 1) := by decide +kernel
theorem dB_descend_33 : decode cB_descend 33 = .ok (.isub, 1) := by decide +kernel
theorem dB_descend_34 : decode cB_descend 34 = .ok (.istore 5, 2) := by decide +kernel
theorem dB_descend_36 : decode cB_descend 36 = .ok (.aload_n 0, 1) := by decide +kernel
theorem dB_descend_37 : decode cB_descend 37 = .ok (.getfield 16, 3) := by decide +kernel
theorem dB_descend_40 : decode cB_descend 40 = .ok (.iload 5, 2) := by decide +kernel
theorem dB_descend_42 : decode cB_descend 42 = .ok (.aaload, 1) := by decide +kernel
theorem dB_descend_43 : decode cB_descend 43 = .ok (.aload_n 0, 1) := by decide +kernel
theorem dB_descend_44 : decode cB_descend 44 = .ok (.getfield 26, 3) := by decide +kernel
theorem dB_descend_47 : decode cB_descend 47 = .ok (.iload_n 1, 1) := by decide +kernel
theorem dB_descend_48 : decode cB_descend 48 = .ok (.aaload, 1) := by decide +kernel
theorem dB_descend_49 : decode cB_descend 49 = .ok (.invokestatic 63, 3) := by decide +kernel
theorem dB_descend_52 : decode cB_descend 52 = .ok (.aload_n 0, 1) := by decide +kernel
theorem dB_descend_53 : decode cB_descend 53 = .ok (.getfield 23, 3) := by decide +kernel
theorem dB_descend_56 : decode cB_descend 56 = .ok (.iload 5, 2) := by decide +kernel
theorem dB_descend_58 : decode cB_descend 58 = .ok (.laload, 1) := by decide +kernel
theorem dB_descend_59 : decode cB_descend 59 = .ok (.invokestatic 91, 3) := by decide +kernel
theorem dB_descend_62 : decode cB_descend 62 = .ok (.lneg, 1) := by decide +kernel
theorem dB_descend_63 : decode cB_descend 63 = .ok (.lstore 6, 2) := by decide +kernel
theorem dB_descend_65 : decode cB_descend 65 = .ok (.aload_n 0, 1) := by decide +kernel
theorem dB_descend_66 : decode cB_descend 66 = .ok (.iload 5, 2) := by decide +kernel
theorem dB_descend_68 : decode cB_descend 68 = .ok (.lload 6, 2) := by decide +kernel
theorem dB_descend_70 : decode cB_descend 70 = .ok (.iconst 1, 1) := by decide +kernel
theorem dB_descend_71 : decode cB_descend 71 = .ok (.lload_n 2, 1) := by decide +kernel
theorem dB_descend_72 : decode cB_descend 72 = .ok (.aload 4, 2) := by decide +kernel
theorem dB_descend_74 : decode cB_descend 74 = .ok (.invokevirtual 143, 3) := by decide +kernel
theorem dB_descend_77 : decode cB_descend 77 = .ok (.aload_n 0, 1) := by decide +kernel
theorem dB_descend_78 : decode cB_descend 78 = .ok (.iload 5, 2) := by decide +kernel
theorem dB_descend_80 : decode cB_descend 80 = .ok (.lload 6, 2) := by decide +kernel
theorem dB_descend_82 : decode cB_descend 82 = .ok (.lconst 1, 1) := by decide +kernel
theorem dB_descend_83 : decode cB_descend 83 = .ok (.lsub, 1) := by decide +kernel
theorem dB_descend_84 : decode cB_descend 84 = .ok (.iconst (-1), 1) := by decide +kernel
theorem dB_descend_85 : decode cB_descend 85 = .ok (.lload_n 2, 1) := by decide +kernel
theorem dB_descend_86 : decode cB_descend 86 = .ok (.aload 4, 2) := by decide +kernel
theorem dB_descend_88 : decode cB_descend 88 = .ok (.invokevirtual 143, 3) := by decide +kernel
theorem dB_descend_91 : decode cB_descend 91 = .ok (.return_, 1) := by decide +kernel
theorem cb_V_nearestQuotient_B_desc_T (m9 : Nat) : CB yV_nearestQuotient cV_nearestQuotient 4 (some .long) rm_V_nearestQuotient (rmDn (m9 + 1)) 2 := ⟨wd270, wd1, by decide +kernel, rfl, rfl, by simp only [rm_V_nearestQuotient, rmDn]; omega⟩
theorem cb_V_product_B_desc_T (m9 : Nat) : CB yV_product cV_product 5 (some .long) rm_V_product (rmDn (m9 + 1)) 2 := ⟨wd263, wd1, by decide +kernel, rfl, rfl, by simp only [rm_V_product, rmDn]; omega⟩
theorem cb_T_meet_B_desc_T (m9 : Nat) : CB yT_meet cT_meet 4 none rm_T_meet (rmDn (m9 + 1)) 2 := ⟨wd421, wd5, by decide +kernel, rfl, rfl, by simp only [rm_T_meet, rmDn]; omega⟩
noncomputable def B_desc_T (F : Nat) (Wk : Int32 → Int64 → Int32 → Int64 → (Nat → Nat → Int64) → (Nat → Int32) → Option ((Nat → Nat → Int64) × (Nat → Int32)))  (x_bD : Nat → Nat → Int64) (x_bW : Nat → Int64) (x_bS : Nat → Nat → Int64) (x_tb : Int64) (x_ts : Nat → Int32) (v1 : Int32) (v2 : Int64) : Option ((Nat → Nat → Int64) × (Nat → Int32)) := if 0 < v1 then gd (vp_in (v1 - (1 : Int32)) 4) (gd (vp_in v1 5) ((V_product F (x_bD (v1 - (1 : Int32)).toNatClampNeg) (x_bS v1.toNatClampNeg) ).bind (fun r49 => gd (vp_in (v1 - (1 : Int32)) 4) ((V_nearestQuotient F  r49 (x_bW (v1 - (1 : Int32)).toNatClampNeg)).bind (fun r59 => (Wk (v1 - (1 : Int32)) (-r59) (1 : Int32) v2 x_bS x_ts).bind (fun r74 => (Wk (v1 - (1 : Int32)) ((-r59) - (1 : Int64)) (-1 : Int32) v2 r74.1 r74.2).bind (fun r88 => some (r88.1, r88.2)))))))) else gd (vp_in (0 : Int32) 5) (gd (vp_in (0 : Int32) 5) (gd (vp_in (0 : Int32) 5) ((V_product F (x_bS (0 : Int32).toNatClampNeg) (x_bS (0 : Int32).toNatClampNeg) ).bind (fun r24 => (T_meet F x_tb x_ts r24).bind (fun r27 => some (x_bS, r27))))))
set_option maxHeartbeats 8000000 in
set_option maxRecDepth 100000 in
theorem met_B_desc_T (κ : ctx) (τ : MS) (F : Nat) (m9 : Nat) (Wk : Int32 → Int64 → Int32 → Int64 → (Nat → Nat → Int64) → (Nat → Int32) → Option ((Nat → Nat → Int64) × (Nat → Int32))) {x_added : Nat → Nat → Int64} {x_asked : Nat → Int64} {x_eR : Nat → Nat → Int64} {x_et : Nat → Int64} {x_oR : Nat → Nat → Int64} {x_ot : Nat → Int64} {x_bR : Nat → Nat → Int64} {x_bD : Nat → Nat → Int64} {x_bQ : Nat → Int64} {x_bW : Nat → Int64} {x_bS : Nat → Nat → Int64} {x_bM : Nat → Nat → Int64} {x_bT : Nat → Int64} {x_bn : Int32} {x_tg : Nat → Int64} {x_tb : Int64} {x_ts : Nat → Int32} {x_fg : Nat → Int64} {x_fb : Int64} {x_fV : Nat → Nat → Int64} {x_fS : Nat → Int64} {x_fn : Int32} {x_cg : Nat → Int64} {x_cb : Int64} {x_cB : Nat → Int64} {x_cq : Int64} {x_vHeld : Int32} {x_vRed : Int32} {x_vTal : Int32} {x_vLis : Int32} (v1 : Int32) (v2 : Int64) (hW : ∀ (x_bS : Nat → Nat → Int64) (x_ts : Nat → Int32) (a : Int64) (b : Int32) (v : Int64) (out : (Nat → Nat → Int64) × (Nat → Int32)), Wk (v1 - (1 : Int32)) a b v x_bS x_ts = some out → Mt yB_walk cB_walk 13 none (rmWn m9) κ [.ref (κ.1 38), .int (v1 - (1 : Int32)), .long a, .int b, .long v, .ref (κ.1 63)] (LM κ τ (LC κ (x_added, x_asked, x_eR, x_et, x_oR, x_ot, x_bR, x_bD, x_bQ, x_bW, x_bS, x_bM, x_bT, x_bn, x_tg, x_tb, x_ts, x_fg, x_fb, x_fV, x_fS, x_fn, x_cg, x_cb, x_cB, x_cq, x_vHeld, x_vRed, x_vTal, x_vLis))) none (LM κ τ (LC κ (x_added, x_asked, x_eR, x_et, x_oR, x_ot, x_bR, x_bD, x_bQ, x_bW, out.1, x_bM, x_bT, x_bn, x_tg, x_tb, out.2, x_fg, x_fb, x_fV, x_fS, x_fn, x_cg, x_cb, x_cB, x_cq, x_vHeld, x_vRed, x_vTal, x_vLis)))) {out : (Nat → Nat → Int64) × (Nat → Int32)} (h : B_desc_T F Wk x_bD x_bW x_bS x_tb x_ts v1 v2 = some out) : Mt yB_descend cB_descend 8 none (rmDn (m9 + 1)) κ [.ref (κ.1 38), .int v1, .long v2, .ref (κ.1 63)] (LM κ τ (LC κ (x_added, x_asked, x_eR, x_et, x_oR, x_ot, x_bR, x_bD, x_bQ, x_bW, x_bS, x_bM, x_bT, x_bn, x_tg, x_tb, x_ts, x_fg, x_fb, x_fV, x_fS, x_fn, x_cg, x_cb, x_cB, x_cq, x_vHeld, x_vRed, x_vTal, x_vLis))) none (LM κ τ (LC κ (x_added, x_asked, x_eR, x_et, x_oR, x_ot, x_bR, x_bD, x_bQ, x_bW, out.1, x_bM, x_bT, x_bn, x_tg, x_tb, out.2, x_fg, x_fb, x_fV, x_fS, x_fn, x_cg, x_cb, x_cB, x_cq, x_vHeld, x_vRed, x_vTal, x_vLis))) := by
  refine Mt.of (by decide) (Nat.le_of_ble_eq_true rfl) ?_
  intro g G Fh
  unfold B_desc_T at h
  show J g κ 8 0 [(0, .ref (κ.1 38)), (1, .int v1), (2, .long v2), (4, .ref (κ.1 63))] [] (LM κ τ (LC κ (x_added, x_asked, x_eR, x_et, x_oR, x_ot, x_bR, x_bD, x_bQ, x_bW, x_bS, x_bM, x_bT, x_bn, x_tg, x_tb, x_ts, x_fg, x_fb, x_fV, x_fS, x_fn, x_cg, x_cb, x_cB, x_cq, x_vHeld, x_vRed, x_vTal, x_vLis)))
  refine w_iload_n (pc := 0) (q := 1) G dB_descend_0 rfl rfl ?_
  refine w_if_gt (pc := 1) (tgt := 31) G dB_descend_1 (by decide) (fun c1 => ?_) (fun c1 => ?_)
  · have h := if_t c1 h
    refine w_iload_n (pc := 31) (q := 1) G dB_descend_31 rfl rfl ?_
    refine w_iconst (pc := 32) (v := (1 : Int32)) G dB_descend_32 (by decide) ?_
    refine w_isub (pc := 33) G dB_descend_33 ?_
    refine w_istore (pc := 34) (lv' := [(5, .int (v1 - (1 : Int32))), (0, .ref (κ.1 38)), (1, .int v1), (2, .long v2), (4, .ref (κ.1 63))]) G dB_descend_34 (by decide) rfl ?_
    refine w_aload_n (pc := 36) (q := 1) G dB_descend_36 rfl rfl ?_
    refine w_get (pc := 37) (v := .ref (κ.1 44)) (fs := fl_B κ (x_added, x_asked, x_eR, x_et, x_oR, x_ot, x_bR, x_bD, x_bQ, x_bW, x_bS, x_bM, x_bT, x_bn, x_tg, x_tb, x_ts, x_fg, x_fb, x_fV, x_fS, x_fn, x_cg, x_cb, x_cB, x_cq, x_vHeld, x_vRed, x_vTal, x_vLis)) G 38 (by decide) lb_B rfl wsB_ok 1 (by decide) wd45 gf_B_1 dB_descend_37 ?_
    refine w_iload (pc := 40) (q := 0) G dB_descend_40 rfl ?_
    obtain ⟨i42, h⟩ := gd_some h
    refine w_aald (pc := 42) (n := 4) (f := og κ 45 4) (b := κ.1 (45 + (v1 - (1 : Int32)).toNatClampNeg)) G 44 (by decide) lo_bD i42 (og_at (ixlt i42)) dB_descend_42 ?_
    refine w_aload_n (pc := 43) (q := 1) G dB_descend_43 rfl rfl ?_
    refine w_get (pc := 44) (v := .ref (κ.1 51)) (fs := fl_B κ (x_added, x_asked, x_eR, x_et, x_oR, x_ot, x_bR, x_bD, x_bQ, x_bW, x_bS, x_bM, x_bT, x_bn, x_tg, x_tb, x_ts, x_fg, x_fb, x_fV, x_fS, x_fn, x_cg, x_cb, x_cB, x_cq, x_vHeld, x_vRed, x_vTal, x_vLis)) G 38 (by decide) lb_B rfl wsB_ok 4 (by decide) wd48 gf_B_4 dB_descend_44 ?_
    refine w_iload_n (pc := 47) (q := 2) G dB_descend_47 rfl rfl ?_
    obtain ⟨i48, h⟩ := gd_some h
    refine w_aald (pc := 48) (n := 5) (f := og κ 52 5) (b := κ.1 (52 + v1.toNatClampNeg)) G 51 (by decide) lo_bS i48 (og_at (ixlt i48)) dB_descend_48 ?_
    obtain ⟨r49, e49, h⟩ := bd h
    refine w_callSN (pc := 49) (av := [.ref (κ.1 (45 + (v1 - (1 : Int32)).toNatClampNeg)), .ref (κ.1 (52 + v1.toNatClampNeg))]) (rest := []) (v := some (.long r49)) (L' := (LM κ τ (LC κ (x_added, x_asked, x_eR, x_et, x_oR, x_ot, x_bR, x_bD, x_bQ, x_bW, x_bS, x_bM, x_bT, x_bn, x_tg, x_tb, x_ts, x_fg, x_fb, x_fV, x_fS, x_fn, x_cg, x_cb, x_cB, x_cq, x_vHeld, x_vRed, x_vTal, x_vLis)))) G (cb_V_product_B_desc_T m9) wd262 wd261 (met_V_product κ (LM κ τ (LC κ (x_added, x_asked, x_eR, x_et, x_oR, x_ot, x_bR, x_bD, x_bQ, x_bW, x_bS, x_bM, x_bT, x_bn, x_tg, x_tb, x_ts, x_fg, x_fb, x_fV, x_fS, x_fn, x_cg, x_cb, x_cB, x_cq, x_vHeld, x_vRed, x_vTal, x_vLis))) F  (45 + (v1 - (1 : Int32)).toNatClampNeg) (nw_bD (ixlt i42)) (x_bD (v1 - (1 : Int32)).toNatClampNeg) (lk_bD (ixlt i42)) (52 + v1.toNatClampNeg) (nw_bS (ixlt i48)) (x_bS v1.toNatClampNeg) (lk_bS (ixlt i48)) e49) rfl rfl rfl (Nat.le_of_ble_eq_true rfl) dB_descend_49 ?_
    refine w_aload_n (pc := 52) (q := 1) G dB_descend_52 rfl rfl ?_
    refine w_get (pc := 53) (v := .ref (κ.1 50)) (fs := fl_B κ (x_added, x_asked, x_eR, x_et, x_oR, x_ot, x_bR, x_bD, x_bQ, x_bW, x_bS, x_bM, x_bT, x_bn, x_tg, x_tb, x_ts, x_fg, x_fb, x_fV, x_fS, x_fn, x_cg, x_cb, x_cB, x_cq, x_vHeld, x_vRed, x_vTal, x_vLis)) G 38 (by decide) lb_B rfl wsB_ok 3 (by decide) wd47 gf_B_3 dB_descend_53 ?_
    refine w_iload (pc := 56) (q := 0) G dB_descend_56 rfl ?_
    obtain ⟨i58, h⟩ := gd_some h
    refine w_lald (pc := 58) (n := 4) (f := x_bW) G 50 (by decide) lk_bW i58 dB_descend_58 ?_
    obtain ⟨r59, e59, h⟩ := bd h
    refine w_callSN (pc := 59) (av := [.long r49, .long (x_bW (v1 - (1 : Int32)).toNatClampNeg)]) (rest := []) (v := some (.long r59)) (L' := (LM κ τ (LC κ (x_added, x_asked, x_eR, x_et, x_oR, x_ot, x_bR, x_bD, x_bQ, x_bW, x_bS, x_bM, x_bT, x_bn, x_tg, x_tb, x_ts, x_fg, x_fb, x_fV, x_fS, x_fn, x_cg, x_cb, x_cB, x_cq, x_vHeld, x_vRed, x_vTal, x_vLis)))) G (cb_V_nearestQuotient_B_desc_T m9) wd269 wd268 (met_V_nearestQuotient κ (LM κ τ (LC κ (x_added, x_asked, x_eR, x_et, x_oR, x_ot, x_bR, x_bD, x_bQ, x_bW, x_bS, x_bM, x_bT, x_bn, x_tg, x_tb, x_ts, x_fg, x_fb, x_fV, x_fS, x_fn, x_cg, x_cb, x_cB, x_cq, x_vHeld, x_vRed, x_vTal, x_vLis))) F r49 (x_bW (v1 - (1 : Int32)).toNatClampNeg)  e59) rfl rfl rfl (Nat.le_of_ble_eq_true rfl) dB_descend_59 ?_
    refine w_lneg (pc := 62) G dB_descend_62 ?_
    refine w_lstore (pc := 63) (lv' := [(6, .long (-r59)), (5, .int (v1 - (1 : Int32))), (0, .ref (κ.1 38)), (1, .int v1), (2, .long v2), (4, .ref (κ.1 63))]) G dB_descend_63 (by decide) rfl ?_
    refine w_aload_n (pc := 65) (q := 2) G dB_descend_65 rfl rfl ?_
    refine w_iload (pc := 66) (q := 1) G dB_descend_66 rfl ?_
    refine w_lload (pc := 68) (q := 0) G dB_descend_68 rfl ?_
    refine w_iconst (pc := 70) (v := (1 : Int32)) G dB_descend_70 (by decide) ?_
    refine w_lload_n (pc := 71) (q := 4) G dB_descend_71 rfl rfl ?_
    refine w_aload (pc := 72) (q := 5) G dB_descend_72 rfl ?_
    obtain ⟨r74, e74, h⟩ := bd h
    refine w_callV (pc := 74) (av := [.int (v1 - (1 : Int32)), .long (-r59), .int (1 : Int32), .long v2, .ref (κ.1 63)]) (rest := []) (v := none) (L' := (LM κ τ (LC κ (x_added, x_asked, x_eR, x_et, x_oR, x_ot, x_bR, x_bD, x_bQ, x_bW, r74.1, x_bM, x_bT, x_bn, x_tg, x_tb, r74.2, x_fg, x_fb, x_fV, x_fS, x_fn, x_cg, x_cb, x_cB, x_cq, x_vHeld, x_vRed, x_vTal, x_vLis)))) (T := TB) (fs := fl_B κ (x_added, x_asked, x_eR, x_et, x_oR, x_ot, x_bR, x_bD, x_bQ, x_bW, x_bS, x_bM, x_bT, x_bn, x_tg, x_tb, x_ts, x_fg, x_fb, x_fV, x_fS, x_fn, x_cg, x_cb, x_cB, x_cq, x_vHeld, x_vRed, x_vTal, x_vLis)) G 38 3 8 (by decide) lb_B rfl (cbWD m9) wd427 ws18 wd425 (hW x_bS x_ts (-r59) (1 : Int32) v2 _ e74) rfl rfl rfl (Nat.le_of_ble_eq_true rfl) dB_descend_74 ?_
    refine w_aload_n (pc := 77) (q := 2) G dB_descend_77 rfl rfl ?_
    refine w_iload (pc := 78) (q := 1) G dB_descend_78 rfl ?_
    refine w_lload (pc := 80) (q := 0) G dB_descend_80 rfl ?_
    refine w_lconst (pc := 82) (v := (1 : Int64)) G dB_descend_82 (by decide) ?_
    refine w_lsub (pc := 83) G dB_descend_83 ?_
    refine w_iconst (pc := 84) (v := (-1 : Int32)) G dB_descend_84 (by decide) ?_
    refine w_lload_n (pc := 85) (q := 4) G dB_descend_85 rfl rfl ?_
    refine w_aload (pc := 86) (q := 5) G dB_descend_86 rfl ?_
    obtain ⟨r88, e88, h⟩ := bd h
    refine w_callV (pc := 88) (av := [.int (v1 - (1 : Int32)), .long ((-r59) - (1 : Int64)), .int (-1 : Int32), .long v2, .ref (κ.1 63)]) (rest := []) (v := none) (L' := (LM κ τ (LC κ (x_added, x_asked, x_eR, x_et, x_oR, x_ot, x_bR, x_bD, x_bQ, x_bW, r88.1, x_bM, x_bT, x_bn, x_tg, x_tb, r88.2, x_fg, x_fb, x_fV, x_fS, x_fn, x_cg, x_cb, x_cB, x_cq, x_vHeld, x_vRed, x_vTal, x_vLis)))) (T := TB) (fs := fl_B κ (x_added, x_asked, x_eR, x_et, x_oR, x_ot, x_bR, x_bD, x_bQ, x_bW, r74.1, x_bM, x_bT, x_bn, x_tg, x_tb, r74.2, x_fg, x_fb, x_fV, x_fS, x_fn, x_cg, x_cb, x_cB, x_cq, x_vHeld, x_vRed, x_vTal, x_vLis)) G 38 3 8 (by decide) lb_B rfl (cbWD m9) wd427 ws18 wd425 (hW r74.1 r74.2 ((-r59) - (1 : Int64)) (-1 : Int32) v2 _ e88) rfl rfl rfl (Nat.le_of_ble_eq_true rfl) dB_descend_88 ?_
    obtain rfl := Option.some.inj h
    exact w_vret (pc := 91) G dB_descend_91 Fh
  · have h := if_f c1 h
    refine w_aload (pc := 4) (q := 3) G dB_descend_4 rfl ?_
    refine w_aload_n (pc := 6) (q := 0) G dB_descend_6 rfl rfl ?_
    refine w_get (pc := 7) (v := .ref (κ.1 51)) (fs := fl_B κ (x_added, x_asked, x_eR, x_et, x_oR, x_ot, x_bR, x_bD, x_bQ, x_bW, x_bS, x_bM, x_bT, x_bn, x_tg, x_tb, x_ts, x_fg, x_fb, x_fV, x_fS, x_fn, x_cg, x_cb, x_cB, x_cq, x_vHeld, x_vRed, x_vTal, x_vLis)) G 38 (by decide) lb_B rfl wsB_ok 4 (by decide) wd48 gf_B_4 dB_descend_7 ?_
    refine w_iconst (pc := 10) (v := (0 : Int32)) G dB_descend_10 (by decide) ?_
    obtain ⟨i11, h⟩ := gd_some h
    refine w_aald (pc := 11) (n := 5) (f := og κ 52 5) (b := κ.1 (52 + (0 : Int32).toNatClampNeg)) G 51 (by decide) lo_bS i11 (og_at (ixlt i11)) dB_descend_11 ?_
    refine w_aload_n (pc := 12) (q := 0) G dB_descend_12 rfl rfl ?_
    refine w_get (pc := 13) (v := .ref (κ.1 51)) (fs := fl_B κ (x_added, x_asked, x_eR, x_et, x_oR, x_ot, x_bR, x_bD, x_bQ, x_bW, x_bS, x_bM, x_bT, x_bn, x_tg, x_tb, x_ts, x_fg, x_fb, x_fV, x_fS, x_fn, x_cg, x_cb, x_cB, x_cq, x_vHeld, x_vRed, x_vTal, x_vLis)) G 38 (by decide) lb_B rfl wsB_ok 4 (by decide) wd48 gf_B_4 dB_descend_13 ?_
    refine w_iconst (pc := 16) (v := (0 : Int32)) G dB_descend_16 (by decide) ?_
    obtain ⟨i17, h⟩ := gd_some h
    refine w_aald (pc := 17) (n := 5) (f := og κ 52 5) (b := κ.1 (52 + (0 : Int32).toNatClampNeg)) G 51 (by decide) lo_bS i17 (og_at (ixlt i17)) dB_descend_17 ?_
    refine w_aload_n (pc := 18) (q := 0) G dB_descend_18 rfl rfl ?_
    refine w_get (pc := 19) (v := .ref (κ.1 51)) (fs := fl_B κ (x_added, x_asked, x_eR, x_et, x_oR, x_ot, x_bR, x_bD, x_bQ, x_bW, x_bS, x_bM, x_bT, x_bn, x_tg, x_tb, x_ts, x_fg, x_fb, x_fV, x_fS, x_fn, x_cg, x_cb, x_cB, x_cq, x_vHeld, x_vRed, x_vTal, x_vLis)) G 38 (by decide) lb_B rfl wsB_ok 4 (by decide) wd48 gf_B_4 dB_descend_19 ?_
    refine w_iconst (pc := 22) (v := (0 : Int32)) G dB_descend_22 (by decide) ?_
    obtain ⟨i23, h⟩ := gd_some h
    refine w_aald (pc := 23) (n := 5) (f := og κ 52 5) (b := κ.1 (52 + (0 : Int32).toNatClampNeg)) G 51 (by decide) lo_bS i23 (og_at (ixlt i23)) dB_descend_23 ?_
    obtain ⟨r24, e24, h⟩ := bd h
    refine w_callSN (pc := 24) (av := [.ref (κ.1 (52 + (0 : Int32).toNatClampNeg)), .ref (κ.1 (52 + (0 : Int32).toNatClampNeg))]) (rest := [.ref (κ.1 (52 + (0 : Int32).toNatClampNeg)), .ref (κ.1 63)]) (v := some (.long r24)) (L' := (LM κ τ (LC κ (x_added, x_asked, x_eR, x_et, x_oR, x_ot, x_bR, x_bD, x_bQ, x_bW, x_bS, x_bM, x_bT, x_bn, x_tg, x_tb, x_ts, x_fg, x_fb, x_fV, x_fS, x_fn, x_cg, x_cb, x_cB, x_cq, x_vHeld, x_vRed, x_vTal, x_vLis)))) G (cb_V_product_B_desc_T m9) wd262 wd261 (met_V_product κ (LM κ τ (LC κ (x_added, x_asked, x_eR, x_et, x_oR, x_ot, x_bR, x_bD, x_bQ, x_bW, x_bS, x_bM, x_bT, x_bn, x_tg, x_tb, x_ts, x_fg, x_fb, x_fV, x_fS, x_fn, x_cg, x_cb, x_cB, x_cq, x_vHeld, x_vRed, x_vTal, x_vLis))) F  (52 + (0 : Int32).toNatClampNeg) (nw_bS (ixlt i17)) (x_bS (0 : Int32).toNatClampNeg) (lk_bS (ixlt i17)) (52 + (0 : Int32).toNatClampNeg) (nw_bS (ixlt i23)) (x_bS (0 : Int32).toNatClampNeg) (lk_bS (ixlt i23)) e24) rfl rfl rfl (Nat.le_of_ble_eq_true rfl) dB_descend_24 ?_
    obtain ⟨r27, e27, h⟩ := bd h
    refine w_callU (pc := 27) (av := [.ref (κ.1 (52 + (0 : Int32).toNatClampNeg)), .long r24]) (rest := []) (v := none) (L' := (LM κ τ (LC κ (x_added, x_asked, x_eR, x_et, x_oR, x_ot, x_bR, x_bD, x_bQ, x_bW, x_bS, x_bM, x_bT, x_bn, x_tg, x_tb, r27, x_fg, x_fb, x_fV, x_fS, x_fn, x_cg, x_cb, x_cB, x_cq, x_vHeld, x_vRed, x_vTal, x_vLis)))) (T := TT) (fs := fl_T κ (x_added, x_asked, x_eR, x_et, x_oR, x_ot, x_bR, x_bD, x_bQ, x_bW, x_bS, x_bM, x_bT, x_bn, x_tg, x_tb, x_ts, x_fg, x_fb, x_fV, x_fS, x_fn, x_cg, x_cb, x_cB, x_cq, x_vHeld, x_vRed, x_vTal, x_vLis)) G 63 4 3 (by decide) lb_T rfl (cb_T_meet_B_desc_T m9) wd381 wd383 wd419 wd420 wd382 (by decide) rfl (met_T_meet κ τ F r24  e27) rfl rfl rfl (Nat.le_of_ble_eq_true rfl) dB_descend_27 ?_
    obtain rfl := Option.some.inj h
    exact w_vret (pc := 30) G dB_descend_30 Fh
theorem cb_V_addMultiple_B_walk_F (m9 : Nat) : CB yV_addMultiple cV_addMultiple 5 none rm_V_addMultiple (rmWn m9) 3 := ⟨wd187, wd1, by decide +kernel, rfl, rfl, by simp only [rm_V_addMultiple, rmWn]; omega⟩
theorem cb_V_copy_B_walk_F (m9 : Nat) : CB yV_copy cV_copy 2 none rm_V_copy (rmWn m9) 2 := ⟨wd170, wd1, by decide +kernel, rfl, rfl, by simp only [rm_V_copy, rmWn]; omega⟩
theorem cb_V_product_B_walk_F (m9 : Nat) : CB yV_product cV_product 5 (some .long) rm_V_product (rmWn m9) 2 := ⟨wd263, wd1, by decide +kernel, rfl, rfl, by simp only [rm_V_product, rmWn]; omega⟩
theorem cb_K_wants_F_B_walk_F (m9 : Nat) : CB yK_wants cK_wants 3 (some .boolean) rm_K_wants_F (rmWn m9) 1 := ⟨wd402, wd4, by decide +kernel, rfl, rfl, by simp only [rm_K_wants_F, rmWn]; omega⟩
noncomputable def lB_walk_F_36 (F : Nat) (D : Int32 → Int64 → (Nat → Nat → Int64) → Int64 → (Nat → Nat → Int64) → (Nat → Int64) → Int32 → Option ((Nat → Nat → Int64) × Int64 × (Nat → Nat → Int64) × (Nat → Int64) × Int32)) (x_bR : Nat → Nat → Int64) (x_bD : Nat → Nat → Int64) (x_bQ : Nat → Int64) (v1 : Int32) (v4 : Int32) (v5 : Int64) : Nat → Int32 → (Nat → Nat → Int64) → Int64 → (Nat → Nat → Int64) → (Nat → Int64) → Int32 → Option (((Nat → Nat → Int64) × Int64 × (Nat → Nat → Int64) × (Nat → Int64) × Int32) ⊕ ((Nat → Nat → Int64) × Int64 × (Nat → Nat → Int64) × (Nat → Int64) × Int32))
  | 0, _, _, _, _, _, _ => none
  | n + 1, v8, x_bS, x_fb, x_fV, x_fS, x_fn => if (1000000 : Int32) ≤ v8 then some (.inl (x_bS, x_fb, x_fV, x_fS, x_fn)) else gd (vp_in v1 4) (gd (vp_in v1 5) ((V_product F (x_bD v1.toNatClampNeg) (x_bS v1.toNatClampNeg) ).bind (fun r55 => gd (vp_in v1 4) (gd (¬ (x_bQ v1.toNatClampNeg) = 0) ((K_wants F x_fb (v5 + ((r55 * r55) / (x_bQ v1.toNatClampNeg)))).bind (fun r81 => if r81 = 0 then some (.inr (x_bS, x_fb, x_fV, x_fS, x_fn)) else (D v1 (v5 + ((r55 * r55) / (x_bQ v1.toNatClampNeg))) x_bS x_fb x_fV x_fS x_fn).bind (fun r94 => gd (vp_in v1 5) (gd (vp_in v1 4) ((V_addMultiple F (r94.1 v1.toNatClampNeg) (x_bR v1.toNatClampNeg) v4.toInt64).bind (fun r112 => lB_walk_F_36 F D x_bR x_bD x_bQ v1 v4 v5 n (v8 + 1) (va_up r94.1 v1.toNatClampNeg r112) r94.2.1 r94.2.2.1 r94.2.2.2.1 r94.2.2.2.2))))))))))
set_option maxHeartbeats 8000000 in
set_option maxRecDepth 100000 in
theorem lB_walk_F_36_ok {g : Gm} {κ : ctx} {m9 : Nat} (G : OK g κ RB cB_walk 13 none (rmWn m9)) (τ : MS) (F : Nat) (D : Int32 → Int64 → (Nat → Nat → Int64) → Int64 → (Nat → Nat → Int64) → (Nat → Int64) → Int32 → Option ((Nat → Nat → Int64) × Int64 × (Nat → Nat → Int64) × (Nat → Int64) × Int32)) {x_added : Nat → Nat → Int64} {x_asked : Nat → Int64} {x_eR : Nat → Nat → Int64} {x_et : Nat → Int64} {x_oR : Nat → Nat → Int64} {x_ot : Nat → Int64} {x_bR : Nat → Nat → Int64} {x_bD : Nat → Nat → Int64} {x_bQ : Nat → Int64} {x_bW : Nat → Int64} {x_bM : Nat → Nat → Int64} {x_bT : Nat → Int64} {x_bn : Int32} {x_tg : Nat → Int64} {x_tb : Int64} {x_ts : Nat → Int32} {x_fg : Nat → Int64} {x_cg : Nat → Int64} {x_cb : Int64} {x_cB : Nat → Int64} {x_cq : Int64} {x_vHeld : Int32} {x_vRed : Int32} {x_vTal : Int32} {x_vLis : Int32} (v1 : Int32) (v4 : Int32) (v5 : Int64) (hD : ∀ (x_bS : Nat → Nat → Int64) (x_fb : Int64) (x_fV : Nat → Nat → Int64) (x_fS : Nat → Int64) (x_fn : Int32) (v : Int64) (out : (Nat → Nat → Int64) × Int64 × (Nat → Nat → Int64) × (Nat → Int64) × Int32), D v1 v x_bS x_fb x_fV x_fS x_fn = some out → Mt yB_descend cB_descend 8 none (rmDn m9) κ [.ref (κ.1 38), .int v1, .long v, .ref (κ.1 66)] (LM κ τ (LC κ (x_added, x_asked, x_eR, x_et, x_oR, x_ot, x_bR, x_bD, x_bQ, x_bW, x_bS, x_bM, x_bT, x_bn, x_tg, x_tb, x_ts, x_fg, x_fb, x_fV, x_fS, x_fn, x_cg, x_cb, x_cB, x_cq, x_vHeld, x_vRed, x_vTal, x_vLis))) none (LM κ τ (LC κ (x_added, x_asked, x_eR, x_et, x_oR, x_ot, x_bR, x_bD, x_bQ, x_bW, out.1, x_bM, x_bT, x_bn, x_tg, x_tb, x_ts, x_fg, out.2.1, out.2.2.1, out.2.2.2.1, out.2.2.2.2, x_cg, x_cb, x_cB, x_cq, x_vHeld, x_vRed, x_vTal, x_vLis)))) : ∀ (n : Nat) (v8 : Int32) (x_bS : Nat → Nat → Int64) (x_fb : Int64) (x_fV : Nat → Nat → Int64) (x_fS : Nat → Int64) (x_fn : Int32) (out : ((Nat → Nat → Int64) × Int64 × (Nat → Nat → Int64) × (Nat → Int64) × Int32) ⊕ ((Nat → Nat → Int64) × Int64 × (Nat → Nat → Int64) × (Nat → Int64) × Int32)), lB_walk_F_36 F D x_bR x_bD x_bQ v1 v4 v5 n v8 x_bS x_fb x_fV x_fS x_fn = some out → (∀ e, out = .inl e → (J g κ 13 121 [] [] (LM κ τ (LC κ (x_added, x_asked, x_eR, x_et, x_oR, x_ot, x_bR, x_bD, x_bQ, x_bW, e.1, x_bM, x_bT, x_bn, x_tg, x_tb, x_ts, x_fg, e.2.1, e.2.2.1, e.2.2.2.1, e.2.2.2.2, x_cg, x_cb, x_cB, x_cq, x_vHeld, x_vRed, x_vTal, x_vLis))))) → (∀ r, out = .inr r → Fn g κ none (LM κ τ (LC κ (x_added, x_asked, x_eR, x_et, x_oR, x_ot, x_bR, x_bD, x_bQ, x_bW, r.1, x_bM, x_bT, x_bn, x_tg, x_tb, x_ts, x_fg, r.2.1, r.2.2.1, r.2.2.2.1, r.2.2.2.2, x_cg, x_cb, x_cB, x_cq, x_vHeld, x_vRed, x_vTal, x_vLis)))) → J g κ 13 36 [(0, .ref (κ.1 38)), (1, .int v1), (4, .int v4), (5, .long v5), (7, .ref (κ.1 66)), (8, .int v8)] [] (LM κ τ (LC κ (x_added, x_asked, x_eR, x_et, x_oR, x_ot, x_bR, x_bD, x_bQ, x_bW, x_bS, x_bM, x_bT, x_bn, x_tg, x_tb, x_ts, x_fg, x_fb, x_fV, x_fS, x_fn, x_cg, x_cb, x_cB, x_cq, x_vHeld, x_vRed, x_vTal, x_vLis))) := by
  intro n
  induction n with
  | zero =>
    intro v8 x_bS x_fb x_fV x_fS x_fn
    intro out h
    rw [lB_walk_F_36] at h
    cases h
  | succ n ih =>
    intro v8 x_bS x_fb x_fV x_fS x_fn out h K K2
    rw [lB_walk_F_36] at h
    refine w_iload (pc := 36) (q := 5) G dB_walk_36 rfl ?_
    refine w_ldc (pc := 38) (v := (1000000 : Int32)) G wd252 dB_walk_38 ?_
    refine w_icmp_ge (pc := 40) (tgt := 121) G dB_walk_40 (by decide) (fun c40 => ?_) (fun c40 => ?_)
    · have h := if_t c40 h
      obtain rfl := Option.some.inj h
      refine w_sub (lv' := []) [] rfl ?_
      have K9 := K _ rfl
      exact K9
    · have h := if_f c40 h
      refine w_aload_n (pc := 43) (q := 0) G dB_walk_43 rfl rfl ?_
      refine w_get (pc := 44) (v := .ref (κ.1 44)) (fs := fl_B κ (x_added, x_asked, x_eR, x_et, x_oR, x_ot, x_bR, x_bD, x_bQ, x_bW, x_bS, x_bM, x_bT, x_bn, x_tg, x_tb, x_ts, x_fg, x_fb, x_fV, x_fS, x_fn, x_cg, x_cb, x_cB, x_cq, x_vHeld, x_vRed, x_vTal, x_vLis)) G 38 (by decide) lb_B rfl wsB_ok 1 (by decide) wd45 gf_B_1 dB_walk_44 ?_
      refine w_iload_n (pc := 47) (q := 1) G dB_walk_47 rfl rfl ?_
      obtain ⟨i48, h⟩ := gd_some h
      refine w_aald (pc := 48) (n := 4) (f := og κ 45 4) (b := κ.1 (45 + v1.toNatClampNeg)) G 44 (by decide) lo_bD i48 (og_at (ixlt i48)) dB_walk_48 ?_
      refine w_aload_n (pc := 49) (q := 0) G dB_walk_49 rfl rfl ?_
      refine w_get (pc := 50) (v := .ref (κ.1 51)) (fs := fl_B κ (x_added, x_asked, x_eR, x_et, x_oR, x_ot, x_bR, x_bD, x_bQ, x_bW, x_bS, x_bM, x_bT, x_bn, x_tg, x_tb, x_ts, x_fg, x_fb, x_fV, x_fS, x_fn, x_cg, x_cb, x_cB, x_cq, x_vHeld, x_vRed, x_vTal, x_vLis)) G 38 (by decide) lb_B rfl wsB_ok 4 (by decide) wd48 gf_B_4 dB_walk_50 ?_
      refine w_iload_n (pc := 53) (q := 1) G dB_walk_53 rfl rfl ?_
      obtain ⟨i54, h⟩ := gd_some h
      refine w_aald (pc := 54) (n := 5) (f := og κ 52 5) (b := κ.1 (52 + v1.toNatClampNeg)) G 51 (by decide) lo_bS i54 (og_at (ixlt i54)) dB_walk_54 ?_
      obtain ⟨r55, e55, h⟩ := bd h
      refine w_callSN (pc := 55) (av := [.ref (κ.1 (45 + v1.toNatClampNeg)), .ref (κ.1 (52 + v1.toNatClampNeg))]) (rest := []) (v := some (.long r55)) (L' := (LM κ τ (LC κ (x_added, x_asked, x_eR, x_et, x_oR, x_ot, x_bR, x_bD, x_bQ, x_bW, x_bS, x_bM, x_bT, x_bn, x_tg, x_tb, x_ts, x_fg, x_fb, x_fV, x_fS, x_fn, x_cg, x_cb, x_cB, x_cq, x_vHeld, x_vRed, x_vTal, x_vLis)))) G (cb_V_product_B_walk_F m9) wd262 wd261 (met_V_product κ (LM κ τ (LC κ (x_added, x_asked, x_eR, x_et, x_oR, x_ot, x_bR, x_bD, x_bQ, x_bW, x_bS, x_bM, x_bT, x_bn, x_tg, x_tb, x_ts, x_fg, x_fb, x_fV, x_fS, x_fn, x_cg, x_cb, x_cB, x_cq, x_vHeld, x_vRed, x_vTal, x_vLis))) F  (45 + v1.toNatClampNeg) (nw_bD (ixlt i48)) (x_bD v1.toNatClampNeg) (lk_bD (ixlt i48)) (52 + v1.toNatClampNeg) (nw_bS (ixlt i54)) (x_bS v1.toNatClampNeg) (lk_bS (ixlt i54)) e55) rfl rfl rfl (Nat.le_of_ble_eq_true rfl) dB_walk_55 ?_
      refine w_lstore (pc := 58) (lv' := [(9, .long r55), (0, .ref (κ.1 38)), (1, .int v1), (4, .int v4), (5, .long v5), (7, .ref (κ.1 66)), (8, .int v8)]) G dB_walk_58 (by decide) rfl ?_
      refine w_lload (pc := 60) (q := 4) G dB_walk_60 rfl ?_
      refine w_lload (pc := 62) (q := 0) G dB_walk_62 rfl ?_
      refine w_lload (pc := 64) (q := 0) G dB_walk_64 rfl ?_
      refine w_lmul (pc := 66) G dB_walk_66 ?_
      refine w_aload_n (pc := 67) (q := 1) G dB_walk_67 rfl rfl ?_
      refine w_get (pc := 68) (v := .ref (κ.1 49)) (fs := fl_B κ (x_added, x_asked, x_eR, x_et, x_oR, x_ot, x_bR, x_bD, x_bQ, x_bW, x_bS, x_bM, x_bT, x_bn, x_tg, x_tb, x_ts, x_fg, x_fb, x_fV, x_fS, x_fn, x_cg, x_cb, x_cB, x_cq, x_vHeld, x_vRed, x_vTal, x_vLis)) G 38 (by decide) lb_B rfl wsB_ok 2 (by decide) wd46 gf_B_2 dB_walk_68 ?_
      refine w_iload_n (pc := 71) (q := 2) G dB_walk_71 rfl rfl ?_
      obtain ⟨i72, h⟩ := gd_some h
      refine w_lald (pc := 72) (n := 4) (f := x_bQ) G 49 (by decide) lk_bQ i72 dB_walk_72 ?_
      obtain ⟨z73, h⟩ := gd_some h
      refine w_ldiv (pc := 73) G dB_walk_73 z73 ?_
      refine w_ladd (pc := 74) G dB_walk_74 ?_
      refine w_lstore (pc := 75) (lv' := [(11, .long (v5 + ((r55 * r55) / (x_bQ v1.toNatClampNeg)))), (9, .long r55), (0, .ref (κ.1 38)), (1, .int v1), (4, .int v4), (5, .long v5), (7, .ref (κ.1 66)), (8, .int v8)]) G dB_walk_75 (by decide) rfl ?_
      refine w_aload (pc := 77) (q := 6) G dB_walk_77 rfl ?_
      refine w_lload (pc := 79) (q := 0) G dB_walk_79 rfl ?_
      obtain ⟨r81, e81, h⟩ := bd h
      refine w_callU (pc := 81) (av := [.long (v5 + ((r55 * r55) / (x_bQ v1.toNatClampNeg)))]) (rest := []) (v := some (.int r81)) (L' := (LM κ τ (LC κ (x_added, x_asked, x_eR, x_et, x_oR, x_ot, x_bR, x_bD, x_bQ, x_bW, x_bS, x_bM, x_bT, x_bn, x_tg, x_tb, x_ts, x_fg, x_fb, x_fV, x_fS, x_fn, x_cg, x_cb, x_cB, x_cq, x_vHeld, x_vRed, x_vTal, x_vLis)))) (T := TF) (fs := fl_F κ (x_added, x_asked, x_eR, x_et, x_oR, x_ot, x_bR, x_bD, x_bQ, x_bW, x_bS, x_bM, x_bT, x_bn, x_tg, x_tb, x_ts, x_fg, x_fb, x_fV, x_fS, x_fn, x_cg, x_cb, x_cB, x_cq, x_vHeld, x_vRed, x_vTal, x_vLis)) G 66 5 5 (by decide) lb_F rfl (cb_K_wants_F_B_walk_F m9) wd429 wd759 wd761 wd401 wd399 (by decide) rfl (met_K_wants_F κ τ F (v5 + ((r55 * r55) / (x_bQ v1.toNatClampNeg)))  e81) rfl rfl rfl (Nat.le_of_ble_eq_true rfl) dB_walk_81 ?_
      refine w_if_ne (pc := 84) (tgt := 88) G dB_walk_84 (by decide) (fun c84 => ?_) (fun c84 => ?_)
      · have h := if_t c84 h
        obtain rfl := Option.some.inj h
        have K9 := K2 _ rfl
        exact w_vret (pc := 87) G dB_walk_87 K9
      · have h := if_f c84 h
        refine w_aload_n (pc := 88) (q := 2) G dB_walk_88 rfl rfl ?_
        refine w_iload_n (pc := 89) (q := 3) G dB_walk_89 rfl rfl ?_
        refine w_lload (pc := 90) (q := 0) G dB_walk_90 rfl ?_
        refine w_aload (pc := 92) (q := 6) G dB_walk_92 rfl ?_
        obtain ⟨r94, e94, h⟩ := bd h
        refine w_callV (pc := 94) (av := [.int v1, .long (v5 + ((r55 * r55) / (x_bQ v1.toNatClampNeg))), .ref (κ.1 66)]) (rest := []) (v := none) (L' := (LM κ τ (LC κ (x_added, x_asked, x_eR, x_et, x_oR, x_ot, x_bR, x_bD, x_bQ, x_bW, r94.1, x_bM, x_bT, x_bn, x_tg, x_tb, x_ts, x_fg, r94.2.1, r94.2.2.1, r94.2.2.2.1, r94.2.2.2.2, x_cg, x_cb, x_cB, x_cq, x_vHeld, x_vRed, x_vTal, x_vLis)))) (T := TB) (fs := fl_B κ (x_added, x_asked, x_eR, x_et, x_oR, x_ot, x_bR, x_bD, x_bQ, x_bW, x_bS, x_bM, x_bT, x_bn, x_tg, x_tb, x_ts, x_fg, x_fb, x_fV, x_fS, x_fn, x_cg, x_cb, x_cB, x_cq, x_vHeld, x_vRed, x_vTal, x_vLis)) G 38 3 8 (by decide) lb_B rfl (cbDW m9) wd379 ws15 wd377 (hD x_bS x_fb x_fV x_fS x_fn (v5 + ((r55 * r55) / (x_bQ v1.toNatClampNeg))) _ e94) rfl rfl rfl (Nat.le_of_ble_eq_true rfl) dB_walk_94 ?_
        refine w_aload_n (pc := 97) (q := 2) G dB_walk_97 rfl rfl ?_
        refine w_get (pc := 98) (v := .ref (κ.1 51)) (fs := fl_B κ (x_added, x_asked, x_eR, x_et, x_oR, x_ot, x_bR, x_bD, x_bQ, x_bW, r94.1, x_bM, x_bT, x_bn, x_tg, x_tb, x_ts, x_fg, r94.2.1, r94.2.2.1, r94.2.2.2.1, r94.2.2.2.2, x_cg, x_cb, x_cB, x_cq, x_vHeld, x_vRed, x_vTal, x_vLis)) G 38 (by decide) lb_B rfl wsB_ok 4 (by decide) wd48 gf_B_4 dB_walk_98 ?_
        refine w_iload_n (pc := 101) (q := 3) G dB_walk_101 rfl rfl ?_
        obtain ⟨i102, h⟩ := gd_some h
        refine w_aald (pc := 102) (n := 5) (f := og κ 52 5) (b := κ.1 (52 + v1.toNatClampNeg)) G 51 (by decide) lo_bS i102 (og_at (ixlt i102)) dB_walk_102 ?_
        refine w_aload_n (pc := 103) (q := 2) G dB_walk_103 rfl rfl ?_
        refine w_get (pc := 104) (v := .ref (κ.1 39)) (fs := fl_B κ (x_added, x_asked, x_eR, x_et, x_oR, x_ot, x_bR, x_bD, x_bQ, x_bW, r94.1, x_bM, x_bT, x_bn, x_tg, x_tb, x_ts, x_fg, r94.2.1, r94.2.2.1, r94.2.2.2.1, r94.2.2.2.2, x_cg, x_cb, x_cB, x_cq, x_vHeld, x_vRed, x_vTal, x_vLis)) G 38 (by decide) lb_B rfl wsB_ok 0 (by decide) wd44 gf_B_0 dB_walk_104 ?_
        refine w_iload_n (pc := 107) (q := 3) G dB_walk_107 rfl rfl ?_
        obtain ⟨i108, h⟩ := gd_some h
        refine w_aald (pc := 108) (n := 4) (f := og κ 40 4) (b := κ.1 (40 + v1.toNatClampNeg)) G 39 (by decide) lo_bR i108 (og_at (ixlt i108)) dB_walk_108 ?_
        refine w_iload (pc := 109) (q := 4) G dB_walk_109 rfl ?_
        refine w_i2l (pc := 111) G dB_walk_111 ?_
        obtain ⟨r112, e112, h⟩ := bd h
        refine w_callSN (pc := 112) (av := [.ref (κ.1 (52 + v1.toNatClampNeg)), .ref (κ.1 (40 + v1.toNatClampNeg)), .long v4.toInt64]) (rest := []) (v := none) (L' := (LM κ τ (LC κ (x_added, x_asked, x_eR, x_et, x_oR, x_ot, x_bR, x_bD, x_bQ, x_bW, va_up r94.1 v1.toNatClampNeg r112, x_bM, x_bT, x_bn, x_tg, x_tb, x_ts, x_fg, r94.2.1, r94.2.2.1, r94.2.2.2.1, r94.2.2.2.2, x_cg, x_cb, x_cB, x_cq, x_vHeld, x_vRed, x_vTal, x_vLis)))) G (cb_V_addMultiple_B_walk_F m9) wd186 wd273 (Mt.eqw (up_bS (ixlt i102)) (met_V_addMultiple κ (LM κ τ (LC κ (x_added, x_asked, x_eR, x_et, x_oR, x_ot, x_bR, x_bD, x_bQ, x_bW, r94.1, x_bM, x_bT, x_bn, x_tg, x_tb, x_ts, x_fg, r94.2.1, r94.2.2.1, r94.2.2.2.1, r94.2.2.2.2, x_cg, x_cb, x_cB, x_cq, x_vHeld, x_vRed, x_vTal, x_vLis))) F v4.toInt64 (52 + v1.toNatClampNeg) (nw_bS (ixlt i102)) (r94.1 v1.toNatClampNeg) (lk_bS (ixlt i102)) (40 + v1.toNatClampNeg) (nw_bR (ixlt i108)) (x_bR v1.toNatClampNeg) (lk_bR (ixlt i108)) (by have := (ixlt i108); have := (ixlt i102); omega) e112)) rfl rfl rfl (Nat.le_of_ble_eq_true rfl) dB_walk_112 ?_
        refine w_iinc (pc := 115) (q0 := 7) (v := (v8 + 1)) (lv' := [(8, .int (v8 + 1)), (11, .long (v5 + ((r55 * r55) / (x_bQ v1.toNatClampNeg)))), (9, .long r55), (0, .ref (κ.1 38)), (1, .int v1), (4, .int v4), (5, .long v5), (7, .ref (κ.1 66))]) G dB_walk_115 rfl rfl (by decide) rfl ?_
        refine w_goto (pc := 118) (tgt := 36) G dB_walk_118 (by decide) ?_
        refine w_sub (lv' := [(0, .ref (κ.1 38)), (1, .int v1), (4, .int v4), (5, .long v5), (7, .ref (κ.1 66)), (8, .int (v8 + 1))]) [3, 4, 5, 6, 7, 0] rfl ?_
        exact ih (v8 + 1) (va_up r94.1 v1.toNatClampNeg r112) r94.2.1 r94.2.2.1 r94.2.2.2.1 r94.2.2.2.2 out h K K2
noncomputable def B_walk_F (F : Nat) (D : Int32 → Int64 → (Nat → Nat → Int64) → Int64 → (Nat → Nat → Int64) → (Nat → Int64) → Int32 → Option ((Nat → Nat → Int64) × Int64 × (Nat → Nat → Int64) × (Nat → Int64) × Int32))  (x_bR : Nat → Nat → Int64) (x_bD : Nat → Nat → Int64) (x_bQ : Nat → Int64) (x_bS : Nat → Nat → Int64) (x_fb : Int64) (x_fV : Nat → Nat → Int64) (x_fS : Nat → Int64) (x_fn : Int32) (v1 : Int32) (v2 : Int64) (v4 : Int32) (v5 : Int64) : Option ((Nat → Nat → Int64) × Int64 × (Nat → Nat → Int64) × (Nat → Int64) × Int32) := gd (vp_in (v1 + (1 : Int32)) 5) (gd (vp_in v1 5) (gd (¬ ((v1 + (1 : Int32)).toNatClampNeg) = v1.toNatClampNeg) ((V_copy F (x_bS (v1 + (1 : Int32)).toNatClampNeg) (x_bS v1.toNatClampNeg) ).bind (fun r14 => gd (vp_in v1 5) (gd (vp_in v1 4) ((V_addMultiple F ((va_up x_bS v1.toNatClampNeg r14) v1.toNatClampNeg) (x_bR v1.toNatClampNeg) v2).bind (fun r30 => (lB_walk_F_36 F D x_bR x_bD x_bQ v1 v4 v5 F (0 : Int32) (va_up (va_up x_bS v1.toNatClampNeg r14) v1.toNatClampNeg r30) x_fb x_fV x_fS x_fn).bind (fun o36_11 => match o36_11 with | .inl o36_11 => some (o36_11.1, o36_11.2.1, o36_11.2.2.1, o36_11.2.2.2.1, o36_11.2.2.2.2) | .inr o36_11 => some o36_11))))))))
set_option maxHeartbeats 8000000 in
set_option maxRecDepth 100000 in
theorem met_B_walk_F (κ : ctx) (τ : MS) (F : Nat) (m9 : Nat) (D : Int32 → Int64 → (Nat → Nat → Int64) → Int64 → (Nat → Nat → Int64) → (Nat → Int64) → Int32 → Option ((Nat → Nat → Int64) × Int64 × (Nat → Nat → Int64) × (Nat → Int64) × Int32)) {x_added : Nat → Nat → Int64} {x_asked : Nat → Int64} {x_eR : Nat → Nat → Int64} {x_et : Nat → Int64} {x_oR : Nat → Nat → Int64} {x_ot : Nat → Int64} {x_bR : Nat → Nat → Int64} {x_bD : Nat → Nat → Int64} {x_bQ : Nat → Int64} {x_bW : Nat → Int64} {x_bS : Nat → Nat → Int64} {x_bM : Nat → Nat → Int64} {x_bT : Nat → Int64} {x_bn : Int32} {x_tg : Nat → Int64} {x_tb : Int64} {x_ts : Nat → Int32} {x_fg : Nat → Int64} {x_fb : Int64} {x_fV : Nat → Nat → Int64} {x_fS : Nat → Int64} {x_fn : Int32} {x_cg : Nat → Int64} {x_cb : Int64} {x_cB : Nat → Int64} {x_cq : Int64} {x_vHeld : Int32} {x_vRed : Int32} {x_vTal : Int32} {x_vLis : Int32} (v1 : Int32) (v2 : Int64) (v4 : Int32) (v5 : Int64) (hD : ∀ (x_bS : Nat → Nat → Int64) (x_fb : Int64) (x_fV : Nat → Nat → Int64) (x_fS : Nat → Int64) (x_fn : Int32) (v : Int64) (out : (Nat → Nat → Int64) × Int64 × (Nat → Nat → Int64) × (Nat → Int64) × Int32), D v1 v x_bS x_fb x_fV x_fS x_fn = some out → Mt yB_descend cB_descend 8 none (rmDn m9) κ [.ref (κ.1 38), .int v1, .long v, .ref (κ.1 66)] (LM κ τ (LC κ (x_added, x_asked, x_eR, x_et, x_oR, x_ot, x_bR, x_bD, x_bQ, x_bW, x_bS, x_bM, x_bT, x_bn, x_tg, x_tb, x_ts, x_fg, x_fb, x_fV, x_fS, x_fn, x_cg, x_cb, x_cB, x_cq, x_vHeld, x_vRed, x_vTal, x_vLis))) none (LM κ τ (LC κ (x_added, x_asked, x_eR, x_et, x_oR, x_ot, x_bR, x_bD, x_bQ, x_bW, out.1, x_bM, x_bT, x_bn, x_tg, x_tb, x_ts, x_fg, out.2.1, out.2.2.1, out.2.2.2.1, out.2.2.2.2, x_cg, x_cb, x_cB, x_cq, x_vHeld, x_vRed, x_vTal, x_vLis)))) {out : (Nat → Nat → Int64) × Int64 × (Nat → Nat → Int64) × (Nat → Int64) × Int32} (h : B_walk_F F D x_bR x_bD x_bQ x_bS x_fb x_fV x_fS x_fn v1 v2 v4 v5 = some out) : Mt yB_walk cB_walk 13 none (rmWn m9) κ [.ref (κ.1 38), .int v1, .long v2, .int v4, .long v5, .ref (κ.1 66)] (LM κ τ (LC κ (x_added, x_asked, x_eR, x_et, x_oR, x_ot, x_bR, x_bD, x_bQ, x_bW, x_bS, x_bM, x_bT, x_bn, x_tg, x_tb, x_ts, x_fg, x_fb, x_fV, x_fS, x_fn, x_cg, x_cb, x_cB, x_cq, x_vHeld, x_vRed, x_vTal, x_vLis))) none (LM κ τ (LC κ (x_added, x_asked, x_eR, x_et, x_oR, x_ot, x_bR, x_bD, x_bQ, x_bW, out.1, x_bM, x_bT, x_bn, x_tg, x_tb, x_ts, x_fg, out.2.1, out.2.2.1, out.2.2.2.1, out.2.2.2.2, x_cg, x_cb, x_cB, x_cq, x_vHeld, x_vRed, x_vTal, x_vLis))) := by
  refine Mt.of (by decide) (Nat.le_of_ble_eq_true rfl) ?_
  intro g G Fh
  unfold B_walk_F at h
  show J g κ 13 0 [(0, .ref (κ.1 38)), (1, .int v1), (2, .long v2), (4, .int v4), (5, .long v5), (7, .ref (κ.1 66))] [] (LM κ τ (LC κ (x_added, x_asked, x_eR, x_et, x_oR, x_ot, x_bR, x_bD, x_bQ, x_bW, x_bS, x_bM, x_bT, x_bn, x_tg, x_tb, x_ts, x_fg, x_fb, x_fV, x_fS, x_fn, x_cg, x_cb, x_cB, x_cq, x_vHeld, x_vRed, x_vTal, x_vLis)))
  refine w_aload_n (pc := 0) (q := 0) G dB_walk_0 rfl rfl ?_
  refine w_get (pc := 1) (v := .ref (κ.1 51)) (fs := fl_B κ (x_added, x_asked, x_eR, x_et, x_oR, x_ot, x_bR, x_bD, x_bQ, x_bW, x_bS, x_bM, x_bT, x_bn, x_tg, x_tb, x_ts, x_fg, x_fb, x_fV, x_fS, x_fn, x_cg, x_cb, x_cB, x_cq, x_vHeld, x_vRed, x_vTal, x_vLis)) G 38 (by decide) lb_B rfl wsB_ok 4 (by decide) wd48 gf_B_4 dB_walk_1 ?_
  refine w_iload_n (pc := 4) (q := 1) G dB_walk_4 rfl rfl ?_
  refine w_iconst (pc := 5) (v := (1 : Int32)) G dB_walk_5 (by decide) ?_
  refine w_iadd (pc := 6) G dB_walk_6 ?_
  obtain ⟨i7, h⟩ := gd_some h
  refine w_aald (pc := 7) (n := 5) (f := og κ 52 5) (b := κ.1 (52 + (v1 + (1 : Int32)).toNatClampNeg)) G 51 (by decide) lo_bS i7 (og_at (ixlt i7)) dB_walk_7 ?_
  refine w_aload_n (pc := 8) (q := 0) G dB_walk_8 rfl rfl ?_
  refine w_get (pc := 9) (v := .ref (κ.1 51)) (fs := fl_B κ (x_added, x_asked, x_eR, x_et, x_oR, x_ot, x_bR, x_bD, x_bQ, x_bW, x_bS, x_bM, x_bT, x_bn, x_tg, x_tb, x_ts, x_fg, x_fb, x_fV, x_fS, x_fn, x_cg, x_cb, x_cB, x_cq, x_vHeld, x_vRed, x_vTal, x_vLis)) G 38 (by decide) lb_B rfl wsB_ok 4 (by decide) wd48 gf_B_4 dB_walk_9 ?_
  refine w_iload_n (pc := 12) (q := 1) G dB_walk_12 rfl rfl ?_
  obtain ⟨i13, h⟩ := gd_some h
  refine w_aald (pc := 13) (n := 5) (f := og κ 52 5) (b := κ.1 (52 + v1.toNatClampNeg)) G 51 (by decide) lo_bS i13 (og_at (ixlt i13)) dB_walk_13 ?_
  obtain ⟨ne14, h⟩ := gd_some h
  obtain ⟨r14, e14, h⟩ := bd h
  refine w_callSN (pc := 14) (av := [.ref (κ.1 (52 + (v1 + (1 : Int32)).toNatClampNeg)), .ref (κ.1 (52 + v1.toNatClampNeg))]) (rest := []) (v := none) (L' := (LM κ τ (LC κ (x_added, x_asked, x_eR, x_et, x_oR, x_ot, x_bR, x_bD, x_bQ, x_bW, va_up x_bS v1.toNatClampNeg r14, x_bM, x_bT, x_bn, x_tg, x_tb, x_ts, x_fg, x_fb, x_fV, x_fS, x_fn, x_cg, x_cb, x_cB, x_cq, x_vHeld, x_vRed, x_vTal, x_vLis)))) G (cb_V_copy_B_walk_F m9) wd169 wd247 (Mt.eqw (up_bS (ixlt i13)) (met_V_copy κ (LM κ τ (LC κ (x_added, x_asked, x_eR, x_et, x_oR, x_ot, x_bR, x_bD, x_bQ, x_bW, x_bS, x_bM, x_bT, x_bn, x_tg, x_tb, x_ts, x_fg, x_fb, x_fV, x_fS, x_fn, x_cg, x_cb, x_cB, x_cq, x_vHeld, x_vRed, x_vTal, x_vLis))) F  (52 + (v1 + (1 : Int32)).toNatClampNeg) (nw_bS (ixlt i7)) (x_bS (v1 + (1 : Int32)).toNatClampNeg) (lk_bS (ixlt i7)) (52 + v1.toNatClampNeg) (nw_bS (ixlt i13)) (x_bS v1.toNatClampNeg) (lk_bS (ixlt i13)) (fun q => ne14 (by omega)) e14)) rfl rfl rfl (Nat.le_of_ble_eq_true rfl) dB_walk_14 ?_
  refine w_aload_n (pc := 17) (q := 0) G dB_walk_17 rfl rfl ?_
  refine w_get (pc := 18) (v := .ref (κ.1 51)) (fs := fl_B κ (x_added, x_asked, x_eR, x_et, x_oR, x_ot, x_bR, x_bD, x_bQ, x_bW, va_up x_bS v1.toNatClampNeg r14, x_bM, x_bT, x_bn, x_tg, x_tb, x_ts, x_fg, x_fb, x_fV, x_fS, x_fn, x_cg, x_cb, x_cB, x_cq, x_vHeld, x_vRed, x_vTal, x_vLis)) G 38 (by decide) lb_B rfl wsB_ok 4 (by decide) wd48 gf_B_4 dB_walk_18 ?_
  refine w_iload_n (pc := 21) (q := 1) G dB_walk_21 rfl rfl ?_
  obtain ⟨i22, h⟩ := gd_some h
  refine w_aald (pc := 22) (n := 5) (f := og κ 52 5) (b := κ.1 (52 + v1.toNatClampNeg)) G 51 (by decide) lo_bS i22 (og_at (ixlt i22)) dB_walk_22 ?_
  refine w_aload_n (pc := 23) (q := 0) G dB_walk_23 rfl rfl ?_
  refine w_get (pc := 24) (v := .ref (κ.1 39)) (fs := fl_B κ (x_added, x_asked, x_eR, x_et, x_oR, x_ot, x_bR, x_bD, x_bQ, x_bW, va_up x_bS v1.toNatClampNeg r14, x_bM, x_bT, x_bn, x_tg, x_tb, x_ts, x_fg, x_fb, x_fV, x_fS, x_fn, x_cg, x_cb, x_cB, x_cq, x_vHeld, x_vRed, x_vTal, x_vLis)) G 38 (by decide) lb_B rfl wsB_ok 0 (by decide) wd44 gf_B_0 dB_walk_24 ?_
  refine w_iload_n (pc := 27) (q := 1) G dB_walk_27 rfl rfl ?_
  obtain ⟨i28, h⟩ := gd_some h
  refine w_aald (pc := 28) (n := 4) (f := og κ 40 4) (b := κ.1 (40 + v1.toNatClampNeg)) G 39 (by decide) lo_bR i28 (og_at (ixlt i28)) dB_walk_28 ?_
  refine w_lload_n (pc := 29) (q := 2) G dB_walk_29 rfl rfl ?_
  obtain ⟨r30, e30, h⟩ := bd h
  refine w_callSN (pc := 30) (av := [.ref (κ.1 (52 + v1.toNatClampNeg)), .ref (κ.1 (40 + v1.toNatClampNeg)), .long v2]) (rest := []) (v := none) (L' := (LM κ τ (LC κ (x_added, x_asked, x_eR, x_et, x_oR, x_ot, x_bR, x_bD, x_bQ, x_bW, va_up (va_up x_bS v1.toNatClampNeg r14) v1.toNatClampNeg r30, x_bM, x_bT, x_bn, x_tg, x_tb, x_ts, x_fg, x_fb, x_fV, x_fS, x_fn, x_cg, x_cb, x_cB, x_cq, x_vHeld, x_vRed, x_vTal, x_vLis)))) G (cb_V_addMultiple_B_walk_F m9) wd186 wd273 (Mt.eqw (up_bS (ixlt i22)) (met_V_addMultiple κ (LM κ τ (LC κ (x_added, x_asked, x_eR, x_et, x_oR, x_ot, x_bR, x_bD, x_bQ, x_bW, va_up x_bS v1.toNatClampNeg r14, x_bM, x_bT, x_bn, x_tg, x_tb, x_ts, x_fg, x_fb, x_fV, x_fS, x_fn, x_cg, x_cb, x_cB, x_cq, x_vHeld, x_vRed, x_vTal, x_vLis))) F v2 (52 + v1.toNatClampNeg) (nw_bS (ixlt i22)) ((va_up x_bS v1.toNatClampNeg r14) v1.toNatClampNeg) (lk_bS (ixlt i22)) (40 + v1.toNatClampNeg) (nw_bR (ixlt i28)) (x_bR v1.toNatClampNeg) (lk_bR (ixlt i28)) (by have := (ixlt i28); have := (ixlt i22); omega) e30)) rfl rfl rfl (Nat.le_of_ble_eq_true rfl) dB_walk_30 ?_
  refine w_iconst (pc := 33) (v := (0 : Int32)) G dB_walk_33 (by decide) ?_
  refine w_istore (pc := 34) (lv' := [(8, .int (0 : Int32)), (0, .ref (κ.1 38)), (1, .int v1), (2, .long v2), (4, .int v4), (5, .long v5), (7, .ref (κ.1 66))]) G dB_walk_34 (by decide) rfl ?_
  refine w_sub (lv' := [(0, .ref (κ.1 38)), (1, .int v1), (4, .int v4), (5, .long v5), (7, .ref (κ.1 66)), (8, .int (0 : Int32))]) [1, 2, 4, 5, 6, 0] rfl ?_
  obtain ⟨o36_11, eo36_11, h⟩ := bd h
  rcases o36_11 with o36_11 | o36_11
  · refine lB_walk_F_36_ok G τ F D v1 v4 v5 hD F (0 : Int32) (va_up (va_up x_bS v1.toNatClampNeg r14) v1.toNatClampNeg r30) x_fb x_fV x_fS x_fn (.inl o36_11) eo36_11 (fun e he => ?_) (fun r he => by cases he)
    cases he
    dsimp only at h
    obtain rfl := Option.some.inj h
    exact w_vret (pc := 121) G dB_walk_121 Fh
  · refine lB_walk_F_36_ok G τ F D v1 v4 v5 hD F (0 : Int32) (va_up (va_up x_bS v1.toNatClampNeg r14) v1.toNatClampNeg r30) x_fb x_fV x_fS x_fn (.inr o36_11) eo36_11 (fun e he => by cases he) (fun r he => ?_)
    cases he
    dsimp only at h
    obtain rfl := Option.some.inj h
    exact Fh
theorem cb_V_nearestQuotient_B_desc_F (m9 : Nat) : CB yV_nearestQuotient cV_nearestQuotient 4 (some .long) rm_V_nearestQuotient (rmDn (m9 + 1)) 2 := ⟨wd270, wd1, by decide +kernel, rfl, rfl, by simp only [rm_V_nearestQuotient, rmDn]; omega⟩
theorem cb_V_product_B_desc_F (m9 : Nat) : CB yV_product cV_product 5 (some .long) rm_V_product (rmDn (m9 + 1)) 2 := ⟨wd263, wd1, by decide +kernel, rfl, rfl, by simp only [rm_V_product, rmDn]; omega⟩
theorem cb_F_meet_B_desc_F (m9 : Nat) : CB yF_meet cF_meet 5 none rm_F_meet (rmDn (m9 + 1)) 2 := ⟨wd396, wd6, by decide +kernel, rfl, rfl, by simp only [rm_F_meet, rmDn]; omega⟩
noncomputable def B_desc_F (F : Nat) (Wk : Int32 → Int64 → Int32 → Int64 → (Nat → Nat → Int64) → Int64 → (Nat → Nat → Int64) → (Nat → Int64) → Int32 → Option ((Nat → Nat → Int64) × Int64 × (Nat → Nat → Int64) × (Nat → Int64) × Int32))  (x_bD : Nat → Nat → Int64) (x_bW : Nat → Int64) (x_bS : Nat → Nat → Int64) (x_fb : Int64) (x_fV : Nat → Nat → Int64) (x_fS : Nat → Int64) (x_fn : Int32) (v1 : Int32) (v2 : Int64) : Option ((Nat → Nat → Int64) × Int64 × (Nat → Nat → Int64) × (Nat → Int64) × Int32) := if 0 < v1 then gd (vp_in (v1 - (1 : Int32)) 4) (gd (vp_in v1 5) ((V_product F (x_bD (v1 - (1 : Int32)).toNatClampNeg) (x_bS v1.toNatClampNeg) ).bind (fun r49 => gd (vp_in (v1 - (1 : Int32)) 4) ((V_nearestQuotient F  r49 (x_bW (v1 - (1 : Int32)).toNatClampNeg)).bind (fun r59 => (Wk (v1 - (1 : Int32)) (-r59) (1 : Int32) v2 x_bS x_fb x_fV x_fS x_fn).bind (fun r74 => (Wk (v1 - (1 : Int32)) ((-r59) - (1 : Int64)) (-1 : Int32) v2 r74.1 r74.2.1 r74.2.2.1 r74.2.2.2.1 r74.2.2.2.2).bind (fun r88 => some (r88.1, r88.2.1, r88.2.2.1, r88.2.2.2.1, r88.2.2.2.2)))))))) else gd (vp_in (0 : Int32) 5) (gd (vp_in (0 : Int32) 5) (gd (vp_in (0 : Int32) 5) ((V_product F (x_bS (0 : Int32).toNatClampNeg) (x_bS (0 : Int32).toNatClampNeg) ).bind (fun r24 => (F_meet F x_bS x_fb x_fV x_fS x_fn r24).bind (fun r27 => some (x_bS, r27.1, r27.2.1, r27.2.2.1, r27.2.2.2))))))
set_option maxHeartbeats 8000000 in
set_option maxRecDepth 100000 in
theorem met_B_desc_F (κ : ctx) (τ : MS) (F : Nat) (m9 : Nat) (Wk : Int32 → Int64 → Int32 → Int64 → (Nat → Nat → Int64) → Int64 → (Nat → Nat → Int64) → (Nat → Int64) → Int32 → Option ((Nat → Nat → Int64) × Int64 × (Nat → Nat → Int64) × (Nat → Int64) × Int32)) {x_added : Nat → Nat → Int64} {x_asked : Nat → Int64} {x_eR : Nat → Nat → Int64} {x_et : Nat → Int64} {x_oR : Nat → Nat → Int64} {x_ot : Nat → Int64} {x_bR : Nat → Nat → Int64} {x_bD : Nat → Nat → Int64} {x_bQ : Nat → Int64} {x_bW : Nat → Int64} {x_bS : Nat → Nat → Int64} {x_bM : Nat → Nat → Int64} {x_bT : Nat → Int64} {x_bn : Int32} {x_tg : Nat → Int64} {x_tb : Int64} {x_ts : Nat → Int32} {x_fg : Nat → Int64} {x_fb : Int64} {x_fV : Nat → Nat → Int64} {x_fS : Nat → Int64} {x_fn : Int32} {x_cg : Nat → Int64} {x_cb : Int64} {x_cB : Nat → Int64} {x_cq : Int64} {x_vHeld : Int32} {x_vRed : Int32} {x_vTal : Int32} {x_vLis : Int32} (v1 : Int32) (v2 : Int64) (hW : ∀ (x_bS : Nat → Nat → Int64) (x_fb : Int64) (x_fV : Nat → Nat → Int64) (x_fS : Nat → Int64) (x_fn : Int32) (a : Int64) (b : Int32) (v : Int64) (out : (Nat → Nat → Int64) × Int64 × (Nat → Nat → Int64) × (Nat → Int64) × Int32), Wk (v1 - (1 : Int32)) a b v x_bS x_fb x_fV x_fS x_fn = some out → Mt yB_walk cB_walk 13 none (rmWn m9) κ [.ref (κ.1 38), .int (v1 - (1 : Int32)), .long a, .int b, .long v, .ref (κ.1 66)] (LM κ τ (LC κ (x_added, x_asked, x_eR, x_et, x_oR, x_ot, x_bR, x_bD, x_bQ, x_bW, x_bS, x_bM, x_bT, x_bn, x_tg, x_tb, x_ts, x_fg, x_fb, x_fV, x_fS, x_fn, x_cg, x_cb, x_cB, x_cq, x_vHeld, x_vRed, x_vTal, x_vLis))) none (LM κ τ (LC κ (x_added, x_asked, x_eR, x_et, x_oR, x_ot, x_bR, x_bD, x_bQ, x_bW, out.1, x_bM, x_bT, x_bn, x_tg, x_tb, x_ts, x_fg, out.2.1, out.2.2.1, out.2.2.2.1, out.2.2.2.2, x_cg, x_cb, x_cB, x_cq, x_vHeld, x_vRed, x_vTal, x_vLis)))) {out : (Nat → Nat → Int64) × Int64 × (Nat → Nat → Int64) × (Nat → Int64) × Int32} (h : B_desc_F F Wk x_bD x_bW x_bS x_fb x_fV x_fS x_fn v1 v2 = some out) : Mt yB_descend cB_descend 8 none (rmDn (m9 + 1)) κ [.ref (κ.1 38), .int v1, .long v2, .ref (κ.1 66)] (LM κ τ (LC κ (x_added, x_asked, x_eR, x_et, x_oR, x_ot, x_bR, x_bD, x_bQ, x_bW, x_bS, x_bM, x_bT, x_bn, x_tg, x_tb, x_ts, x_fg, x_fb, x_fV, x_fS, x_fn, x_cg, x_cb, x_cB, x_cq, x_vHeld, x_vRed, x_vTal, x_vLis))) none (LM κ τ (LC κ (x_added, x_asked, x_eR, x_et, x_oR, x_ot, x_bR, x_bD, x_bQ, x_bW, out.1, x_bM, x_bT, x_bn, x_tg, x_tb, x_ts, x_fg, out.2.1, out.2.2.1, out.2.2.2.1, out.2.2.2.2, x_cg, x_cb, x_cB, x_cq, x_vHeld, x_vRed, x_vTal, x_vLis))) := by
  refine Mt.of (by decide) (Nat.le_of_ble_eq_true rfl) ?_
  intro g G Fh
  unfold B_desc_F at h
  show J g κ 8 0 [(0, .ref (κ.1 38)), (1, .int v1), (2, .long v2), (4, .ref (κ.1 66))] [] (LM κ τ (LC κ (x_added, x_asked, x_eR, x_et, x_oR, x_ot, x_bR, x_bD, x_bQ, x_bW, x_bS, x_bM, x_bT, x_bn, x_tg, x_tb, x_ts, x_fg, x_fb, x_fV, x_fS, x_fn, x_cg, x_cb, x_cB, x_cq, x_vHeld, x_vRed, x_vTal, x_vLis)))
  refine w_iload_n (pc := 0) (q := 1) G dB_descend_0 rfl rfl ?_
  refine w_if_gt (pc := 1) (tgt := 31) G dB_descend_1 (by decide) (fun c1 => ?_) (fun c1 => ?_)
  · have h := if_t c1 h
    refine w_iload_n (pc := 31) (q := 1) G dB_descend_31 rfl rfl ?_
    refine w_iconst (pc := 32) (v := (1 : Int32)) G dB_descend_32 (by decide) ?_
    refine w_isub (pc := 33) G dB_descend_33 ?_
    refine w_istore (pc := 34) (lv' := [(5, .int (v1 - (1 : Int32))), (0, .ref (κ.1 38)), (1, .int v1), (2, .long v2), (4, .ref (κ.1 66))]) G dB_descend_34 (by decide) rfl ?_
    refine w_aload_n (pc := 36) (q := 1) G dB_descend_36 rfl rfl ?_
    refine w_get (pc := 37) (v := .ref (κ.1 44)) (fs := fl_B κ (x_added, x_asked, x_eR, x_et, x_oR, x_ot, x_bR, x_bD, x_bQ, x_bW, x_bS, x_bM, x_bT, x_bn, x_tg, x_tb, x_ts, x_fg, x_fb, x_fV, x_fS, x_fn, x_cg, x_cb, x_cB, x_cq, x_vHeld, x_vRed, x_vTal, x_vLis)) G 38 (by decide) lb_B rfl wsB_ok 1 (by decide) wd45 gf_B_1 dB_descend_37 ?_
    refine w_iload (pc := 40) (q := 0) G dB_descend_40 rfl ?_
    obtain ⟨i42, h⟩ := gd_some h
    refine w_aald (pc := 42) (n := 4) (f := og κ 45 4) (b := κ.1 (45 + (v1 - (1 : Int32)).toNatClampNeg)) G 44 (by decide) lo_bD i42 (og_at (ixlt i42)) dB_descend_42 ?_
    refine w_aload_n (pc := 43) (q := 1) G dB_descend_43 rfl rfl ?_
    refine w_get (pc := 44) (v := .ref (κ.1 51)) (fs := fl_B κ (x_added, x_asked, x_eR, x_et, x_oR, x_ot, x_bR, x_bD, x_bQ, x_bW, x_bS, x_bM, x_bT, x_bn, x_tg, x_tb, x_ts, x_fg, x_fb, x_fV, x_fS, x_fn, x_cg, x_cb, x_cB, x_cq, x_vHeld, x_vRed, x_vTal, x_vLis)) G 38 (by decide) lb_B rfl wsB_ok 4 (by decide) wd48 gf_B_4 dB_descend_44 ?_
    refine w_iload_n (pc := 47) (q := 2) G dB_descend_47 rfl rfl ?_
    obtain ⟨i48, h⟩ := gd_some h
    refine w_aald (pc := 48) (n := 5) (f := og κ 52 5) (b := κ.1 (52 + v1.toNatClampNeg)) G 51 (by decide) lo_bS i48 (og_at (ixlt i48)) dB_descend_48 ?_
    obtain ⟨r49, e49, h⟩ := bd h
    refine w_callSN (pc := 49) (av := [.ref (κ.1 (45 + (v1 - (1 : Int32)).toNatClampNeg)), .ref (κ.1 (52 + v1.toNatClampNeg))]) (rest := []) (v := some (.long r49)) (L' := (LM κ τ (LC κ (x_added, x_asked, x_eR, x_et, x_oR, x_ot, x_bR, x_bD, x_bQ, x_bW, x_bS, x_bM, x_bT, x_bn, x_tg, x_tb, x_ts, x_fg, x_fb, x_fV, x_fS, x_fn, x_cg, x_cb, x_cB, x_cq, x_vHeld, x_vRed, x_vTal, x_vLis)))) G (cb_V_product_B_desc_F m9) wd262 wd261 (met_V_product κ (LM κ τ (LC κ (x_added, x_asked, x_eR, x_et, x_oR, x_ot, x_bR, x_bD, x_bQ, x_bW, x_bS, x_bM, x_bT, x_bn, x_tg, x_tb, x_ts, x_fg, x_fb, x_fV, x_fS, x_fn, x_cg, x_cb, x_cB, x_cq, x_vHeld, x_vRed, x_vTal, x_vLis))) F  (45 + (v1 - (1 : Int32)).toNatClampNeg) (nw_bD (ixlt i42)) (x_bD (v1 - (1 : Int32)).toNatClampNeg) (lk_bD (ixlt i42)) (52 + v1.toNatClampNeg) (nw_bS (ixlt i48)) (x_bS v1.toNatClampNeg) (lk_bS (ixlt i48)) e49) rfl rfl rfl (Nat.le_of_ble_eq_true rfl) dB_descend_49 ?_
    refine w_aload_n (pc := 52) (q := 1) G dB_descend_52 rfl rfl ?_
    refine w_get (pc := 53) (v := .ref (κ.1 50)) (fs := fl_B κ (x_added, x_asked, x_eR, x_et, x_oR, x_ot, x_bR, x_bD, x_bQ, x_bW, x_bS, x_bM, x_bT, x_bn, x_tg, x_tb, x_ts, x_fg, x_fb, x_fV, x_fS, x_fn, x_cg, x_cb, x_cB, x_cq, x_vHeld, x_vRed, x_vTal, x_vLis)) G 38 (by decide) lb_B rfl wsB_ok 3 (by decide) wd47 gf_B_3 dB_descend_53 ?_
    refine w_iload (pc := 56) (q := 0) G dB_descend_56 rfl ?_
    obtain ⟨i58, h⟩ := gd_some h
    refine w_lald (pc := 58) (n := 4) (f := x_bW) G 50 (by decide) lk_bW i58 dB_descend_58 ?_
    obtain ⟨r59, e59, h⟩ := bd h
    refine w_callSN (pc := 59) (av := [.long r49, .long (x_bW (v1 - (1 : Int32)).toNatClampNeg)]) (rest := []) (v := some (.long r59)) (L' := (LM κ τ (LC κ (x_added, x_asked, x_eR, x_et, x_oR, x_ot, x_bR, x_bD, x_bQ, x_bW, x_bS, x_bM, x_bT, x_bn, x_tg, x_tb, x_ts, x_fg, x_fb, x_fV, x_fS, x_fn, x_cg, x_cb, x_cB, x_cq, x_vHeld, x_vRed, x_vTal, x_vLis)))) G (cb_V_nearestQuotient_B_desc_F m9) wd269 wd268 (met_V_nearestQuotient κ (LM κ τ (LC κ (x_added, x_asked, x_eR, x_et, x_oR, x_ot, x_bR, x_bD, x_bQ, x_bW, x_bS, x_bM, x_bT, x_bn, x_tg, x_tb, x_ts, x_fg, x_fb, x_fV, x_fS, x_fn, x_cg, x_cb, x_cB, x_cq, x_vHeld, x_vRed, x_vTal, x_vLis))) F r49 (x_bW (v1 - (1 : Int32)).toNatClampNeg)  e59) rfl rfl rfl (Nat.le_of_ble_eq_true rfl) dB_descend_59 ?_
    refine w_lneg (pc := 62) G dB_descend_62 ?_
    refine w_lstore (pc := 63) (lv' := [(6, .long (-r59)), (5, .int (v1 - (1 : Int32))), (0, .ref (κ.1 38)), (1, .int v1), (2, .long v2), (4, .ref (κ.1 66))]) G dB_descend_63 (by decide) rfl ?_
    refine w_aload_n (pc := 65) (q := 2) G dB_descend_65 rfl rfl ?_
    refine w_iload (pc := 66) (q := 1) G dB_descend_66 rfl ?_
    refine w_lload (pc := 68) (q := 0) G dB_descend_68 rfl ?_
    refine w_iconst (pc := 70) (v := (1 : Int32)) G dB_descend_70 (by decide) ?_
    refine w_lload_n (pc := 71) (q := 4) G dB_descend_71 rfl rfl ?_
    refine w_aload (pc := 72) (q := 5) G dB_descend_72 rfl ?_
    obtain ⟨r74, e74, h⟩ := bd h
    refine w_callV (pc := 74) (av := [.int (v1 - (1 : Int32)), .long (-r59), .int (1 : Int32), .long v2, .ref (κ.1 66)]) (rest := []) (v := none) (L' := (LM κ τ (LC κ (x_added, x_asked, x_eR, x_et, x_oR, x_ot, x_bR, x_bD, x_bQ, x_bW, r74.1, x_bM, x_bT, x_bn, x_tg, x_tb, x_ts, x_fg, r74.2.1, r74.2.2.1, r74.2.2.2.1, r74.2.2.2.2, x_cg, x_cb, x_cB, x_cq, x_vHeld, x_vRed, x_vTal, x_vLis)))) (T := TB) (fs := fl_B κ (x_added, x_asked, x_eR, x_et, x_oR, x_ot, x_bR, x_bD, x_bQ, x_bW, x_bS, x_bM, x_bT, x_bn, x_tg, x_tb, x_ts, x_fg, x_fb, x_fV, x_fS, x_fn, x_cg, x_cb, x_cB, x_cq, x_vHeld, x_vRed, x_vTal, x_vLis)) G 38 3 8 (by decide) lb_B rfl (cbWD m9) wd427 ws18 wd425 (hW x_bS x_fb x_fV x_fS x_fn (-r59) (1 : Int32) v2 _ e74) rfl rfl rfl (Nat.le_of_ble_eq_true rfl) dB_descend_74 ?_
    refine w_aload_n (pc := 77) (q := 2) G dB_descend_77 rfl rfl ?_
    refine w_iload (pc := 78) (q := 1) G dB_descend_78 rfl ?_
    refine w_lload (pc := 80) (q := 0) G dB_descend_80 rfl ?_
    refine w_lconst (pc := 82) (v := (1 : Int64)) G dB_descend_82 (by decide) ?_
    refine w_lsub (pc := 83) G dB_descend_83 ?_
    refine w_iconst (pc := 84) (v := (-1 : Int32)) G dB_descend_84 (by decide) ?_
    refine w_lload_n (pc := 85) (q := 4) G dB_descend_85 rfl rfl ?_
    refine w_aload (pc := 86) (q := 5) G dB_descend_86 rfl ?_
    obtain ⟨r88, e88, h⟩ := bd h
    refine w_callV (pc := 88) (av := [.int (v1 - (1 : Int32)), .long ((-r59) - (1 : Int64)), .int (-1 : Int32), .long v2, .ref (κ.1 66)]) (rest := []) (v := none) (L' := (LM κ τ (LC κ (x_added, x_asked, x_eR, x_et, x_oR, x_ot, x_bR, x_bD, x_bQ, x_bW, r88.1, x_bM, x_bT, x_bn, x_tg, x_tb, x_ts, x_fg, r88.2.1, r88.2.2.1, r88.2.2.2.1, r88.2.2.2.2, x_cg, x_cb, x_cB, x_cq, x_vHeld, x_vRed, x_vTal, x_vLis)))) (T := TB) (fs := fl_B κ (x_added, x_asked, x_eR, x_et, x_oR, x_ot, x_bR, x_bD, x_bQ, x_bW, r74.1, x_bM, x_bT, x_bn, x_tg, x_tb, x_ts, x_fg, r74.2.1, r74.2.2.1, r74.2.2.2.1, r74.2.2.2.2, x_cg, x_cb, x_cB, x_cq, x_vHeld, x_vRed, x_vTal, x_vLis)) G 38 3 8 (by decide) lb_B rfl (cbWD m9) wd427 ws18 wd425 (hW r74.1 r74.2.1 r74.2.2.1 r74.2.2.2.1 r74.2.2.2.2 ((-r59) - (1 : Int64)) (-1 : Int32) v2 _ e88) rfl rfl rfl (Nat.le_of_ble_eq_true rfl) dB_descend_88 ?_
    obtain rfl := Option.some.inj h
    exact w_vret (pc := 91) G dB_descend_91 Fh
  · have h := if_f c1 h
    refine w_aload (pc := 4) (q := 3) G dB_descend_4 rfl ?_
    refine w_aload_n (pc := 6) (q := 0) G dB_descend_6 rfl rfl ?_
    refine w_get (pc := 7) (v := .ref (κ.1 51)) (fs := fl_B κ (x_added, x_asked, x_eR, x_et, x_oR, x_ot, x_bR, x_bD, x_bQ, x_bW, x_bS, x_bM, x_bT, x_bn, x_tg, x_tb, x_ts, x_fg, x_fb, x_fV, x_fS, x_fn, x_cg, x_cb, x_cB, x_cq, x_vHeld, x_vRed, x_vTal, x_vLis)) G 38 (by decide) lb_B rfl wsB_ok 4 (by decide) wd48 gf_B_4 dB_descend_7 ?_
    refine w_iconst (pc := 10) (v := (0 : Int32)) G dB_descend_10 (by decide) ?_
    obtain ⟨i11, h⟩ := gd_some h
    refine w_aald (pc := 11) (n := 5) (f := og κ 52 5) (b := κ.1 (52 + (0 : Int32).toNatClampNeg)) G 51 (by decide) lo_bS i11 (og_at (ixlt i11)) dB_descend_11 ?_
    refine w_aload_n (pc := 12) (q := 0) G dB_descend_12 rfl rfl ?_
    refine w_get (pc := 13) (v := .ref (κ.1 51)) (fs := fl_B κ (x_added, x_asked, x_eR, x_et, x_oR, x_ot, x_bR, x_bD, x_bQ, x_bW, x_bS, x_bM, x_bT, x_bn, x_tg, x_tb, x_ts, x_fg, x_fb, x_fV, x_fS, x_fn, x_cg, x_cb, x_cB, x_cq, x_vHeld, x_vRed, x_vTal, x_vLis)) G 38 (by decide) lb_B rfl wsB_ok 4 (by decide) wd48 gf_B_4 dB_descend_13 ?_
    refine w_iconst (pc := 16) (v := (0 : Int32)) G dB_descend_16 (by decide) ?_
    obtain ⟨i17, h⟩ := gd_some h
    refine w_aald (pc := 17) (n := 5) (f := og κ 52 5) (b := κ.1 (52 + (0 : Int32).toNatClampNeg)) G 51 (by decide) lo_bS i17 (og_at (ixlt i17)) dB_descend_17 ?_
    refine w_aload_n (pc := 18) (q := 0) G dB_descend_18 rfl rfl ?_
    refine w_get (pc := 19) (v := .ref (κ.1 51)) (fs := fl_B κ (x_added, x_asked, x_eR, x_et, x_oR, x_ot, x_bR, x_bD, x_bQ, x_bW, x_bS, x_bM, x_bT, x_bn, x_tg, x_tb, x_ts, x_fg, x_fb, x_fV, x_fS, x_fn, x_cg, x_cb, x_cB, x_cq, x_vHeld, x_vRed, x_vTal, x_vLis)) G 38 (by decide) lb_B rfl wsB_ok 4 (by decide) wd48 gf_B_4 dB_descend_19 ?_
    refine w_iconst (pc := 22) (v := (0 : Int32)) G dB_descend_22 (by decide) ?_
    obtain ⟨i23, h⟩ := gd_some h
    refine w_aald (pc := 23) (n := 5) (f := og κ 52 5) (b := κ.1 (52 + (0 : Int32).toNatClampNeg)) G 51 (by decide) lo_bS i23 (og_at (ixlt i23)) dB_descend_23 ?_
    obtain ⟨r24, e24, h⟩ := bd h
    refine w_callSN (pc := 24) (av := [.ref (κ.1 (52 + (0 : Int32).toNatClampNeg)), .ref (κ.1 (52 + (0 : Int32).toNatClampNeg))]) (rest := [.ref (κ.1 (52 + (0 : Int32).toNatClampNeg)), .ref (κ.1 66)]) (v := some (.long r24)) (L' := (LM κ τ (LC κ (x_added, x_asked, x_eR, x_et, x_oR, x_ot, x_bR, x_bD, x_bQ, x_bW, x_bS, x_bM, x_bT, x_bn, x_tg, x_tb, x_ts, x_fg, x_fb, x_fV, x_fS, x_fn, x_cg, x_cb, x_cB, x_cq, x_vHeld, x_vRed, x_vTal, x_vLis)))) G (cb_V_product_B_desc_F m9) wd262 wd261 (met_V_product κ (LM κ τ (LC κ (x_added, x_asked, x_eR, x_et, x_oR, x_ot, x_bR, x_bD, x_bQ, x_bW, x_bS, x_bM, x_bT, x_bn, x_tg, x_tb, x_ts, x_fg, x_fb, x_fV, x_fS, x_fn, x_cg, x_cb, x_cB, x_cq, x_vHeld, x_vRed, x_vTal, x_vLis))) F  (52 + (0 : Int32).toNatClampNeg) (nw_bS (ixlt i17)) (x_bS (0 : Int32).toNatClampNeg) (lk_bS (ixlt i17)) (52 + (0 : Int32).toNatClampNeg) (nw_bS (ixlt i23)) (x_bS (0 : Int32).toNatClampNeg) (lk_bS (ixlt i23)) e24) rfl rfl rfl (Nat.le_of_ble_eq_true rfl) dB_descend_24 ?_
    obtain ⟨r27, e27, h⟩ := bd h
    refine w_callU (pc := 27) (av := [.ref (κ.1 (52 + (0 : Int32).toNatClampNeg)), .long r24]) (rest := []) (v := none) (L' := (LM κ τ (LC κ (x_added, x_asked, x_eR, x_et, x_oR, x_ot, x_bR, x_bD, x_bQ, x_bW, x_bS, x_bM, x_bT, x_bn, x_tg, x_tb, x_ts, x_fg, r27.1, r27.2.1, r27.2.2.1, r27.2.2.2, x_cg, x_cb, x_cB, x_cq, x_vHeld, x_vRed, x_vTal, x_vLis)))) (T := TF) (fs := fl_F κ (x_added, x_asked, x_eR, x_et, x_oR, x_ot, x_bR, x_bD, x_bQ, x_bW, x_bS, x_bM, x_bT, x_bn, x_tg, x_tb, x_ts, x_fg, x_fb, x_fV, x_fS, x_fn, x_cg, x_cb, x_cB, x_cq, x_vHeld, x_vRed, x_vTal, x_vLis)) G 66 5 5 (by decide) lb_F rfl (cb_F_meet_B_desc_F m9) wd381 wd383 wd394 wd395 wd382 (by decide) rfl (met_F_meet κ τ F r24  e27) rfl rfl rfl (Nat.le_of_ble_eq_true rfl) dB_descend_27 ?_
    obtain rfl := Option.some.inj h
    exact w_vret (pc := 30) G dB_descend_30 Fh
theorem cb_V_addMultiple_B_walk_C (m9 : Nat) : CB yV_addMultiple cV_addMultiple 5 none rm_V_addMultiple (rmWn m9) 3 := ⟨wd187, wd1, by decide +kernel, rfl, rfl, by simp only [rm_V_addMultiple, rmWn]; omega⟩
theorem cb_V_copy_B_walk_C (m9 : Nat) : CB yV_copy cV_copy 2 none rm_V_copy (rmWn m9) 2 := ⟨wd170, wd1, by decide +kernel, rfl, rfl, by simp only [rm_V_copy, rmWn]; omega⟩
theorem cb_V_product_B_walk_C (m9 : Nat) : CB yV_product cV_product 5 (some .long) rm_V_product (rmWn m9) 2 := ⟨wd263, wd1, by decide +kernel, rfl, rfl, by simp only [rm_V_product, rmWn]; omega⟩
theorem cb_K_wants_C_B_walk_C (m9 : Nat) : CB yK_wants cK_wants 3 (some .boolean) rm_K_wants_C (rmWn m9) 1 := ⟨wd402, wd4, by decide +kernel, rfl, rfl, by simp only [rm_K_wants_C, rmWn]; omega⟩
noncomputable def lB_walk_C_36 (F : Nat) (D : Int32 → Int64 → (Nat → Nat → Int64) → Int64 → (Nat → Int64) → Int64 → Option ((Nat → Nat → Int64) × Int64 × (Nat → Int64) × Int64)) (x_bR : Nat → Nat → Int64) (x_bD : Nat → Nat → Int64) (x_bQ : Nat → Int64) (v1 : Int32) (v4 : Int32) (v5 : Int64) : Nat → Int32 → (Nat → Nat → Int64) → Int64 → (Nat → Int64) → Int64 → Option (((Nat → Nat → Int64) × Int64 × (Nat → Int64) × Int64) ⊕ ((Nat → Nat → Int64) × Int64 × (Nat → Int64) × Int64))
  | 0, _, _, _, _, _ => none
  | n + 1, v8, x_bS, x_cb, x_cB, x_cq => if (1000000 : Int32) ≤ v8 then some (.inl (x_bS, x_cb, x_cB, x_cq)) else gd (vp_in v1 4) (gd (vp_in v1 5) ((V_product F (x_bD v1.toNatClampNeg) (x_bS v1.toNatClampNeg) ).bind (fun r55 => gd (vp_in v1 4) (gd (¬ (x_bQ v1.toNatClampNeg) = 0) ((K_wants F x_cb (v5 + ((r55 * r55) / (x_bQ v1.toNatClampNeg)))).bind (fun r81 => if r81 = 0 then some (.inr (x_bS, x_cb, x_cB, x_cq)) else (D v1 (v5 + ((r55 * r55) / (x_bQ v1.toNatClampNeg))) x_bS x_cb x_cB x_cq).bind (fun r94 => gd (vp_in v1 5) (gd (vp_in v1 4) ((V_addMultiple F (r94.1 v1.toNatClampNeg) (x_bR v1.toNatClampNeg) v4.toInt64).bind (fun r112 => lB_walk_C_36 F D x_bR x_bD x_bQ v1 v4 v5 n (v8 + 1) (va_up r94.1 v1.toNatClampNeg r112) r94.2.1 r94.2.2.1 r94.2.2.2))))))))))
set_option maxHeartbeats 8000000 in
set_option maxRecDepth 100000 in
theorem lB_walk_C_36_ok {g : Gm} {κ : ctx} {m9 : Nat} (G : OK g κ RB cB_walk 13 none (rmWn m9)) (τ : MS) (F : Nat) (D : Int32 → Int64 → (Nat → Nat → Int64) → Int64 → (Nat → Int64) → Int64 → Option ((Nat → Nat → Int64) × Int64 × (Nat → Int64) × Int64)) {x_added : Nat → Nat → Int64} {x_asked : Nat → Int64} {x_eR : Nat → Nat → Int64} {x_et : Nat → Int64} {x_oR : Nat → Nat → Int64} {x_ot : Nat → Int64} {x_bR : Nat → Nat → Int64} {x_bD : Nat → Nat → Int64} {x_bQ : Nat → Int64} {x_bW : Nat → Int64} {x_bM : Nat → Nat → Int64} {x_bT : Nat → Int64} {x_bn : Int32} {x_tg : Nat → Int64} {x_tb : Int64} {x_ts : Nat → Int32} {x_fg : Nat → Int64} {x_fb : Int64} {x_fV : Nat → Nat → Int64} {x_fS : Nat → Int64} {x_fn : Int32} {x_cg : Nat → Int64} {x_vHeld : Int32} {x_vRed : Int32} {x_vTal : Int32} {x_vLis : Int32} (v1 : Int32) (v4 : Int32) (v5 : Int64) (hD : ∀ (x_bS : Nat → Nat → Int64) (x_cb : Int64) (x_cB : Nat → Int64) (x_cq : Int64) (v : Int64) (out : (Nat → Nat → Int64) × Int64 × (Nat → Int64) × Int64), D v1 v x_bS x_cb x_cB x_cq = some out → Mt yB_descend cB_descend 8 none (rmDn m9) κ [.ref (κ.1 38), .int v1, .long v, .ref (κ.1 111)] (LM κ τ (LC κ (x_added, x_asked, x_eR, x_et, x_oR, x_ot, x_bR, x_bD, x_bQ, x_bW, x_bS, x_bM, x_bT, x_bn, x_tg, x_tb, x_ts, x_fg, x_fb, x_fV, x_fS, x_fn, x_cg, x_cb, x_cB, x_cq, x_vHeld, x_vRed, x_vTal, x_vLis))) none (LM κ τ (LC κ (x_added, x_asked, x_eR, x_et, x_oR, x_ot, x_bR, x_bD, x_bQ, x_bW, out.1, x_bM, x_bT, x_bn, x_tg, x_tb, x_ts, x_fg, x_fb, x_fV, x_fS, x_fn, x_cg, out.2.1, out.2.2.1, out.2.2.2, x_vHeld, x_vRed, x_vTal, x_vLis)))) : ∀ (n : Nat) (v8 : Int32) (x_bS : Nat → Nat → Int64) (x_cb : Int64) (x_cB : Nat → Int64) (x_cq : Int64) (out : ((Nat → Nat → Int64) × Int64 × (Nat → Int64) × Int64) ⊕ ((Nat → Nat → Int64) × Int64 × (Nat → Int64) × Int64)), lB_walk_C_36 F D x_bR x_bD x_bQ v1 v4 v5 n v8 x_bS x_cb x_cB x_cq = some out → (∀ e, out = .inl e → (J g κ 13 121 [] [] (LM κ τ (LC κ (x_added, x_asked, x_eR, x_et, x_oR, x_ot, x_bR, x_bD, x_bQ, x_bW, e.1, x_bM, x_bT, x_bn, x_tg, x_tb, x_ts, x_fg, x_fb, x_fV, x_fS, x_fn, x_cg, e.2.1, e.2.2.1, e.2.2.2, x_vHeld, x_vRed, x_vTal, x_vLis))))) → (∀ r, out = .inr r → Fn g κ none (LM κ τ (LC κ (x_added, x_asked, x_eR, x_et, x_oR, x_ot, x_bR, x_bD, x_bQ, x_bW, r.1, x_bM, x_bT, x_bn, x_tg, x_tb, x_ts, x_fg, x_fb, x_fV, x_fS, x_fn, x_cg, r.2.1, r.2.2.1, r.2.2.2, x_vHeld, x_vRed, x_vTal, x_vLis)))) → J g κ 13 36 [(0, .ref (κ.1 38)), (1, .int v1), (4, .int v4), (5, .long v5), (7, .ref (κ.1 111)), (8, .int v8)] [] (LM κ τ (LC κ (x_added, x_asked, x_eR, x_et, x_oR, x_ot, x_bR, x_bD, x_bQ, x_bW, x_bS, x_bM, x_bT, x_bn, x_tg, x_tb, x_ts, x_fg, x_fb, x_fV, x_fS, x_fn, x_cg, x_cb, x_cB, x_cq, x_vHeld, x_vRed, x_vTal, x_vLis))) := by
  intro n
  induction n with
  | zero =>
    intro v8 x_bS x_cb x_cB x_cq
    intro out h
    rw [lB_walk_C_36] at h
    cases h
  | succ n ih =>
    intro v8 x_bS x_cb x_cB x_cq out h K K2
    rw [lB_walk_C_36] at h
    refine w_iload (pc := 36) (q := 5) G dB_walk_36 rfl ?_
    refine w_ldc (pc := 38) (v := (1000000 : Int32)) G wd252 dB_walk_38 ?_
    refine w_icmp_ge (pc := 40) (tgt := 121) G dB_walk_40 (by decide) (fun c40 => ?_) (fun c40 => ?_)
    · have h := if_t c40 h
      obtain rfl := Option.some.inj h
      refine w_sub (lv' := []) [] rfl ?_
      have K9 := K _ rfl
      exact K9
    · have h := if_f c40 h
      refine w_aload_n (pc := 43) (q := 0) G dB_walk_43 rfl rfl ?_
      refine w_get (pc := 44) (v := .ref (κ.1 44)) (fs := fl_B κ (x_added, x_asked, x_eR, x_et, x_oR, x_ot, x_bR, x_bD, x_bQ, x_bW, x_bS, x_bM, x_bT, x_bn, x_tg, x_tb, x_ts, x_fg, x_fb, x_fV, x_fS, x_fn, x_cg, x_cb, x_cB, x_cq, x_vHeld, x_vRed, x_vTal, x_vLis)) G 38 (by decide) lb_B rfl wsB_ok 1 (by decide) wd45 gf_B_1 dB_walk_44 ?_
      refine w_iload_n (pc := 47) (q := 1) G dB_walk_47 rfl rfl ?_
      obtain ⟨i48, h⟩ := gd_some h
      refine w_aald (pc := 48) (n := 4) (f := og κ 45 4) (b := κ.1 (45 + v1.toNatClampNeg)) G 44 (by decide) lo_bD i48 (og_at (ixlt i48)) dB_walk_48 ?_
      refine w_aload_n (pc := 49) (q := 0) G dB_walk_49 rfl rfl ?_
      refine w_get (pc := 50) (v := .ref (κ.1 51)) (fs := fl_B κ (x_added, x_asked, x_eR, x_et, x_oR, x_ot, x_bR, x_bD, x_bQ, x_bW, x_bS, x_bM, x_bT, x_bn, x_tg, x_tb, x_ts, x_fg, x_fb, x_fV, x_fS, x_fn, x_cg, x_cb, x_cB, x_cq, x_vHeld, x_vRed, x_vTal, x_vLis)) G 38 (by decide) lb_B rfl wsB_ok 4 (by decide) wd48 gf_B_4 dB_walk_50 ?_
      refine w_iload_n (pc := 53) (q := 1) G dB_walk_53 rfl rfl ?_
      obtain ⟨i54, h⟩ := gd_some h
      refine w_aald (pc := 54) (n := 5) (f := og κ 52 5) (b := κ.1 (52 + v1.toNatClampNeg)) G 51 (by decide) lo_bS i54 (og_at (ixlt i54)) dB_walk_54 ?_
      obtain ⟨r55, e55, h⟩ := bd h
      refine w_callSN (pc := 55) (av := [.ref (κ.1 (45 + v1.toNatClampNeg)), .ref (κ.1 (52 + v1.toNatClampNeg))]) (rest := []) (v := some (.long r55)) (L' := (LM κ τ (LC κ (x_added, x_asked, x_eR, x_et, x_oR, x_ot, x_bR, x_bD, x_bQ, x_bW, x_bS, x_bM, x_bT, x_bn, x_tg, x_tb, x_ts, x_fg, x_fb, x_fV, x_fS, x_fn, x_cg, x_cb, x_cB, x_cq, x_vHeld, x_vRed, x_vTal, x_vLis)))) G (cb_V_product_B_walk_C m9) wd262 wd261 (met_V_product κ (LM κ τ (LC κ (x_added, x_asked, x_eR, x_et, x_oR, x_ot, x_bR, x_bD, x_bQ, x_bW, x_bS, x_bM, x_bT, x_bn, x_tg, x_tb, x_ts, x_fg, x_fb, x_fV, x_fS, x_fn, x_cg, x_cb, x_cB, x_cq, x_vHeld, x_vRed, x_vTal, x_vLis))) F  (45 + v1.toNatClampNeg) (nw_bD (ixlt i48)) (x_bD v1.toNatClampNeg) (lk_bD (ixlt i48)) (52 + v1.toNatClampNeg) (nw_bS (ixlt i54)) (x_bS v1.toNatClampNeg) (lk_bS (ixlt i54)) e55) rfl rfl rfl (Nat.le_of_ble_eq_true rfl) dB_walk_55 ?_
      refine w_lstore (pc := 58) (lv' := [(9, .long r55), (0, .ref (κ.1 38)), (1, .int v1), (4, .int v4), (5, .long v5), (7, .ref (κ.1 111)), (8, .int v8)]) G dB_walk_58 (by decide) rfl ?_
      refine w_lload (pc := 60) (q := 4) G dB_walk_60 rfl ?_
      refine w_lload (pc := 62) (q := 0) G dB_walk_62 rfl ?_
      refine w_lload (pc := 64) (q := 0) G dB_walk_64 rfl ?_
      refine w_lmul (pc := 66) G dB_walk_66 ?_
      refine w_aload_n (pc := 67) (q := 1) G dB_walk_67 rfl rfl ?_
      refine w_get (pc := 68) (v := .ref (κ.1 49)) (fs := fl_B κ (x_added, x_asked, x_eR, x_et, x_oR, x_ot, x_bR, x_bD, x_bQ, x_bW, x_bS, x_bM, x_bT, x_bn, x_tg, x_tb, x_ts, x_fg, x_fb, x_fV, x_fS, x_fn, x_cg, x_cb, x_cB, x_cq, x_vHeld, x_vRed, x_vTal, x_vLis)) G 38 (by decide) lb_B rfl wsB_ok 2 (by decide) wd46 gf_B_2 dB_walk_68 ?_
      refine w_iload_n (pc := 71) (q := 2) G dB_walk_71 rfl rfl ?_
      obtain ⟨i72, h⟩ := gd_some h
      refine w_lald (pc := 72) (n := 4) (f := x_bQ) G 49 (by decide) lk_bQ i72 dB_walk_72 ?_
      obtain ⟨z73, h⟩ := gd_some h
      refine w_ldiv (pc := 73) G dB_walk_73 z73 ?_
      refine w_ladd (pc := 74) G dB_walk_74 ?_
      refine w_lstore (pc := 75) (lv' := [(11, .long (v5 + ((r55 * r55) / (x_bQ v1.toNatClampNeg)))), (9, .long r55), (0, .ref (κ.1 38)), (1, .int v1), (4, .int v4), (5, .long v5), (7, .ref (κ.1 111)), (8, .int v8)]) G dB_walk_75 (by decide) rfl ?_
      refine w_aload (pc := 77) (q := 6) G dB_walk_77 rfl ?_
      refine w_lload (pc := 79) (q := 0) G dB_walk_79 rfl ?_
      obtain ⟨r81, e81, h⟩ := bd h
      refine w_callU (pc := 81) (av := [.long (v5 + ((r55 * r55) / (x_bQ v1.toNatClampNeg)))]) (rest := []) (v := some (.int r81)) (L' := (LM κ τ (LC κ (x_added, x_asked, x_eR, x_et, x_oR, x_ot, x_bR, x_bD, x_bQ, x_bW, x_bS, x_bM, x_bT, x_bn, x_tg, x_tb, x_ts, x_fg, x_fb, x_fV, x_fS, x_fn, x_cg, x_cb, x_cB, x_cq, x_vHeld, x_vRed, x_vTal, x_vLis)))) (T := TC) (fs := fl_C κ (x_added, x_asked, x_eR, x_et, x_oR, x_ot, x_bR, x_bD, x_bQ, x_bW, x_bS, x_bM, x_bT, x_bn, x_tg, x_tb, x_ts, x_fg, x_fb, x_fV, x_fS, x_fn, x_cg, x_cb, x_cB, x_cq, x_vHeld, x_vRed, x_vTal, x_vLis)) G 111 6 4 (by decide) lb_C rfl (cb_K_wants_C_B_walk_C m9) wd429 wd759 wd760 wd401 wd399 (by decide) rfl (met_K_wants_C κ τ F (v5 + ((r55 * r55) / (x_bQ v1.toNatClampNeg)))  e81) rfl rfl rfl (Nat.le_of_ble_eq_true rfl) dB_walk_81 ?_
      refine w_if_ne (pc := 84) (tgt := 88) G dB_walk_84 (by decide) (fun c84 => ?_) (fun c84 => ?_)
      · have h := if_t c84 h
        obtain rfl := Option.some.inj h
        have K9 := K2 _ rfl
        exact w_vret (pc := 87) G dB_walk_87 K9
      · have h := if_f c84 h
        refine w_aload_n (pc := 88) (q := 2) G dB_walk_88 rfl rfl ?_
        refine w_iload_n (pc := 89) (q := 3) G dB_walk_89 rfl rfl ?_
        refine w_lload (pc := 90) (q := 0) G dB_walk_90 rfl ?_
        refine w_aload (pc := 92) (q := 6) G dB_walk_92 rfl ?_
        obtain ⟨r94, e94, h⟩ := bd h
        refine w_callV (pc := 94) (av := [.int v1, .long (v5 + ((r55 * r55) / (x_bQ v1.toNatClampNeg))), .ref (κ.1 111)]) (rest := []) (v := none) (L' := (LM κ τ (LC κ (x_added, x_asked, x_eR, x_et, x_oR, x_ot, x_bR, x_bD, x_bQ, x_bW, r94.1, x_bM, x_bT, x_bn, x_tg, x_tb, x_ts, x_fg, x_fb, x_fV, x_fS, x_fn, x_cg, r94.2.1, r94.2.2.1, r94.2.2.2, x_vHeld, x_vRed, x_vTal, x_vLis)))) (T := TB) (fs := fl_B κ (x_added, x_asked, x_eR, x_et, x_oR, x_ot, x_bR, x_bD, x_bQ, x_bW, x_bS, x_bM, x_bT, x_bn, x_tg, x_tb, x_ts, x_fg, x_fb, x_fV, x_fS, x_fn, x_cg, x_cb, x_cB, x_cq, x_vHeld, x_vRed, x_vTal, x_vLis)) G 38 3 8 (by decide) lb_B rfl (cbDW m9) wd379 ws15 wd377 (hD x_bS x_cb x_cB x_cq (v5 + ((r55 * r55) / (x_bQ v1.toNatClampNeg))) _ e94) rfl rfl rfl (Nat.le_of_ble_eq_true rfl) dB_walk_94 ?_
        refine w_aload_n (pc := 97) (q := 2) G dB_walk_97 rfl rfl ?_
        refine w_get (pc := 98) (v := .ref (κ.1 51)) (fs := fl_B κ (x_added, x_asked, x_eR, x_et, x_oR, x_ot, x_bR, x_bD, x_bQ, x_bW, r94.1, x_bM, x_bT, x_bn, x_tg, x_tb, x_ts, x_fg, x_fb, x_fV, x_fS, x_fn, x_cg, r94.2.1, r94.2.2.1, r94.2.2.2, x_vHeld, x_vRed, x_vTal, x_vLis)) G 38 (by decide) lb_B rfl wsB_ok 4 (by decide) wd48 gf_B_4 dB_walk_98 ?_
        refine w_iload_n (pc := 101) (q := 3) G dB_walk_101 rfl rfl ?_
        obtain ⟨i102, h⟩ := gd_some h
        refine w_aald (pc := 102) (n := 5) (f := og κ 52 5) (b := κ.1 (52 + v1.toNatClampNeg)) G 51 (by decide) lo_bS i102 (og_at (ixlt i102)) dB_walk_102 ?_
        refine w_aload_n (pc := 103) (q := 2) G dB_walk_103 rfl rfl ?_
        refine w_get (pc := 104) (v := .ref (κ.1 39)) (fs := fl_B κ (x_added, x_asked, x_eR, x_et, x_oR, x_ot, x_bR, x_bD, x_bQ, x_bW, r94.1, x_bM, x_bT, x_bn, x_tg, x_tb, x_ts, x_fg, x_fb, x_fV, x_fS, x_fn, x_cg, r94.2.1, r94.2.2.1, r94.2.2.2, x_vHeld, x_vRed, x_vTal, x_vLis)) G 38 (by decide) lb_B rfl wsB_ok 0 (by decide) wd44 gf_B_0 dB_walk_104 ?_
        refine w_iload_n (pc := 107) (q := 3) G dB_walk_107 rfl rfl ?_
        obtain ⟨i108, h⟩ := gd_some h
        refine w_aald (pc := 108) (n := 4) (f := og κ 40 4) (b := κ.1 (40 + v1.toNatClampNeg)) G 39 (by decide) lo_bR i108 (og_at (ixlt i108)) dB_walk_108 ?_
        refine w_iload (pc := 109) (q := 4) G dB_walk_109 rfl ?_
        refine w_i2l (pc := 111) G dB_walk_111 ?_
        obtain ⟨r112, e112, h⟩ := bd h
        refine w_callSN (pc := 112) (av := [.ref (κ.1 (52 + v1.toNatClampNeg)), .ref (κ.1 (40 + v1.toNatClampNeg)), .long v4.toInt64]) (rest := []) (v := none) (L' := (LM κ τ (LC κ (x_added, x_asked, x_eR, x_et, x_oR, x_ot, x_bR, x_bD, x_bQ, x_bW, va_up r94.1 v1.toNatClampNeg r112, x_bM, x_bT, x_bn, x_tg, x_tb, x_ts, x_fg, x_fb, x_fV, x_fS, x_fn, x_cg, r94.2.1, r94.2.2.1, r94.2.2.2, x_vHeld, x_vRed, x_vTal, x_vLis)))) G (cb_V_addMultiple_B_walk_C m9) wd186 wd273 (Mt.eqw (up_bS (ixlt i102)) (met_V_addMultiple κ (LM κ τ (LC κ (x_added, x_asked, x_eR, x_et, x_oR, x_ot, x_bR, x_bD, x_bQ, x_bW, r94.1, x_bM, x_bT, x_bn, x_tg, x_tb, x_ts, x_fg, x_fb, x_fV, x_fS, x_fn, x_cg, r94.2.1, r94.2.2.1, r94.2.2.2, x_vHeld, x_vRed, x_vTal, x_vLis))) F v4.toInt64 (52 + v1.toNatClampNeg) (nw_bS (ixlt i102)) (r94.1 v1.toNatClampNeg) (lk_bS (ixlt i102)) (40 + v1.toNatClampNeg) (nw_bR (ixlt i108)) (x_bR v1.toNatClampNeg) (lk_bR (ixlt i108)) (by have := (ixlt i108); have := (ixlt i102); omega) e112)) rfl rfl rfl (Nat.le_of_ble_eq_true rfl) dB_walk_112 ?_
        refine w_iinc (pc := 115) (q0 := 7) (v := (v8 + 1)) (lv' := [(8, .int (v8 + 1)), (11, .long (v5 + ((r55 * r55) / (x_bQ v1.toNatClampNeg)))), (9, .long r55), (0, .ref (κ.1 38)), (1, .int v1), (4, .int v4), (5, .long v5), (7, .ref (κ.1 111))]) G dB_walk_115 rfl rfl (by decide) rfl ?_
        refine w_goto (pc := 118) (tgt := 36) G dB_walk_118 (by decide) ?_
        refine w_sub (lv' := [(0, .ref (κ.1 38)), (1, .int v1), (4, .int v4), (5, .long v5), (7, .ref (κ.1 111)), (8, .int (v8 + 1))]) [3, 4, 5, 6, 7, 0] rfl ?_
        exact ih (v8 + 1) (va_up r94.1 v1.toNatClampNeg r112) r94.2.1 r94.2.2.1 r94.2.2.2 out h K K2
noncomputable def B_walk_C (F : Nat) (D : Int32 → Int64 → (Nat → Nat → Int64) → Int64 → (Nat → Int64) → Int64 → Option ((Nat → Nat → Int64) × Int64 × (Nat → Int64) × Int64))  (x_bR : Nat → Nat → Int64) (x_bD : Nat → Nat → Int64) (x_bQ : Nat → Int64) (x_bS : Nat → Nat → Int64) (x_cb : Int64) (x_cB : Nat → Int64) (x_cq : Int64) (v1 : Int32) (v2 : Int64) (v4 : Int32) (v5 : Int64) : Option ((Nat → Nat → Int64) × Int64 × (Nat → Int64) × Int64) := gd (vp_in (v1 + (1 : Int32)) 5) (gd (vp_in v1 5) (gd (¬ ((v1 + (1 : Int32)).toNatClampNeg) = v1.toNatClampNeg) ((V_copy F (x_bS (v1 + (1 : Int32)).toNatClampNeg) (x_bS v1.toNatClampNeg) ).bind (fun r14 => gd (vp_in v1 5) (gd (vp_in v1 4) ((V_addMultiple F ((va_up x_bS v1.toNatClampNeg r14) v1.toNatClampNeg) (x_bR v1.toNatClampNeg) v2).bind (fun r30 => (lB_walk_C_36 F D x_bR x_bD x_bQ v1 v4 v5 F (0 : Int32) (va_up (va_up x_bS v1.toNatClampNeg r14) v1.toNatClampNeg r30) x_cb x_cB x_cq).bind (fun o36_11 => match o36_11 with | .inl o36_11 => some (o36_11.1, o36_11.2.1, o36_11.2.2.1, o36_11.2.2.2) | .inr o36_11 => some o36_11))))))))
set_option maxHeartbeats 8000000 in
set_option maxRecDepth 100000 in
theorem met_B_walk_C (κ : ctx) (τ : MS) (F : Nat) (m9 : Nat) (D : Int32 → Int64 → (Nat → Nat → Int64) → Int64 → (Nat → Int64) → Int64 → Option ((Nat → Nat → Int64) × Int64 × (Nat → Int64) × Int64)) {x_added : Nat → Nat → Int64} {x_asked : Nat → Int64} {x_eR : Nat → Nat → Int64} {x_et : Nat → Int64} {x_oR : Nat → Nat → Int64} {x_ot : Nat → Int64} {x_bR : Nat → Nat → Int64} {x_bD : Nat → Nat → Int64} {x_bQ : Nat → Int64} {x_bW : Nat → Int64} {x_bS : Nat → Nat → Int64} {x_bM : Nat → Nat → Int64} {x_bT : Nat → Int64} {x_bn : Int32} {x_tg : Nat → Int64} {x_tb : Int64} {x_ts : Nat → Int32} {x_fg : Nat → Int64} {x_fb : Int64} {x_fV : Nat → Nat → Int64} {x_fS : Nat → Int64} {x_fn : Int32} {x_cg : Nat → Int64} {x_cb : Int64} {x_cB : Nat → Int64} {x_cq : Int64} {x_vHeld : Int32} {x_vRed : Int32} {x_vTal : Int32} {x_vLis : Int32} (v1 : Int32) (v2 : Int64) (v4 : Int32) (v5 : Int64) (hD : ∀ (x_bS : Nat → Nat → Int64) (x_cb : Int64) (x_cB : Nat → Int64) (x_cq : Int64) (v : Int64) (out : (Nat → Nat → Int64) × Int64 × (Nat → Int64) × Int64), D v1 v x_bS x_cb x_cB x_cq = some out → Mt yB_descend cB_descend 8 none (rmDn m9) κ [.ref (κ.1 38), .int v1, .long v, .ref (κ.1 111)] (LM κ τ (LC κ (x_added, x_asked, x_eR, x_et, x_oR, x_ot, x_bR, x_bD, x_bQ, x_bW, x_bS, x_bM, x_bT, x_bn, x_tg, x_tb, x_ts, x_fg, x_fb, x_fV, x_fS, x_fn, x_cg, x_cb, x_cB, x_cq, x_vHeld, x_vRed, x_vTal, x_vLis))) none (LM κ τ (LC κ (x_added, x_asked, x_eR, x_et, x_oR, x_ot, x_bR, x_bD, x_bQ, x_bW, out.1, x_bM, x_bT, x_bn, x_tg, x_tb, x_ts, x_fg, x_fb, x_fV, x_fS, x_fn, x_cg, out.2.1, out.2.2.1, out.2.2.2, x_vHeld, x_vRed, x_vTal, x_vLis)))) {out : (Nat → Nat → Int64) × Int64 × (Nat → Int64) × Int64} (h : B_walk_C F D x_bR x_bD x_bQ x_bS x_cb x_cB x_cq v1 v2 v4 v5 = some out) : Mt yB_walk cB_walk 13 none (rmWn m9) κ [.ref (κ.1 38), .int v1, .long v2, .int v4, .long v5, .ref (κ.1 111)] (LM κ τ (LC κ (x_added, x_asked, x_eR, x_et, x_oR, x_ot, x_bR, x_bD, x_bQ, x_bW, x_bS, x_bM, x_bT, x_bn, x_tg, x_tb, x_ts, x_fg, x_fb, x_fV, x_fS, x_fn, x_cg, x_cb, x_cB, x_cq, x_vHeld, x_vRed, x_vTal, x_vLis))) none (LM κ τ (LC κ (x_added, x_asked, x_eR, x_et, x_oR, x_ot, x_bR, x_bD, x_bQ, x_bW, out.1, x_bM, x_bT, x_bn, x_tg, x_tb, x_ts, x_fg, x_fb, x_fV, x_fS, x_fn, x_cg, out.2.1, out.2.2.1, out.2.2.2, x_vHeld, x_vRed, x_vTal, x_vLis))) := by
  refine Mt.of (by decide) (Nat.le_of_ble_eq_true rfl) ?_
  intro g G Fh
  unfold B_walk_C at h
  show J g κ 13 0 [(0, .ref (κ.1 38)), (1, .int v1), (2, .long v2), (4, .int v4), (5, .long v5), (7, .ref (κ.1 111))] [] (LM κ τ (LC κ (x_added, x_asked, x_eR, x_et, x_oR, x_ot, x_bR, x_bD, x_bQ, x_bW, x_bS, x_bM, x_bT, x_bn, x_tg, x_tb, x_ts, x_fg, x_fb, x_fV, x_fS, x_fn, x_cg, x_cb, x_cB, x_cq, x_vHeld, x_vRed, x_vTal, x_vLis)))
  refine w_aload_n (pc := 0) (q := 0) G dB_walk_0 rfl rfl ?_
  refine w_get (pc := 1) (v := .ref (κ.1 51)) (fs := fl_B κ (x_added, x_asked, x_eR, x_et, x_oR, x_ot, x_bR, x_bD, x_bQ, x_bW, x_bS, x_bM, x_bT, x_bn, x_tg, x_tb, x_ts, x_fg, x_fb, x_fV, x_fS, x_fn, x_cg, x_cb, x_cB, x_cq, x_vHeld, x_vRed, x_vTal, x_vLis)) G 38 (by decide) lb_B rfl wsB_ok 4 (by decide) wd48 gf_B_4 dB_walk_1 ?_
  refine w_iload_n (pc := 4) (q := 1) G dB_walk_4 rfl rfl ?_
  refine w_iconst (pc := 5) (v := (1 : Int32)) G dB_walk_5 (by decide) ?_
  refine w_iadd (pc := 6) G dB_walk_6 ?_
  obtain ⟨i7, h⟩ := gd_some h
  refine w_aald (pc := 7) (n := 5) (f := og κ 52 5) (b := κ.1 (52 + (v1 + (1 : Int32)).toNatClampNeg)) G 51 (by decide) lo_bS i7 (og_at (ixlt i7)) dB_walk_7 ?_
  refine w_aload_n (pc := 8) (q := 0) G dB_walk_8 rfl rfl ?_
  refine w_get (pc := 9) (v := .ref (κ.1 51)) (fs := fl_B κ (x_added, x_asked, x_eR, x_et, x_oR, x_ot, x_bR, x_bD, x_bQ, x_bW, x_bS, x_bM, x_bT, x_bn, x_tg, x_tb, x_ts, x_fg, x_fb, x_fV, x_fS, x_fn, x_cg, x_cb, x_cB, x_cq, x_vHeld, x_vRed, x_vTal, x_vLis)) G 38 (by decide) lb_B rfl wsB_ok 4 (by decide) wd48 gf_B_4 dB_walk_9 ?_
  refine w_iload_n (pc := 12) (q := 1) G dB_walk_12 rfl rfl ?_
  obtain ⟨i13, h⟩ := gd_some h
  refine w_aald (pc := 13) (n := 5) (f := og κ 52 5) (b := κ.1 (52 + v1.toNatClampNeg)) G 51 (by decide) lo_bS i13 (og_at (ixlt i13)) dB_walk_13 ?_
  obtain ⟨ne14, h⟩ := gd_some h
  obtain ⟨r14, e14, h⟩ := bd h
  refine w_callSN (pc := 14) (av := [.ref (κ.1 (52 + (v1 + (1 : Int32)).toNatClampNeg)), .ref (κ.1 (52 + v1.toNatClampNeg))]) (rest := []) (v := none) (L' := (LM κ τ (LC κ (x_added, x_asked, x_eR, x_et, x_oR, x_ot, x_bR, x_bD, x_bQ, x_bW, va_up x_bS v1.toNatClampNeg r14, x_bM, x_bT, x_bn, x_tg, x_tb, x_ts, x_fg, x_fb, x_fV, x_fS, x_fn, x_cg, x_cb, x_cB, x_cq, x_vHeld, x_vRed, x_vTal, x_vLis)))) G (cb_V_copy_B_walk_C m9) wd169 wd247 (Mt.eqw (up_bS (ixlt i13)) (met_V_copy κ (LM κ τ (LC κ (x_added, x_asked, x_eR, x_et, x_oR, x_ot, x_bR, x_bD, x_bQ, x_bW, x_bS, x_bM, x_bT, x_bn, x_tg, x_tb, x_ts, x_fg, x_fb, x_fV, x_fS, x_fn, x_cg, x_cb, x_cB, x_cq, x_vHeld, x_vRed, x_vTal, x_vLis))) F  (52 + (v1 + (1 : Int32)).toNatClampNeg) (nw_bS (ixlt i7)) (x_bS (v1 + (1 : Int32)).toNatClampNeg) (lk_bS (ixlt i7)) (52 + v1.toNatClampNeg) (nw_bS (ixlt i13)) (x_bS v1.toNatClampNeg) (lk_bS (ixlt i13)) (fun q => ne14 (by omega)) e14)) rfl rfl rfl (Nat.le_of_ble_eq_true rfl) dB_walk_14 ?_
  refine w_aload_n (pc := 17) (q := 0) G dB_walk_17 rfl rfl ?_
  refine w_get (pc := 18) (v := .ref (κ.1 51)) (fs := fl_B κ (x_added, x_asked, x_eR, x_et, x_oR, x_ot, x_bR, x_bD, x_bQ, x_bW, va_up x_bS v1.toNatClampNeg r14, x_bM, x_bT, x_bn, x_tg, x_tb, x_ts, x_fg, x_fb, x_fV, x_fS, x_fn, x_cg, x_cb, x_cB, x_cq, x_vHeld, x_vRed, x_vTal, x_vLis)) G 38 (by decide) lb_B rfl wsB_ok 4 (by decide) wd48 gf_B_4 dB_walk_18 ?_
  refine w_iload_n (pc := 21) (q := 1) G dB_walk_21 rfl rfl ?_
  obtain ⟨i22, h⟩ := gd_some h
  refine w_aald (pc := 22) (n := 5) (f := og κ 52 5) (b := κ.1 (52 + v1.toNatClampNeg)) G 51 (by decide) lo_bS i22 (og_at (ixlt i22)) dB_walk_22 ?_
  refine w_aload_n (pc := 23) (q := 0) G dB_walk_23 rfl rfl ?_
  refine w_get (pc := 24) (v := .ref (κ.1 39)) (fs := fl_B κ (x_added, x_asked, x_eR, x_et, x_oR, x_ot, x_bR, x_bD, x_bQ, x_bW, va_up x_bS v1.toNatClampNeg r14, x_bM, x_bT, x_bn, x_tg, x_tb, x_ts, x_fg, x_fb, x_fV, x_fS, x_fn, x_cg, x_cb, x_cB, x_cq, x_vHeld, x_vRed, x_vTal, x_vLis)) G 38 (by decide) lb_B rfl wsB_ok 0 (by decide) wd44 gf_B_0 dB_walk_24 ?_
  refine w_iload_n (pc := 27) (q := 1) G dB_walk_27 rfl rfl ?_
  obtain ⟨i28, h⟩ := gd_some h
  refine w_aald (pc := 28) (n := 4) (f := og κ 40 4) (b := κ.1 (40 + v1.toNatClampNeg)) G 39 (by decide) lo_bR i28 (og_at (ixlt i28)) dB_walk_28 ?_
  refine w_lload_n (pc := 29) (q := 2) G dB_walk_29 rfl rfl ?_
  obtain ⟨r30, e30, h⟩ := bd h
  refine w_callSN (pc := 30) (av := [.ref (κ.1 (52 + v1.toNatClampNeg)), .ref (κ.1 (40 + v1.toNatClampNeg)), .long v2]) (rest := []) (v := none) (L' := (LM κ τ (LC κ (x_added, x_asked, x_eR, x_et, x_oR, x_ot, x_bR, x_bD, x_bQ, x_bW, va_up (va_up x_bS v1.toNatClampNeg r14) v1.toNatClampNeg r30, x_bM, x_bT, x_bn, x_tg, x_tb, x_ts, x_fg, x_fb, x_fV, x_fS, x_fn, x_cg, x_cb, x_cB, x_cq, x_vHeld, x_vRed, x_vTal, x_vLis)))) G (cb_V_addMultiple_B_walk_C m9) wd186 wd273 (Mt.eqw (up_bS (ixlt i22)) (met_V_addMultiple κ (LM κ τ (LC κ (x_added, x_asked, x_eR, x_et, x_oR, x_ot, x_bR, x_bD, x_bQ, x_bW, va_up x_bS v1.toNatClampNeg r14, x_bM, x_bT, x_bn, x_tg, x_tb, x_ts, x_fg, x_fb, x_fV, x_fS, x_fn, x_cg, x_cb, x_cB, x_cq, x_vHeld, x_vRed, x_vTal, x_vLis))) F v2 (52 + v1.toNatClampNeg) (nw_bS (ixlt i22)) ((va_up x_bS v1.toNatClampNeg r14) v1.toNatClampNeg) (lk_bS (ixlt i22)) (40 + v1.toNatClampNeg) (nw_bR (ixlt i28)) (x_bR v1.toNatClampNeg) (lk_bR (ixlt i28)) (by have := (ixlt i28); have := (ixlt i22); omega) e30)) rfl rfl rfl (Nat.le_of_ble_eq_true rfl) dB_walk_30 ?_
  refine w_iconst (pc := 33) (v := (0 : Int32)) G dB_walk_33 (by decide) ?_
  refine w_istore (pc := 34) (lv' := [(8, .int (0 : Int32)), (0, .ref (κ.1 38)), (1, .int v1), (2, .long v2), (4, .int v4), (5, .long v5), (7, .ref (κ.1 111))]) G dB_walk_34 (by decide) rfl ?_
  refine w_sub (lv' := [(0, .ref (κ.1 38)), (1, .int v1), (4, .int v4), (5, .long v5), (7, .ref (κ.1 111)), (8, .int (0 : Int32))]) [1, 2, 4, 5, 6, 0] rfl ?_
  obtain ⟨o36_11, eo36_11, h⟩ := bd h
  rcases o36_11 with o36_11 | o36_11
  · refine lB_walk_C_36_ok G τ F D v1 v4 v5 hD F (0 : Int32) (va_up (va_up x_bS v1.toNatClampNeg r14) v1.toNatClampNeg r30) x_cb x_cB x_cq (.inl o36_11) eo36_11 (fun e he => ?_) (fun r he => by cases he)
    cases he
    dsimp only at h
    obtain rfl := Option.some.inj h
    exact w_vret (pc := 121) G dB_walk_121 Fh
  · refine lB_walk_C_36_ok G τ F D v1 v4 v5 hD F (0 : Int32) (va_up (va_up x_bS v1.toNatClampNeg r14) v1.toNatClampNeg r30) x_cb x_cB x_cq (.inr o36_11) eo36_11 (fun e he => by cases he) (fun r he => ?_)
    cases he
    dsimp only at h
    obtain rfl := Option.some.inj h
    exact Fh
theorem cb_V_nearestQuotient_B_desc_C (m9 : Nat) : CB yV_nearestQuotient cV_nearestQuotient 4 (some .long) rm_V_nearestQuotient (rmDn (m9 + 1)) 2 := ⟨wd270, wd1, by decide +kernel, rfl, rfl, by simp only [rm_V_nearestQuotient, rmDn]; omega⟩
theorem cb_V_product_B_desc_C (m9 : Nat) : CB yV_product cV_product 5 (some .long) rm_V_product (rmDn (m9 + 1)) 2 := ⟨wd263, wd1, by decide +kernel, rfl, rfl, by simp only [rm_V_product, rmDn]; omega⟩
theorem cb_C_meet_B_desc_C (m9 : Nat) : CB yC_meet cC_meet 4 none rm_C_meet (rmDn (m9 + 1)) 2 := ⟨wd386, wd7, by decide +kernel, rfl, rfl, by simp only [rm_C_meet, rmDn]; omega⟩
noncomputable def B_desc_C (F : Nat) (Wk : Int32 → Int64 → Int32 → Int64 → (Nat → Nat → Int64) → Int64 → (Nat → Int64) → Int64 → Option ((Nat → Nat → Int64) × Int64 × (Nat → Int64) × Int64))  (x_bD : Nat → Nat → Int64) (x_bW : Nat → Int64) (x_bS : Nat → Nat → Int64) (x_cb : Int64) (x_cB : Nat → Int64) (x_cq : Int64) (v1 : Int32) (v2 : Int64) : Option ((Nat → Nat → Int64) × Int64 × (Nat → Int64) × Int64) := if 0 < v1 then gd (vp_in (v1 - (1 : Int32)) 4) (gd (vp_in v1 5) ((V_product F (x_bD (v1 - (1 : Int32)).toNatClampNeg) (x_bS v1.toNatClampNeg) ).bind (fun r49 => gd (vp_in (v1 - (1 : Int32)) 4) ((V_nearestQuotient F  r49 (x_bW (v1 - (1 : Int32)).toNatClampNeg)).bind (fun r59 => (Wk (v1 - (1 : Int32)) (-r59) (1 : Int32) v2 x_bS x_cb x_cB x_cq).bind (fun r74 => (Wk (v1 - (1 : Int32)) ((-r59) - (1 : Int64)) (-1 : Int32) v2 r74.1 r74.2.1 r74.2.2.1 r74.2.2.2).bind (fun r88 => some (r88.1, r88.2.1, r88.2.2.1, r88.2.2.2)))))))) else gd (vp_in (0 : Int32) 5) (gd (vp_in (0 : Int32) 5) (gd (vp_in (0 : Int32) 5) ((V_product F (x_bS (0 : Int32).toNatClampNeg) (x_bS (0 : Int32).toNatClampNeg) ).bind (fun r24 => (C_meet F x_bS x_cb x_cB x_cq r24).bind (fun r27 => some (x_bS, r27.1, r27.2.1, r27.2.2))))))
set_option maxHeartbeats 8000000 in
set_option maxRecDepth 100000 in
theorem met_B_desc_C (κ : ctx) (τ : MS) (F : Nat) (m9 : Nat) (Wk : Int32 → Int64 → Int32 → Int64 → (Nat → Nat → Int64) → Int64 → (Nat → Int64) → Int64 → Option ((Nat → Nat → Int64) × Int64 × (Nat → Int64) × Int64)) {x_added : Nat → Nat → Int64} {x_asked : Nat → Int64} {x_eR : Nat → Nat → Int64} {x_et : Nat → Int64} {x_oR : Nat → Nat → Int64} {x_ot : Nat → Int64} {x_bR : Nat → Nat → Int64} {x_bD : Nat → Nat → Int64} {x_bQ : Nat → Int64} {x_bW : Nat → Int64} {x_bS : Nat → Nat → Int64} {x_bM : Nat → Nat → Int64} {x_bT : Nat → Int64} {x_bn : Int32} {x_tg : Nat → Int64} {x_tb : Int64} {x_ts : Nat → Int32} {x_fg : Nat → Int64} {x_fb : Int64} {x_fV : Nat → Nat → Int64} {x_fS : Nat → Int64} {x_fn : Int32} {x_cg : Nat → Int64} {x_cb : Int64} {x_cB : Nat → Int64} {x_cq : Int64} {x_vHeld : Int32} {x_vRed : Int32} {x_vTal : Int32} {x_vLis : Int32} (v1 : Int32) (v2 : Int64) (hW : ∀ (x_bS : Nat → Nat → Int64) (x_cb : Int64) (x_cB : Nat → Int64) (x_cq : Int64) (a : Int64) (b : Int32) (v : Int64) (out : (Nat → Nat → Int64) × Int64 × (Nat → Int64) × Int64), Wk (v1 - (1 : Int32)) a b v x_bS x_cb x_cB x_cq = some out → Mt yB_walk cB_walk 13 none (rmWn m9) κ [.ref (κ.1 38), .int (v1 - (1 : Int32)), .long a, .int b, .long v, .ref (κ.1 111)] (LM κ τ (LC κ (x_added, x_asked, x_eR, x_et, x_oR, x_ot, x_bR, x_bD, x_bQ, x_bW, x_bS, x_bM, x_bT, x_bn, x_tg, x_tb, x_ts, x_fg, x_fb, x_fV, x_fS, x_fn, x_cg, x_cb, x_cB, x_cq, x_vHeld, x_vRed, x_vTal, x_vLis))) none (LM κ τ (LC κ (x_added, x_asked, x_eR, x_et, x_oR, x_ot, x_bR, x_bD, x_bQ, x_bW, out.1, x_bM, x_bT, x_bn, x_tg, x_tb, x_ts, x_fg, x_fb, x_fV, x_fS, x_fn, x_cg, out.2.1, out.2.2.1, out.2.2.2, x_vHeld, x_vRed, x_vTal, x_vLis)))) {out : (Nat → Nat → Int64) × Int64 × (Nat → Int64) × Int64} (h : B_desc_C F Wk x_bD x_bW x_bS x_cb x_cB x_cq v1 v2 = some out) : Mt yB_descend cB_descend 8 none (rmDn (m9 + 1)) κ [.ref (κ.1 38), .int v1, .long v2, .ref (κ.1 111)] (LM κ τ (LC κ (x_added, x_asked, x_eR, x_et, x_oR, x_ot, x_bR, x_bD, x_bQ, x_bW, x_bS, x_bM, x_bT, x_bn, x_tg, x_tb, x_ts, x_fg, x_fb, x_fV, x_fS, x_fn, x_cg, x_cb, x_cB, x_cq, x_vHeld, x_vRed, x_vTal, x_vLis))) none (LM κ τ (LC κ (x_added, x_asked, x_eR, x_et, x_oR, x_ot, x_bR, x_bD, x_bQ, x_bW, out.1, x_bM, x_bT, x_bn, x_tg, x_tb, x_ts, x_fg, x_fb, x_fV, x_fS, x_fn, x_cg, out.2.1, out.2.2.1, out.2.2.2, x_vHeld, x_vRed, x_vTal, x_vLis))) := by
  refine Mt.of (by decide) (Nat.le_of_ble_eq_true rfl) ?_
  intro g G Fh
  unfold B_desc_C at h
  show J g κ 8 0 [(0, .ref (κ.1 38)), (1, .int v1), (2, .long v2), (4, .ref (κ.1 111))] [] (LM κ τ (LC κ (x_added, x_asked, x_eR, x_et, x_oR, x_ot, x_bR, x_bD, x_bQ, x_bW, x_bS, x_bM, x_bT, x_bn, x_tg, x_tb, x_ts, x_fg, x_fb, x_fV, x_fS, x_fn, x_cg, x_cb, x_cB, x_cq, x_vHeld, x_vRed, x_vTal, x_vLis)))
  refine w_iload_n (pc := 0) (q := 1) G dB_descend_0 rfl rfl ?_
  refine w_if_gt (pc := 1) (tgt := 31) G dB_descend_1 (by decide) (fun c1 => ?_) (fun c1 => ?_)
  · have h := if_t c1 h
    refine w_iload_n (pc := 31) (q := 1) G dB_descend_31 rfl rfl ?_
    refine w_iconst (pc := 32) (v := (1 : Int32)) G dB_descend_32 (by decide) ?_
    refine w_isub (pc := 33) G dB_descend_33 ?_
    refine w_istore (pc := 34) (lv' := [(5, .int (v1 - (1 : Int32))), (0, .ref (κ.1 38)), (1, .int v1), (2, .long v2), (4, .ref (κ.1 111))]) G dB_descend_34 (by decide) rfl ?_
    refine w_aload_n (pc := 36) (q := 1) G dB_descend_36 rfl rfl ?_
    refine w_get (pc := 37) (v := .ref (κ.1 44)) (fs := fl_B κ (x_added, x_asked, x_eR, x_et, x_oR, x_ot, x_bR, x_bD, x_bQ, x_bW, x_bS, x_bM, x_bT, x_bn, x_tg, x_tb, x_ts, x_fg, x_fb, x_fV, x_fS, x_fn, x_cg, x_cb, x_cB, x_cq, x_vHeld, x_vRed, x_vTal, x_vLis)) G 38 (by decide) lb_B rfl wsB_ok 1 (by decide) wd45 gf_B_1 dB_descend_37 ?_
    refine w_iload (pc := 40) (q := 0) G dB_descend_40 rfl ?_
    obtain ⟨i42, h⟩ := gd_some h
    refine w_aald (pc := 42) (n := 4) (f := og κ 45 4) (b := κ.1 (45 + (v1 - (1 : Int32)).toNatClampNeg)) G 44 (by decide) lo_bD i42 (og_at (ixlt i42)) dB_descend_42 ?_
    refine w_aload_n (pc := 43) (q := 1) G dB_descend_43 rfl rfl ?_
    refine w_get (pc := 44) (v := .ref (κ.1 51)) (fs := fl_B κ (x_added, x_asked, x_eR, x_et, x_oR, x_ot, x_bR, x_bD, x_bQ, x_bW, x_bS, x_bM, x_bT, x_bn, x_tg, x_tb, x_ts, x_fg, x_fb, x_fV, x_fS, x_fn, x_cg, x_cb, x_cB, x_cq, x_vHeld, x_vRed, x_vTal, x_vLis)) G 38 (by decide) lb_B rfl wsB_ok 4 (by decide) wd48 gf_B_4 dB_descend_44 ?_
    refine w_iload_n (pc := 47) (q := 2) G dB_descend_47 rfl rfl ?_
    obtain ⟨i48, h⟩ := gd_some h
    refine w_aald (pc := 48) (n := 5) (f := og κ 52 5) (b := κ.1 (52 + v1.toNatClampNeg)) G 51 (by decide) lo_bS i48 (og_at (ixlt i48)) dB_descend_48 ?_
    obtain ⟨r49, e49, h⟩ := bd h
    refine w_callSN (pc := 49) (av := [.ref (κ.1 (45 + (v1 - (1 : Int32)).toNatClampNeg)), .ref (κ.1 (52 + v1.toNatClampNeg))]) (rest := []) (v := some (.long r49)) (L' := (LM κ τ (LC κ (x_added, x_asked, x_eR, x_et, x_oR, x_ot, x_bR, x_bD, x_bQ, x_bW, x_bS, x_bM, x_bT, x_bn, x_tg, x_tb, x_ts, x_fg, x_fb, x_fV, x_fS, x_fn, x_cg, x_cb, x_cB, x_cq, x_vHeld, x_vRed, x_vTal, x_vLis)))) G (cb_V_product_B_desc_C m9) wd262 wd261 (met_V_product κ (LM κ τ (LC κ (x_added, x_asked, x_eR, x_et, x_oR, x_ot, x_bR, x_bD, x_bQ, x_bW, x_bS, x_bM, x_bT, x_bn, x_tg, x_tb, x_ts, x_fg, x_fb, x_fV, x_fS, x_fn, x_cg, x_cb, x_cB, x_cq, x_vHeld, x_vRed, x_vTal, x_vLis))) F  (45 + (v1 - (1 : Int32)).toNatClampNeg) (nw_bD (ixlt i42)) (x_bD (v1 - (1 : Int32)).toNatClampNeg) (lk_bD (ixlt i42)) (52 + v1.toNatClampNeg) (nw_bS (ixlt i48)) (x_bS v1.toNatClampNeg) (lk_bS (ixlt i48)) e49) rfl rfl rfl (Nat.le_of_ble_eq_true rfl) dB_descend_49 ?_
    refine w_aload_n (pc := 52) (q := 1) G dB_descend_52 rfl rfl ?_
    refine w_get (pc := 53) (v := .ref (κ.1 50)) (fs := fl_B κ (x_added, x_asked, x_eR, x_et, x_oR, x_ot, x_bR, x_bD, x_bQ, x_bW, x_bS, x_bM, x_bT, x_bn, x_tg, x_tb, x_ts, x_fg, x_fb, x_fV, x_fS, x_fn, x_cg, x_cb, x_cB, x_cq, x_vHeld, x_vRed, x_vTal, x_vLis)) G 38 (by decide) lb_B rfl wsB_ok 3 (by decide) wd47 gf_B_3 dB_descend_53 ?_
    refine w_iload (pc := 56) (q := 0) G dB_descend_56 rfl ?_
    obtain ⟨i58, h⟩ := gd_some h
    refine w_lald (pc := 58) (n := 4) (f := x_bW) G 50 (by decide) lk_bW i58 dB_descend_58 ?_
    obtain ⟨r59, e59, h⟩ := bd h
    refine w_callSN (pc := 59) (av := [.long r49, .long (x_bW (v1 - (1 : Int32)).toNatClampNeg)]) (rest := []) (v := some (.long r59)) (L' := (LM κ τ (LC κ (x_added, x_asked, x_eR, x_et, x_oR, x_ot, x_bR, x_bD, x_bQ, x_bW, x_bS, x_bM, x_bT, x_bn, x_tg, x_tb, x_ts, x_fg, x_fb, x_fV, x_fS, x_fn, x_cg, x_cb, x_cB, x_cq, x_vHeld, x_vRed, x_vTal, x_vLis)))) G (cb_V_nearestQuotient_B_desc_C m9) wd269 wd268 (met_V_nearestQuotient κ (LM κ τ (LC κ (x_added, x_asked, x_eR, x_et, x_oR, x_ot, x_bR, x_bD, x_bQ, x_bW, x_bS, x_bM, x_bT, x_bn, x_tg, x_tb, x_ts, x_fg, x_fb, x_fV, x_fS, x_fn, x_cg, x_cb, x_cB, x_cq, x_vHeld, x_vRed, x_vTal, x_vLis))) F r49 (x_bW (v1 - (1 : Int32)).toNatClampNeg)  e59) rfl rfl rfl (Nat.le_of_ble_eq_true rfl) dB_descend_59 ?_
    refine w_lneg (pc := 62) G dB_descend_62 ?_
    refine w_lstore (pc := 63) (lv' := [(6, .long (-r59)), (5, .int (v1 - (1 : Int32))), (0, .ref (κ.1 38)), (1, .int v1), (2, .long v2), (4, .ref (κ.1 111))]) G dB_descend_63 (by decide) rfl ?_
    refine w_aload_n (pc := 65) (q := 2) G dB_descend_65 rfl rfl ?_
    refine w_iload (pc := 66) (q := 1) G dB_descend_66 rfl ?_
    refine w_lload (pc := 68) (q := 0) G dB_descend_68 rfl ?_
    refine w_iconst (pc := 70) (v := (1 : Int32)) G dB_descend_70 (by decide) ?_
    refine w_lload_n (pc := 71) (q := 4) G dB_descend_71 rfl rfl ?_
    refine w_aload (pc := 72) (q := 5) G dB_descend_72 rfl ?_
    obtain ⟨r74, e74, h⟩ := bd h
    refine w_callV (pc := 74) (av := [.int (v1 - (1 : Int32)), .long (-r59), .int (1 : Int32), .long v2, .ref (κ.1 111)]) (rest := []) (v := none) (L' := (LM κ τ (LC κ (x_added, x_asked, x_eR, x_et, x_oR, x_ot, x_bR, x_bD, x_bQ, x_bW, r74.1, x_bM, x_bT, x_bn, x_tg, x_tb, x_ts, x_fg, x_fb, x_fV, x_fS, x_fn, x_cg, r74.2.1, r74.2.2.1, r74.2.2.2, x_vHeld, x_vRed, x_vTal, x_vLis)))) (T := TB) (fs := fl_B κ (x_added, x_asked, x_eR, x_et, x_oR, x_ot, x_bR, x_bD, x_bQ, x_bW, x_bS, x_bM, x_bT, x_bn, x_tg, x_tb, x_ts, x_fg, x_fb, x_fV, x_fS, x_fn, x_cg, x_cb, x_cB, x_cq, x_vHeld, x_vRed, x_vTal, x_vLis)) G 38 3 8 (by decide) lb_B rfl (cbWD m9) wd427 ws18 wd425 (hW x_bS x_cb x_cB x_cq (-r59) (1 : Int32) v2 _ e74) rfl rfl rfl (Nat.le_of_ble_eq_true rfl) dB_descend_74 ?_
    refine w_aload_n (pc := 77) (q := 2) G dB_descend_77 rfl rfl ?_
    refine w_iload (pc := 78) (q := 1) G dB_descend_78 rfl ?_
    refine w_lload (pc := 80) (q := 0) G dB_descend_80 rfl ?_
    refine w_lconst (pc := 82) (v := (1 : Int64)) G dB_descend_82 (by decide) ?_
    refine w_lsub (pc := 83) G dB_descend_83 ?_
    refine w_iconst (pc := 84) (v := (-1 : Int32)) G dB_descend_84 (by decide) ?_
    refine w_lload_n (pc := 85) (q := 4) G dB_descend_85 rfl rfl ?_
    refine w_aload (pc := 86) (q := 5) G dB_descend_86 rfl ?_
    obtain ⟨r88, e88, h⟩ := bd h
    refine w_callV (pc := 88) (av := [.int (v1 - (1 : Int32)), .long ((-r59) - (1 : Int64)), .int (-1 : Int32), .long v2, .ref (κ.1 111)]) (rest := []) (v := none) (L' := (LM κ τ (LC κ (x_added, x_asked, x_eR, x_et, x_oR, x_ot, x_bR, x_bD, x_bQ, x_bW, r88.1, x_bM, x_bT, x_bn, x_tg, x_tb, x_ts, x_fg, x_fb, x_fV, x_fS, x_fn, x_cg, r88.2.1, r88.2.2.1, r88.2.2.2, x_vHeld, x_vRed, x_vTal, x_vLis)))) (T := TB) (fs := fl_B κ (x_added, x_asked, x_eR, x_et, x_oR, x_ot, x_bR, x_bD, x_bQ, x_bW, r74.1, x_bM, x_bT, x_bn, x_tg, x_tb, x_ts, x_fg, x_fb, x_fV, x_fS, x_fn, x_cg, r74.2.1, r74.2.2.1, r74.2.2.2, x_vHeld, x_vRed, x_vTal, x_vLis)) G 38 3 8 (by decide) lb_B rfl (cbWD m9) wd427 ws18 wd425 (hW r74.1 r74.2.1 r74.2.2.1 r74.2.2.2 ((-r59) - (1 : Int64)) (-1 : Int32) v2 _ e88) rfl rfl rfl (Nat.le_of_ble_eq_true rfl) dB_descend_88 ?_
    obtain rfl := Option.some.inj h
    exact w_vret (pc := 91) G dB_descend_91 Fh
  · have h := if_f c1 h
    refine w_aload (pc := 4) (q := 3) G dB_descend_4 rfl ?_
    refine w_aload_n (pc := 6) (q := 0) G dB_descend_6 rfl rfl ?_
    refine w_get (pc := 7) (v := .ref (κ.1 51)) (fs := fl_B κ (x_added, x_asked, x_eR, x_et, x_oR, x_ot, x_bR, x_bD, x_bQ, x_bW, x_bS, x_bM, x_bT, x_bn, x_tg, x_tb, x_ts, x_fg, x_fb, x_fV, x_fS, x_fn, x_cg, x_cb, x_cB, x_cq, x_vHeld, x_vRed, x_vTal, x_vLis)) G 38 (by decide) lb_B rfl wsB_ok 4 (by decide) wd48 gf_B_4 dB_descend_7 ?_
    refine w_iconst (pc := 10) (v := (0 : Int32)) G dB_descend_10 (by decide) ?_
    obtain ⟨i11, h⟩ := gd_some h
    refine w_aald (pc := 11) (n := 5) (f := og κ 52 5) (b := κ.1 (52 + (0 : Int32).toNatClampNeg)) G 51 (by decide) lo_bS i11 (og_at (ixlt i11)) dB_descend_11 ?_
    refine w_aload_n (pc := 12) (q := 0) G dB_descend_12 rfl rfl ?_
    refine w_get (pc := 13) (v := .ref (κ.1 51)) (fs := fl_B κ (x_added, x_asked, x_eR, x_et, x_oR, x_ot, x_bR, x_bD, x_bQ, x_bW, x_bS, x_bM, x_bT, x_bn, x_tg, x_tb, x_ts, x_fg, x_fb, x_fV, x_fS, x_fn, x_cg, x_cb, x_cB, x_cq, x_vHeld, x_vRed, x_vTal, x_vLis)) G 38 (by decide) lb_B rfl wsB_ok 4 (by decide) wd48 gf_B_4 dB_descend_13 ?_
    refine w_iconst (pc := 16) (v := (0 : Int32)) G dB_descend_16 (by decide) ?_
    obtain ⟨i17, h⟩ := gd_some h
    refine w_aald (pc := 17) (n := 5) (f := og κ 52 5) (b := κ.1 (52 + (0 : Int32).toNatClampNeg)) G 51 (by decide) lo_bS i17 (og_at (ixlt i17)) dB_descend_17 ?_
    refine w_aload_n (pc := 18) (q := 0) G dB_descend_18 rfl rfl ?_
    refine w_get (pc := 19) (v := .ref (κ.1 51)) (fs := fl_B κ (x_added, x_asked, x_eR, x_et, x_oR, x_ot, x_bR, x_bD, x_bQ, x_bW, x_bS, x_bM, x_bT, x_bn, x_tg, x_tb, x_ts, x_fg, x_fb, x_fV, x_fS, x_fn, x_cg, x_cb, x_cB, x_cq, x_vHeld, x_vRed, x_vTal, x_vLis)) G 38 (by decide) lb_B rfl wsB_ok 4 (by decide) wd48 gf_B_4 dB_descend_19 ?_
    refine w_iconst (pc := 22) (v := (0 : Int32)) G dB_descend_22 (by decide) ?_
    obtain ⟨i23, h⟩ := gd_some h
    refine w_aald (pc := 23) (n := 5) (f := og κ 52 5) (b := κ.1 (52 + (0 : Int32).toNatClampNeg)) G 51 (by decide) lo_bS i23 (og_at (ixlt i23)) dB_descend_23 ?_
    obtain ⟨r24, e24, h⟩ := bd h
    refine w_callSN (pc := 24) (av := [.ref (κ.1 (52 + (0 : Int32).toNatClampNeg)), .ref (κ.1 (52 + (0 : Int32).toNatClampNeg))]) (rest := [.ref (κ.1 (52 + (0 : Int32).toNatClampNeg)), .ref (κ.1 111)]) (v := some (.long r24)) (L' := (LM κ τ (LC κ (x_added, x_asked, x_eR, x_et, x_oR, x_ot, x_bR, x_bD, x_bQ, x_bW, x_bS, x_bM, x_bT, x_bn, x_tg, x_tb, x_ts, x_fg, x_fb, x_fV, x_fS, x_fn, x_cg, x_cb, x_cB, x_cq, x_vHeld, x_vRed, x_vTal, x_vLis)))) G (cb_V_product_B_desc_C m9) wd262 wd261 (met_V_product κ (LM κ τ (LC κ (x_added, x_asked, x_eR, x_et, x_oR, x_ot, x_bR, x_bD, x_bQ, x_bW, x_bS, x_bM, x_bT, x_bn, x_tg, x_tb, x_ts, x_fg, x_fb, x_fV, x_fS, x_fn, x_cg, x_cb, x_cB, x_cq, x_vHeld, x_vRed, x_vTal, x_vLis))) F  (52 + (0 : Int32).toNatClampNeg) (nw_bS (ixlt i17)) (x_bS (0 : Int32).toNatClampNeg) (lk_bS (ixlt i17)) (52 + (0 : Int32).toNatClampNeg) (nw_bS (ixlt i23)) (x_bS (0 : Int32).toNatClampNeg) (lk_bS (ixlt i23)) e24) rfl rfl rfl (Nat.le_of_ble_eq_true rfl) dB_descend_24 ?_
    obtain ⟨r27, e27, h⟩ := bd h
    refine w_callU (pc := 27) (av := [.ref (κ.1 (52 + (0 : Int32).toNatClampNeg)), .long r24]) (rest := []) (v := none) (L' := (LM κ τ (LC κ (x_added, x_asked, x_eR, x_et, x_oR, x_ot, x_bR, x_bD, x_bQ, x_bW, x_bS, x_bM, x_bT, x_bn, x_tg, x_tb, x_ts, x_fg, x_fb, x_fV, x_fS, x_fn, x_cg, r27.1, r27.2.1, r27.2.2, x_vHeld, x_vRed, x_vTal, x_vLis)))) (T := TC) (fs := fl_C κ (x_added, x_asked, x_eR, x_et, x_oR, x_ot, x_bR, x_bD, x_bQ, x_bW, x_bS, x_bM, x_bT, x_bn, x_tg, x_tb, x_ts, x_fg, x_fb, x_fV, x_fS, x_fn, x_cg, x_cb, x_cB, x_cq, x_vHeld, x_vRed, x_vTal, x_vLis)) G 111 6 4 (by decide) lb_C rfl (cb_C_meet_B_desc_C m9) wd381 wd383 wd384 wd385 wd382 (by decide) rfl (met_C_meet κ τ F r24  e27) rfl rfl rfl (Nat.le_of_ble_eq_true rfl) dB_descend_27 ?_
    obtain rfl := Option.some.inj h
    exact w_vret (pc := 30) G dB_descend_30 Fh
