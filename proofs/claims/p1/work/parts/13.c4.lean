def rm_V_ask : Room := { frames := 0, cells := 0, slots := 0, locals := 0 }
theorem dV_ask_0 : decode cV_ask 0 = .ok (.aload_n 0, 1) := by decide +kernel
theorem dV_ask_1 : decode cV_ask 1 = .ok (.getfield 14, 3) := by decide +kernel
theorem dV_ask_4 : decode cV_ask 4 = .ok (.iconst 0, 1) := by decide +kernel
theorem dV_ask_5 : decode cV_ask 5 = .ok (.iload_n 1, 1) := by decide +kernel
theorem dV_ask_6 : decode cV_ask 6 = .ok (.i2l, 1) := by decide +kernel
theorem dV_ask_7 : decode cV_ask 7 = .ok (.lastore, 1) := by decide +kernel
theorem dV_ask_8 : decode cV_ask 8 = .ok (.aload_n 0, 1) := by decide +kernel
theorem dV_ask_9 : decode cV_ask 9 = .ok (.getfield 14, 3) := by decide +kernel
theorem dV_ask_12 : decode cV_ask 12 = .ok (.iconst 1, 1) := by decide +kernel
theorem dV_ask_13 : decode cV_ask 13 = .ok (.iload_n 2, 1) := by decide +kernel
theorem dV_ask_14 : decode cV_ask 14 = .ok (.i2l, 1) := by decide +kernel
theorem dV_ask_15 : decode cV_ask 15 = .ok (.lastore, 1) := by decide +kernel
theorem dV_ask_16 : decode cV_ask 16 = .ok (.aload_n 0, 1) := by decide +kernel
theorem dV_ask_17 : decode cV_ask 17 = .ok (.getfield 14, 3) := by decide +kernel
theorem dV_ask_20 : decode cV_ask 20 = .ok (.iconst 2, 1) := by decide +kernel
theorem dV_ask_21 : decode cV_ask 21 = .ok (.iload_n 3, 1) := by decide +kernel
theorem dV_ask_22 : decode cV_ask 22 = .ok (.i2l, 1) := by decide +kernel
theorem dV_ask_23 : decode cV_ask 23 = .ok (.lastore, 1) := by decide +kernel
theorem dV_ask_24 : decode cV_ask 24 = .ok (.aload_n 0, 1) := by decide +kernel
theorem dV_ask_25 : decode cV_ask 25 = .ok (.getfield 14, 3) := by decide +kernel
theorem dV_ask_28 : decode cV_ask 28 = .ok (.iconst 3, 1) := by decide +kernel
theorem dV_ask_29 : decode cV_ask 29 = .ok (.iload 4, 2) := by decide +kernel
theorem dV_ask_31 : decode cV_ask 31 = .ok (.i2l, 1) := by decide +kernel
theorem dV_ask_32 : decode cV_ask 32 = .ok (.lastore, 1) := by decide +kernel
theorem dV_ask_33 : decode cV_ask 33 = .ok (.iconst 0, 1) := by decide +kernel
theorem dV_ask_34 : decode cV_ask 34 = .ok (.istore 6, 2) := by decide +kernel
theorem dV_ask_36 : decode cV_ask 36 = .ok (.iload 6, 2) := by decide +kernel
theorem dV_ask_38 : decode cV_ask 38 = .ok (.iconst 4, 1) := by decide +kernel
theorem dV_ask_39 : decode cV_ask 39 = .ok (.if_icmp .ge 40, 3) := by decide +kernel
theorem dV_ask_42 : decode cV_ask 42 = .ok (.aload_n 0, 1) := by decide +kernel
theorem dV_ask_43 : decode cV_ask 43 = .ok (.getfield 14, 3) := by decide +kernel
theorem dV_ask_46 : decode cV_ask 46 = .ok (.iload 6, 2) := by decide +kernel
theorem dV_ask_48 : decode cV_ask 48 = .ok (.laload, 1) := by decide +kernel
theorem dV_ask_49 : decode cV_ask 49 = .ok (.iload 5, 2) := by decide +kernel
theorem dV_ask_51 : decode cV_ask 51 = .ok (.ineg, 1) := by decide +kernel
theorem dV_ask_52 : decode cV_ask 52 = .ok (.i2l, 1) := by decide +kernel
theorem dV_ask_53 : decode cV_ask 53 = .ok (.lcmp, 1) := by decide +kernel
theorem dV_ask_54 : decode cV_ask 54 = .ok (.ifCond .lt 17, 3) := by decide +kernel
theorem dV_ask_57 : decode cV_ask 57 = .ok (.aload_n 0, 1) := by decide +kernel
theorem dV_ask_58 : decode cV_ask 58 = .ok (.getfield 14, 3) := by decide +kernel
theorem dV_ask_61 : decode cV_ask 61 = .ok (.iload 6, 2) := by decide +kernel
theorem dV_ask_63 : decode cV_ask 63 = .ok (.laload, 1) := by decide +kernel
theorem dV_ask_64 : decode cV_ask 64 = .ok (.iload 5, 2) := by decide +kernel
theorem dV_ask_66 : decode cV_ask 66 = .ok (.i2l, 1) := by decide +kernel
theorem dV_ask_67 : decode cV_ask 67 = .ok (.lcmp, 1) := by decide +kernel
theorem dV_ask_68 : decode cV_ask 68 = .ok (.ifCond .le 5, 3) := by decide +kernel
theorem dV_ask_71 : decode cV_ask 71 = .ok (.iconst 0, 1) := by decide +kernel
theorem dV_ask_72 : decode cV_ask 72 = .ok (.ireturn, 1) := by decide +kernel
theorem dV_ask_73 : decode cV_ask 73 = .ok (.iinc 6 1, 3) := by decide +kernel
theorem dV_ask_76 : decode cV_ask 76 = .ok (.goto (-40), 3) := by decide +kernel
theorem dV_ask_79 : decode cV_ask 79 = .ok (.iconst 1, 1) := by decide +kernel
theorem dV_ask_80 : decode cV_ask 80 = .ok (.ireturn, 1) := by decide +kernel
noncomputable def lV_ask_36 (F : Nat) (x_asked : Nat → Int64) (v5 : Int32) : Nat → Int32 → Option ((Unit) ⊕ (Int32 × (Nat → Int64)))
  | 0, _ => none
  | n + 1, v6 => if (4 : Int32) ≤ v6 then some (.inl ()) else gd (vp_in v6 4) (if (x_asked v6.toNatClampNeg) < (-v5).toInt64 then some (.inr ((0 : Int32), x_asked)) else gd (vp_in v6 4) (if (x_asked v6.toNatClampNeg) ≤ v5.toInt64 then lV_ask_36 F  x_asked v5 n (v6 + 1) else some (.inr ((0 : Int32), x_asked))))
set_option maxHeartbeats 8000000 in
set_option maxRecDepth 100000 in
theorem lV_ask_36_ok {g : Gm} {κ : ctx} (G : OK g κ RV cV_ask 7 (some .boolean) rm_V_ask) (τ : MS) (F : Nat) {x_added : Nat → Nat → Int64} {x_asked : Nat → Int64} {x_eR : Nat → Nat → Int64} {x_et : Nat → Int64} {x_oR : Nat → Nat → Int64} {x_ot : Nat → Int64} {x_bR : Nat → Nat → Int64} {x_bD : Nat → Nat → Int64} {x_bQ : Nat → Int64} {x_bW : Nat → Int64} {x_bS : Nat → Nat → Int64} {x_bM : Nat → Nat → Int64} {x_bT : Nat → Int64} {x_bn : Int32} {x_tg : Nat → Int64} {x_tb : Int64} {x_ts : Nat → Int32} {x_fg : Nat → Int64} {x_fb : Int64} {x_fV : Nat → Nat → Int64} {x_fS : Nat → Int64} {x_fn : Int32} {x_cg : Nat → Int64} {x_cb : Int64} {x_cB : Nat → Int64} {x_cq : Int64} {x_vHeld : Int32} {x_vRed : Int32} {x_vTal : Int32} {x_vLis : Int32} (v5 : Int32) : ∀ (n : Nat) (v6 : Int32) (out : (Unit) ⊕ (Int32 × (Nat → Int64))), lV_ask_36 F  x_asked v5 n v6 = some out → (∀ e, out = .inl e → (J g κ 7 79 [] [] (LM κ τ (LC κ (x_added, x_asked, x_eR, x_et, x_oR, x_ot, x_bR, x_bD, x_bQ, x_bW, x_bS, x_bM, x_bT, x_bn, x_tg, x_tb, x_ts, x_fg, x_fb, x_fV, x_fS, x_fn, x_cg, x_cb, x_cB, x_cq, x_vHeld, x_vRed, x_vTal, x_vLis))))) → (∀ r, out = .inr r → Fn g κ (some (.int r.1)) (LM κ τ (LC κ (x_added, r.2, x_eR, x_et, x_oR, x_ot, x_bR, x_bD, x_bQ, x_bW, x_bS, x_bM, x_bT, x_bn, x_tg, x_tb, x_ts, x_fg, x_fb, x_fV, x_fS, x_fn, x_cg, x_cb, x_cB, x_cq, x_vHeld, x_vRed, x_vTal, x_vLis)))) → J g κ 7 36 [(0, .ref (κ.1 15)), (5, .int v5), (6, .int v6)] [] (LM κ τ (LC κ (x_added, x_asked, x_eR, x_et, x_oR, x_ot, x_bR, x_bD, x_bQ, x_bW, x_bS, x_bM, x_bT, x_bn, x_tg, x_tb, x_ts, x_fg, x_fb, x_fV, x_fS, x_fn, x_cg, x_cb, x_cB, x_cq, x_vHeld, x_vRed, x_vTal, x_vLis))) := by
  intro n
  induction n with
  | zero =>
    intro v6
    intro out h
    rw [lV_ask_36] at h
    cases h
  | succ n ih =>
    intro v6 out h K K2
    rw [lV_ask_36] at h
    refine w_iload (pc := 36) (q := 2) G dV_ask_36 rfl ?_
    refine w_iconst (pc := 38) (v := (4 : Int32)) G dV_ask_38 (by decide) ?_
    refine w_icmp_ge (pc := 39) (tgt := 79) G dV_ask_39 (by decide) (fun c39 => ?_) (fun c39 => ?_)
    · have h := if_t c39 h
      obtain rfl := Option.some.inj h
      refine w_sub (lv' := []) [] rfl ?_
      have K9 := K _ rfl
      exact K9
    · have h := if_f c39 h
      refine w_aload_n (pc := 42) (q := 0) G dV_ask_42 rfl rfl ?_
      refine w_get (pc := 43) (v := .ref (κ.1 23)) (fs := fl_V κ (x_added, x_asked, x_eR, x_et, x_oR, x_ot, x_bR, x_bD, x_bQ, x_bW, x_bS, x_bM, x_bT, x_bn, x_tg, x_tb, x_ts, x_fg, x_fb, x_fV, x_fS, x_fn, x_cg, x_cb, x_cB, x_cq, x_vHeld, x_vRed, x_vTal, x_vLis)) G 15 (by decide) lb_V rfl wsV_ok 1 (by decide) wd124 gf_V_1 dV_ask_43 ?_
      refine w_iload (pc := 46) (q := 2) G dV_ask_46 rfl ?_
      obtain ⟨i48, h⟩ := gd_some h
      refine w_lald (pc := 48) (n := 4) (f := x_asked) G 23 (by decide) lk_asked i48 dV_ask_48 ?_
      refine w_iload (pc := 49) (q := 1) G dV_ask_49 rfl ?_
      refine w_ineg (pc := 51) G dV_ask_51 ?_
      refine w_i2l (pc := 52) G dV_ask_52 ?_
      refine w_lc_lt (pc := 53) (tgt := 71) G dV_ask_53 dV_ask_54 (by decide) (fun c53 => ?_) (fun c53 => ?_)
      · have h := if_t c53 h
        refine w_iconst (pc := 71) (v := (0 : Int32)) G dV_ask_71 (by decide) ?_
        obtain rfl := Option.some.inj h
        have K9 := K2 _ rfl
        exact w_zret (pc := 72) G rfl dV_ask_72 K9
      · have h := if_f c53 h
        refine w_aload_n (pc := 57) (q := 0) G dV_ask_57 rfl rfl ?_
        refine w_get (pc := 58) (v := .ref (κ.1 23)) (fs := fl_V κ (x_added, x_asked, x_eR, x_et, x_oR, x_ot, x_bR, x_bD, x_bQ, x_bW, x_bS, x_bM, x_bT, x_bn, x_tg, x_tb, x_ts, x_fg, x_fb, x_fV, x_fS, x_fn, x_cg, x_cb, x_cB, x_cq, x_vHeld, x_vRed, x_vTal, x_vLis)) G 15 (by decide) lb_V rfl wsV_ok 1 (by decide) wd124 gf_V_1 dV_ask_58 ?_
        refine w_iload (pc := 61) (q := 2) G dV_ask_61 rfl ?_
        obtain ⟨i63, h⟩ := gd_some h
        refine w_lald (pc := 63) (n := 4) (f := x_asked) G 23 (by decide) lk_asked i63 dV_ask_63 ?_
        refine w_iload (pc := 64) (q := 1) G dV_ask_64 rfl ?_
        refine w_i2l (pc := 66) G dV_ask_66 ?_
        refine w_lc_le (pc := 67) (tgt := 73) G dV_ask_67 dV_ask_68 (by decide) (fun c67 => ?_) (fun c67 => ?_)
        · have h := if_t c67 h
          refine w_iinc (pc := 73) (q0 := 2) (v := (v6 + 1)) (lv' := [(6, .int (v6 + 1)), (0, .ref (κ.1 15)), (5, .int v5)]) G dV_ask_73 rfl rfl (by decide) rfl ?_
          refine w_goto (pc := 76) (tgt := 36) G dV_ask_76 (by decide) ?_
          refine w_sub (lv' := [(0, .ref (κ.1 15)), (5, .int v5), (6, .int (v6 + 1))]) [1, 2, 0] rfl ?_
          exact ih (v6 + 1) out h K K2
        · have h := if_f c67 h
          refine w_iconst (pc := 71) (v := (0 : Int32)) G dV_ask_71 (by decide) ?_
          obtain rfl := Option.some.inj h
          have K9 := K2 _ rfl
          exact w_zret (pc := 72) G rfl dV_ask_72 K9
noncomputable def V_ask (F : Nat)  (x_asked : Nat → Int64) (v1 : Int32) (v2 : Int32) (v3 : Int32) (v4 : Int32) (v5 : Int32) : Option (Int32 × (Nat → Int64)) := gd (vp_in (0 : Int32) 4) (gd (vp_in (1 : Int32) 4) (gd (vp_in (2 : Int32) 4) (gd (vp_in (3 : Int32) 4) ((lV_ask_36 F  (vp_updL (vp_updL (vp_updL (vp_updL x_asked (0 : Int32).toNatClampNeg v1.toInt64) (1 : Int32).toNatClampNeg v2.toInt64) (2 : Int32).toNatClampNeg v3.toInt64) (3 : Int32).toNatClampNeg v4.toInt64) v5 F (0 : Int32)).bind (fun o36_15 => match o36_15 with | .inl o36_15 => some ((1 : Int32), vp_updL (vp_updL (vp_updL (vp_updL x_asked (0 : Int32).toNatClampNeg v1.toInt64) (1 : Int32).toNatClampNeg v2.toInt64) (2 : Int32).toNatClampNeg v3.toInt64) (3 : Int32).toNatClampNeg v4.toInt64) | .inr o36_15 => some o36_15)))))
set_option maxHeartbeats 8000000 in
set_option maxRecDepth 100000 in
theorem met_V_ask (κ : ctx) (τ : MS) (F : Nat) {x_added : Nat → Nat → Int64} {x_asked : Nat → Int64} {x_eR : Nat → Nat → Int64} {x_et : Nat → Int64} {x_oR : Nat → Nat → Int64} {x_ot : Nat → Int64} {x_bR : Nat → Nat → Int64} {x_bD : Nat → Nat → Int64} {x_bQ : Nat → Int64} {x_bW : Nat → Int64} {x_bS : Nat → Nat → Int64} {x_bM : Nat → Nat → Int64} {x_bT : Nat → Int64} {x_bn : Int32} {x_tg : Nat → Int64} {x_tb : Int64} {x_ts : Nat → Int32} {x_fg : Nat → Int64} {x_fb : Int64} {x_fV : Nat → Nat → Int64} {x_fS : Nat → Int64} {x_fn : Int32} {x_cg : Nat → Int64} {x_cb : Int64} {x_cB : Nat → Int64} {x_cq : Int64} {x_vHeld : Int32} {x_vRed : Int32} {x_vTal : Int32} {x_vLis : Int32} (v1 : Int32) (v2 : Int32) (v3 : Int32) (v4 : Int32) (v5 : Int32) {out : Int32 × (Nat → Int64)} (h : V_ask F  x_asked v1 v2 v3 v4 v5 = some out) : Mt yV_ask cV_ask 7 (some .boolean) rm_V_ask κ [.ref (κ.1 15), .int v1, .int v2, .int v3, .int v4, .int v5] (LM κ τ (LC κ (x_added, x_asked, x_eR, x_et, x_oR, x_ot, x_bR, x_bD, x_bQ, x_bW, x_bS, x_bM, x_bT, x_bn, x_tg, x_tb, x_ts, x_fg, x_fb, x_fV, x_fS, x_fn, x_cg, x_cb, x_cB, x_cq, x_vHeld, x_vRed, x_vTal, x_vLis))) (some (.int out.1)) (LM κ τ (LC κ (x_added, out.2, x_eR, x_et, x_oR, x_ot, x_bR, x_bD, x_bQ, x_bW, x_bS, x_bM, x_bT, x_bn, x_tg, x_tb, x_ts, x_fg, x_fb, x_fV, x_fS, x_fn, x_cg, x_cb, x_cB, x_cq, x_vHeld, x_vRed, x_vTal, x_vLis))) := by
  refine Mt.of (by decide) (Nat.le_of_ble_eq_true rfl) ?_
  intro g G Fh
  unfold V_ask at h
  show J g κ 7 0 [(0, .ref (κ.1 15)), (1, .int v1), (2, .int v2), (3, .int v3), (4, .int v4), (5, .int v5)] [] (LM κ τ (LC κ (x_added, x_asked, x_eR, x_et, x_oR, x_ot, x_bR, x_bD, x_bQ, x_bW, x_bS, x_bM, x_bT, x_bn, x_tg, x_tb, x_ts, x_fg, x_fb, x_fV, x_fS, x_fn, x_cg, x_cb, x_cB, x_cq, x_vHeld, x_vRed, x_vTal, x_vLis)))
  refine w_aload_n (pc := 0) (q := 0) G dV_ask_0 rfl rfl ?_
  refine w_get (pc := 1) (v := .ref (κ.1 23)) (fs := fl_V κ (x_added, x_asked, x_eR, x_et, x_oR, x_ot, x_bR, x_bD, x_bQ, x_bW, x_bS, x_bM, x_bT, x_bn, x_tg, x_tb, x_ts, x_fg, x_fb, x_fV, x_fS, x_fn, x_cg, x_cb, x_cB, x_cq, x_vHeld, x_vRed, x_vTal, x_vLis)) G 15 (by decide) lb_V rfl wsV_ok 1 (by decide) wd124 gf_V_1 dV_ask_1 ?_
  refine w_iconst (pc := 4) (v := (0 : Int32)) G dV_ask_4 (by decide) ?_
  refine w_iload_n (pc := 5) (q := 1) G dV_ask_5 rfl rfl ?_
  refine w_i2l (pc := 6) G dV_ask_6 ?_
  obtain ⟨i7, h⟩ := gd_some h
  refine w_last (pc := 7) (n := 4) (f := x_asked) (L1 := (LM κ τ (LC κ (x_added, vp_updL x_asked (0 : Int32).toNatClampNeg v1.toInt64, x_eR, x_et, x_oR, x_ot, x_bR, x_bD, x_bQ, x_bW, x_bS, x_bM, x_bT, x_bn, x_tg, x_tb, x_ts, x_fg, x_fb, x_fV, x_fS, x_fn, x_cg, x_cb, x_cB, x_cq, x_vHeld, x_vRed, x_vTal, x_vLis)))) G 23 (by decide) lk_asked i7 dV_ask_7 up_asked ?_
  refine w_aload_n (pc := 8) (q := 0) G dV_ask_8 rfl rfl ?_
  refine w_get (pc := 9) (v := .ref (κ.1 23)) (fs := fl_V κ (x_added, vp_updL x_asked (0 : Int32).toNatClampNeg v1.toInt64, x_eR, x_et, x_oR, x_ot, x_bR, x_bD, x_bQ, x_bW, x_bS, x_bM, x_bT, x_bn, x_tg, x_tb, x_ts, x_fg, x_fb, x_fV, x_fS, x_fn, x_cg, x_cb, x_cB, x_cq, x_vHeld, x_vRed, x_vTal, x_vLis)) G 15 (by decide) lb_V rfl wsV_ok 1 (by decide) wd124 gf_V_1 dV_ask_9 ?_
  refine w_iconst (pc := 12) (v := (1 : Int32)) G dV_ask_12 (by decide) ?_
  refine w_iload_n (pc := 13) (q := 2) G dV_ask_13 rfl rfl ?_
  refine w_i2l (pc := 14) G dV_ask_14 ?_
  obtain ⟨i15, h⟩ := gd_some h
  refine w_last (pc := 15) (n := 4) (f := vp_updL x_asked (0 : Int32).toNatClampNeg v1.toInt64) (L1 := (LM κ τ (LC κ (x_added, vp_updL (vp_updL x_asked (0 : Int32).toNatClampNeg v1.toInt64) (1 : Int32).toNatClampNeg v2.toInt64, x_eR, x_et, x_oR, x_ot, x_bR, x_bD, x_bQ, x_bW, x_bS, x_bM, x_bT, x_bn, x_tg, x_tb, x_ts, x_fg, x_fb, x_fV, x_fS, x_fn, x_cg, x_cb, x_cB, x_cq, x_vHeld, x_vRed, x_vTal, x_vLis)))) G 23 (by decide) lk_asked i15 dV_ask_15 up_asked ?_
  refine w_aload_n (pc := 16) (q := 0) G dV_ask_16 rfl rfl ?_
  refine w_get (pc := 17) (v := .ref (κ.1 23)) (fs := fl_V κ (x_added, vp_updL (vp_updL x_asked (0 : Int32).toNatClampNeg v1.toInt64) (1 : Int32).toNatClampNeg v2.toInt64, x_eR, x_et, x_oR, x_ot, x_bR, x_bD, x_bQ, x_bW, x_bS, x_bM, x_bT, x_bn, x_tg, x_tb, x_ts, x_fg, x_fb, x_fV, x_fS, x_fn, x_cg, x_cb, x_cB, x_cq, x_vHeld, x_vRed, x_vTal, x_vLis)) G 15 (by decide) lb_V rfl wsV_ok 1 (by decide) wd124 gf_V_1 dV_ask_17 ?_
  refine w_iconst (pc := 20) (v := (2 : Int32)) G dV_ask_20 (by decide) ?_
  refine w_iload_n (pc := 21) (q := 3) G dV_ask_21 rfl rfl ?_
  refine w_i2l (pc := 22) G dV_ask_22 ?_
  obtain ⟨i23, h⟩ := gd_some h
  refine w_last (pc := 23) (n := 4) (f := vp_updL (vp_updL x_asked (0 : Int32).toNatClampNeg v1.toInt64) (1 : Int32).toNatClampNeg v2.toInt64) (L1 := (LM κ τ (LC κ (x_added, vp_updL (vp_updL (vp_updL x_asked (0 : Int32).toNatClampNeg v1.toInt64) (1 : Int32).toNatClampNeg v2.toInt64) (2 : Int32).toNatClampNeg v3.toInt64, x_eR, x_et, x_oR, x_ot, x_bR, x_bD, x_bQ, x_bW, x_bS, x_bM, x_bT, x_bn, x_tg, x_tb, x_ts, x_fg, x_fb, x_fV, x_fS, x_fn, x_cg, x_cb, x_cB, x_cq, x_vHeld, x_vRed, x_vTal, x_vLis)))) G 23 (by decide) lk_asked i23 dV_ask_23 up_asked ?_
  refine w_aload_n (pc := 24) (q := 0) G dV_ask_24 rfl rfl ?_
  refine w_get (pc := 25) (v := .ref (κ.1 23)) (fs := fl_V κ (x_added, vp_updL (vp_updL (vp_updL x_asked (0 : Int32).toNatClampNeg v1.toInt64) (1 : Int32).toNatClampNeg v2.toInt64) (2 : Int32).toNatClampNeg v3.toInt64, x_eR, x_et, x_oR, x_ot, x_bR, x_bD, x_bQ, x_bW, x_bS, x_bM, x_bT, x_bn, x_tg, x_tb, x_ts, x_fg, x_fb, x_fV, x_fS, x_fn, x_cg, x_cb, x_cB, x_cq, x_vHeld, x_vRed, x_vTal, x_vLis)) G 15 (by decide) lb_V rfl wsV_ok 1 (by decide) wd124 gf_V_1 dV_ask_25 ?_
  refine w_iconst (pc := 28) (v := (3 : Int32)) G dV_ask_28 (by decide) ?_
  refine w_iload (pc := 29) (q := 4) G dV_ask_29 rfl ?_
  refine w_i2l (pc := 31) G dV_ask_31 ?_
  obtain ⟨i32, h⟩ := gd_some h
  refine w_last (pc := 32) (n := 4) (f := vp_updL (vp_updL (vp_updL x_asked (0 : Int32).toNatClampNeg v1.toInt64) (1 : Int32).toNatClampNeg v2.toInt64) (2 : Int32).toNatClampNeg v3.toInt64) (L1 := (LM κ τ (LC κ (x_added, vp_updL (vp_updL (vp_updL (vp_updL x_asked (0 : Int32).toNatClampNeg v1.toInt64) (1 : Int32).toNatClampNeg v2.toInt64) (2 : Int32).toNatClampNeg v3.toInt64) (3 : Int32).toNatClampNeg v4.toInt64, x_eR, x_et, x_oR, x_ot, x_bR, x_bD, x_bQ, x_bW, x_bS, x_bM, x_bT, x_bn, x_tg, x_tb, x_ts, x_fg, x_fb, x_fV, x_fS, x_fn, x_cg, x_cb, x_cB, x_cq, x_vHeld, x_vRed, x_vTal, x_vLis)))) G 23 (by decide) lk_asked i32 dV_ask_32 up_asked ?_
  refine w_iconst (pc := 33) (v := (0 : Int32)) G dV_ask_33 (by decide) ?_
  refine w_istore (pc := 34) (lv' := [(6, .int (0 : Int32)), (0, .ref (κ.1 15)), (1, .int v1), (2, .int v2), (3, .int v3), (4, .int v4), (5, .int v5)]) G dV_ask_34 (by decide) rfl ?_
  refine w_sub (lv' := [(0, .ref (κ.1 15)), (5, .int v5), (6, .int (0 : Int32))]) [1, 6, 0] rfl ?_
  obtain ⟨o36_15, eo36_15, h⟩ := bd h
  rcases o36_15 with o36_15 | o36_15
  · refine lV_ask_36_ok G τ F  v5 F (0 : Int32) (.inl o36_15) eo36_15 (fun e he => ?_) (fun r he => by cases he)
    cases he
    dsimp only at h
    refine w_iconst (pc := 79) (v := (1 : Int32)) G dV_ask_79 (by decide) ?_
    obtain rfl := Option.some.inj h
    exact w_zret (pc := 80) G rfl dV_ask_80 Fh
  · refine lV_ask_36_ok G τ F  v5 F (0 : Int32) (.inr o36_15) eo36_15 (fun e he => by cases he) (fun r he => ?_)
    cases he
    dsimp only at h
    obtain rfl := Option.some.inj h
    exact Fh
def rm_V_forget : Room := { frames := 0, cells := 0, slots := 0, locals := 0 }
theorem dV_forget_0 : decode cV_forget 0 = .ok (.aload_n 0, 1) := by decide +kernel
theorem dV_forget_1 : decode cV_forget 1 = .ok (.iconst 0, 1) := by decide +kernel
theorem dV_forget_2 : decode cV_forget 2 = .ok (.putfield 141, 3) := by decide +kernel
theorem dV_forget_5 : decode cV_forget 5 = .ok (.aload_n 0, 1) := by decide +kernel
theorem dV_forget_6 : decode cV_forget 6 = .ok (.iconst 0, 1) := by decide +kernel
theorem dV_forget_7 : decode cV_forget 7 = .ok (.putfield 105, 3) := by decide +kernel
theorem dV_forget_10 : decode cV_forget 10 = .ok (.aload_n 0, 1) := by decide +kernel
theorem dV_forget_11 : decode cV_forget 11 = .ok (.iconst 0, 1) := by decide +kernel
theorem dV_forget_12 : decode cV_forget 12 = .ok (.putfield 121, 3) := by decide +kernel
theorem dV_forget_15 : decode cV_forget 15 = .ok (.return_, 1) := by decide +kernel
noncomputable def V_forget (F : Nat)  (x_vRed : Int32) (x_vTal : Int32) (x_vLis : Int32)  : Option (Int32 × Int32 × Int32) := some ((0 : Int32), (0 : Int32), (0 : Int32))
set_option maxHeartbeats 8000000 in
set_option maxRecDepth 100000 in
theorem met_V_forget (κ : ctx) (τ : MS) (F : Nat) {x_added : Nat → Nat → Int64} {x_asked : Nat → Int64} {x_eR : Nat → Nat → Int64} {x_et : Nat → Int64} {x_oR : Nat → Nat → Int64} {x_ot : Nat → Int64} {x_bR : Nat → Nat → Int64} {x_bD : Nat → Nat → Int64} {x_bQ : Nat → Int64} {x_bW : Nat → Int64} {x_bS : Nat → Nat → Int64} {x_bM : Nat → Nat → Int64} {x_bT : Nat → Int64} {x_bn : Int32} {x_tg : Nat → Int64} {x_tb : Int64} {x_ts : Nat → Int32} {x_fg : Nat → Int64} {x_fb : Int64} {x_fV : Nat → Nat → Int64} {x_fS : Nat → Int64} {x_fn : Int32} {x_cg : Nat → Int64} {x_cb : Int64} {x_cB : Nat → Int64} {x_cq : Int64} {x_vHeld : Int32} {x_vRed : Int32} {x_vTal : Int32} {x_vLis : Int32}  {out : Int32 × Int32 × Int32} (h : V_forget F  x_vRed x_vTal x_vLis  = some out) : Mt yV_forget cV_forget 1 none rm_V_forget κ [.ref (κ.1 15)] (LM κ τ (LC κ (x_added, x_asked, x_eR, x_et, x_oR, x_ot, x_bR, x_bD, x_bQ, x_bW, x_bS, x_bM, x_bT, x_bn, x_tg, x_tb, x_ts, x_fg, x_fb, x_fV, x_fS, x_fn, x_cg, x_cb, x_cB, x_cq, x_vHeld, x_vRed, x_vTal, x_vLis))) none (LM κ τ (LC κ (x_added, x_asked, x_eR, x_et, x_oR, x_ot, x_bR, x_bD, x_bQ, x_bW, x_bS, x_bM, x_bT, x_bn, x_tg, x_tb, x_ts, x_fg, x_fb, x_fV, x_fS, x_fn, x_cg, x_cb, x_cB, x_cq, x_vHeld, out.1, out.2.1, out.2.2))) := by
  refine Mt.of (by decide) (Nat.le_of_ble_eq_true rfl) ?_
  intro g G Fh
  unfold V_forget at h
  show J g κ 1 0 [(0, .ref (κ.1 15))] [] (LM κ τ (LC κ (x_added, x_asked, x_eR, x_et, x_oR, x_ot, x_bR, x_bD, x_bQ, x_bW, x_bS, x_bM, x_bT, x_bn, x_tg, x_tb, x_ts, x_fg, x_fb, x_fV, x_fS, x_fn, x_cg, x_cb, x_cB, x_cq, x_vHeld, x_vRed, x_vTal, x_vLis)))
  refine w_aload_n (pc := 0) (q := 0) G dV_forget_0 rfl rfl ?_
  refine w_iconst (pc := 1) (v := (0 : Int32)) G dV_forget_1 (by decide) ?_
  refine w_put (pc := 2) (fs := fl_V κ (x_added, x_asked, x_eR, x_et, x_oR, x_ot, x_bR, x_bD, x_bQ, x_bW, x_bS, x_bM, x_bT, x_bn, x_tg, x_tb, x_ts, x_fg, x_fb, x_fV, x_fS, x_fn, x_cg, x_cb, x_cB, x_cq, x_vHeld, x_vRed, x_vTal, x_vLis)) (L1 := (LM κ τ (LC κ (x_added, x_asked, x_eR, x_et, x_oR, x_ot, x_bR, x_bD, x_bQ, x_bW, x_bS, x_bM, x_bT, x_bn, x_tg, x_tb, x_ts, x_fg, x_fb, x_fV, x_fS, x_fn, x_cg, x_cb, x_cB, x_cq, x_vHeld, (0 : Int32), x_vTal, x_vLis)))) G 15 (by decide) lb_V rfl wsV_ok tyV tyV_ok nmV 9 (by decide) wd132 rfl rfl rfl (Nat.le_of_ble_eq_true rfl) dV_forget_2 upf_vRed ?_
  refine w_aload_n (pc := 5) (q := 0) G dV_forget_5 rfl rfl ?_
  refine w_iconst (pc := 6) (v := (0 : Int32)) G dV_forget_6 (by decide) ?_
  refine w_put (pc := 7) (fs := fl_V κ (x_added, x_asked, x_eR, x_et, x_oR, x_ot, x_bR, x_bD, x_bQ, x_bW, x_bS, x_bM, x_bT, x_bn, x_tg, x_tb, x_ts, x_fg, x_fb, x_fV, x_fS, x_fn, x_cg, x_cb, x_cB, x_cq, x_vHeld, (0 : Int32), x_vTal, x_vLis)) (L1 := (LM κ τ (LC κ (x_added, x_asked, x_eR, x_et, x_oR, x_ot, x_bR, x_bD, x_bQ, x_bW, x_bS, x_bM, x_bT, x_bn, x_tg, x_tb, x_ts, x_fg, x_fb, x_fV, x_fS, x_fn, x_cg, x_cb, x_cB, x_cq, x_vHeld, (0 : Int32), (0 : Int32), x_vLis)))) G 15 (by decide) lb_V rfl wsV_ok tyV tyV_ok nmV 10 (by decide) wd133 rfl rfl rfl (Nat.le_of_ble_eq_true rfl) dV_forget_7 upf_vTal ?_
  refine w_aload_n (pc := 10) (q := 0) G dV_forget_10 rfl rfl ?_
  refine w_iconst (pc := 11) (v := (0 : Int32)) G dV_forget_11 (by decide) ?_
  refine w_put (pc := 12) (fs := fl_V κ (x_added, x_asked, x_eR, x_et, x_oR, x_ot, x_bR, x_bD, x_bQ, x_bW, x_bS, x_bM, x_bT, x_bn, x_tg, x_tb, x_ts, x_fg, x_fb, x_fV, x_fS, x_fn, x_cg, x_cb, x_cB, x_cq, x_vHeld, (0 : Int32), (0 : Int32), x_vLis)) (L1 := (LM κ τ (LC κ (x_added, x_asked, x_eR, x_et, x_oR, x_ot, x_bR, x_bD, x_bQ, x_bW, x_bS, x_bM, x_bT, x_bn, x_tg, x_tb, x_ts, x_fg, x_fb, x_fV, x_fS, x_fn, x_cg, x_cb, x_cB, x_cq, x_vHeld, (0 : Int32), (0 : Int32), (0 : Int32))))) G 15 (by decide) lb_V rfl wsV_ok tyV tyV_ok nmV 11 (by decide) wd134 rfl rfl rfl (Nat.le_of_ble_eq_true rfl) dV_forget_12 upf_vLis ?_
  obtain rfl := Option.some.inj h
  exact w_vret (pc := 15) G dV_forget_15 Fh
def rm_V_generators : Room := { frames := 0, cells := 0, slots := 0, locals := 0 }
theorem dV_generators_0 : decode cV_generators 0 = .ok (.aload_n 0, 1) := by decide +kernel
theorem dV_generators_1 : decode cV_generators 1 = .ok (.getfield 56, 3) := by decide +kernel
theorem dV_generators_4 : decode cV_generators 4 = .ok (.ireturn, 1) := by decide +kernel
noncomputable def V_generators (F : Nat)  (x_vHeld : Int32)  : Option (Int32) := some x_vHeld
set_option maxHeartbeats 8000000 in
set_option maxRecDepth 100000 in
theorem met_V_generators (κ : ctx) (τ : MS) (F : Nat) {x_added : Nat → Nat → Int64} {x_asked : Nat → Int64} {x_eR : Nat → Nat → Int64} {x_et : Nat → Int64} {x_oR : Nat → Nat → Int64} {x_ot : Nat → Int64} {x_bR : Nat → Nat → Int64} {x_bD : Nat → Nat → Int64} {x_bQ : Nat → Int64} {x_bW : Nat → Int64} {x_bS : Nat → Nat → Int64} {x_bM : Nat → Nat → Int64} {x_bT : Nat → Int64} {x_bn : Int32} {x_tg : Nat → Int64} {x_tb : Int64} {x_ts : Nat → Int32} {x_fg : Nat → Int64} {x_fb : Int64} {x_fV : Nat → Nat → Int64} {x_fS : Nat → Int64} {x_fn : Int32} {x_cg : Nat → Int64} {x_cb : Int64} {x_cB : Nat → Int64} {x_cq : Int64} {x_vHeld : Int32} {x_vRed : Int32} {x_vTal : Int32} {x_vLis : Int32}  {out : Int32} (h : V_generators F  x_vHeld  = some out) : Mt yV_generators cV_generators 1 (some .int) rm_V_generators κ [.ref (κ.1 15)] (LM κ τ (LC κ (x_added, x_asked, x_eR, x_et, x_oR, x_ot, x_bR, x_bD, x_bQ, x_bW, x_bS, x_bM, x_bT, x_bn, x_tg, x_tb, x_ts, x_fg, x_fb, x_fV, x_fS, x_fn, x_cg, x_cb, x_cB, x_cq, x_vHeld, x_vRed, x_vTal, x_vLis))) (some (.int out)) (LM κ τ (LC κ (x_added, x_asked, x_eR, x_et, x_oR, x_ot, x_bR, x_bD, x_bQ, x_bW, x_bS, x_bM, x_bT, x_bn, x_tg, x_tb, x_ts, x_fg, x_fb, x_fV, x_fS, x_fn, x_cg, x_cb, x_cB, x_cq, x_vHeld, x_vRed, x_vTal, x_vLis))) := by
  refine Mt.of (by decide) (Nat.le_of_ble_eq_true rfl) ?_
  intro g G Fh
  unfold V_generators at h
  show J g κ 1 0 [(0, .ref (κ.1 15))] [] (LM κ τ (LC κ (x_added, x_asked, x_eR, x_et, x_oR, x_ot, x_bR, x_bD, x_bQ, x_bW, x_bS, x_bM, x_bT, x_bn, x_tg, x_tb, x_ts, x_fg, x_fb, x_fV, x_fS, x_fn, x_cg, x_cb, x_cB, x_cq, x_vHeld, x_vRed, x_vTal, x_vLis)))
  refine w_aload_n (pc := 0) (q := 0) G dV_generators_0 rfl rfl ?_
  refine w_get (pc := 1) (v := .int x_vHeld) (fs := fl_V κ (x_added, x_asked, x_eR, x_et, x_oR, x_ot, x_bR, x_bD, x_bQ, x_bW, x_bS, x_bM, x_bT, x_bn, x_tg, x_tb, x_ts, x_fg, x_fb, x_fV, x_fS, x_fn, x_cg, x_cb, x_cB, x_cq, x_vHeld, x_vRed, x_vTal, x_vLis)) G 15 (by decide) lb_V rfl wsV_ok 8 (by decide) wd131 gf_V_8 dV_generators_1 ?_
  obtain rfl := Option.some.inj h
  exact w_iret (pc := 4) G dV_generators_4 Fh
def rm_V_rank : Room := { frames := 2, cells := 0, slots := 0, locals := 43 }
theorem dV_rank_0 : decode cV_rank 0 = .ok (.aload_n 0, 1) := by decide +kernel
theorem dV_rank_1 : decode cV_rank 1 = .ok (.getfield 21, 3) := by decide +kernel
theorem dV_rank_4 : decode cV_rank 4 = .ok (.invokevirtual 79, 3) := by decide +kernel
theorem dV_rank_7 : decode cV_rank 7 = .ok (.ireturn, 1) := by decide +kernel
theorem cb_E_size_V_rank : CB yE_size cE_size 3 (some .int) rm_E_size rm_V_rank 0 := ⟨wd229, wd2, by decide +kernel, rfl, rfl, by decide⟩
noncomputable def V_rank (F : Nat)  (x_eR : Nat → Nat → Int64)  : Option (Int32) := (E_size F x_eR ).bind (fun r4 => some r4)
set_option maxHeartbeats 8000000 in
set_option maxRecDepth 100000 in
theorem met_V_rank (κ : ctx) (τ : MS) (F : Nat) {x_added : Nat → Nat → Int64} {x_asked : Nat → Int64} {x_eR : Nat → Nat → Int64} {x_et : Nat → Int64} {x_oR : Nat → Nat → Int64} {x_ot : Nat → Int64} {x_bR : Nat → Nat → Int64} {x_bD : Nat → Nat → Int64} {x_bQ : Nat → Int64} {x_bW : Nat → Int64} {x_bS : Nat → Nat → Int64} {x_bM : Nat → Nat → Int64} {x_bT : Nat → Int64} {x_bn : Int32} {x_tg : Nat → Int64} {x_tb : Int64} {x_ts : Nat → Int32} {x_fg : Nat → Int64} {x_fb : Int64} {x_fV : Nat → Nat → Int64} {x_fS : Nat → Int64} {x_fn : Int32} {x_cg : Nat → Int64} {x_cb : Int64} {x_cB : Nat → Int64} {x_cq : Int64} {x_vHeld : Int32} {x_vRed : Int32} {x_vTal : Int32} {x_vLis : Int32}  {out : Int32} (h : V_rank F  x_eR  = some out) : Mt yV_rank cV_rank 1 (some .int) rm_V_rank κ [.ref (κ.1 15)] (LM κ τ (LC κ (x_added, x_asked, x_eR, x_et, x_oR, x_ot, x_bR, x_bD, x_bQ, x_bW, x_bS, x_bM, x_bT, x_bn, x_tg, x_tb, x_ts, x_fg, x_fb, x_fV, x_fS, x_fn, x_cg, x_cb, x_cB, x_cq, x_vHeld, x_vRed, x_vTal, x_vLis))) (some (.int out)) (LM κ τ (LC κ (x_added, x_asked, x_eR, x_et, x_oR, x_ot, x_bR, x_bD, x_bQ, x_bW, x_bS, x_bM, x_bT, x_bn, x_tg, x_tb, x_ts, x_fg, x_fb, x_fV, x_fS, x_fn, x_cg, x_cb, x_cB, x_cq, x_vHeld, x_vRed, x_vTal, x_vLis))) := by
  refine Mt.of (by decide) (Nat.le_of_ble_eq_true rfl) ?_
  intro g G Fh
  unfold V_rank at h
  show J g κ 1 0 [(0, .ref (κ.1 15))] [] (LM κ τ (LC κ (x_added, x_asked, x_eR, x_et, x_oR, x_ot, x_bR, x_bD, x_bQ, x_bW, x_bS, x_bM, x_bT, x_bn, x_tg, x_tb, x_ts, x_fg, x_fb, x_fV, x_fS, x_fn, x_cg, x_cb, x_cB, x_cq, x_vHeld, x_vRed, x_vTal, x_vLis)))
  refine w_aload_n (pc := 0) (q := 0) G dV_rank_0 rfl rfl ?_
  refine w_get (pc := 1) (v := .ref (κ.1 24)) (fs := fl_V κ (x_added, x_asked, x_eR, x_et, x_oR, x_ot, x_bR, x_bD, x_bQ, x_bW, x_bS, x_bM, x_bT, x_bn, x_tg, x_tb, x_ts, x_fg, x_fb, x_fV, x_fS, x_fn, x_cg, x_cb, x_cB, x_cq, x_vHeld, x_vRed, x_vTal, x_vLis)) G 15 (by decide) lb_V rfl wsV_ok 2 (by decide) wd125 gf_V_2 dV_rank_1 ?_
  obtain ⟨r4, e4, h⟩ := bd h
  refine w_callV (pc := 4) (av := []) (rest := []) (v := some (.int r4)) (L' := (LM κ τ (LC κ (x_added, x_asked, x_eR, x_et, x_oR, x_ot, x_bR, x_bD, x_bQ, x_bW, x_bS, x_bM, x_bT, x_bn, x_tg, x_tb, x_ts, x_fg, x_fb, x_fV, x_fS, x_fn, x_cg, x_cb, x_cB, x_cq, x_vHeld, x_vRed, x_vTal, x_vLis)))) (T := TE) (fs := fl_E κ (x_added, x_asked, x_eR, x_et, x_oR, x_ot, x_bR, x_bD, x_bQ, x_bW, x_bS, x_bM, x_bT, x_bn, x_tg, x_tb, x_ts, x_fg, x_fb, x_fV, x_fS, x_fn, x_cg, x_cb, x_cB, x_cq, x_vHeld, x_vRed, x_vTal, x_vLis)) G 24 2 2 (by decide) lb_E rfl cb_E_size_V_rank wd227 wd228 wd226 (met_E_size κ τ F   e4) rfl rfl rfl (Nat.le_of_ble_eq_true rfl) dV_rank_4 ?_
  obtain rfl := Option.some.inj h
  exact w_iret (pc := 7) G dV_rank_7 Fh
def rm_V_gather_E : Room := { frames := 3, cells := 0, slots := 0, locals := 113 }
theorem dV_gather_0 : decode cV_gather 0 = .ok (.aload_n 1, 1) := by decide +kernel
theorem dV_gather_1 : decode cV_gather 1 = .ok (.invokevirtual 138, 3) := by decide +kernel
theorem dV_gather_4 : decode cV_gather 4 = .ok (.iconst 0, 1) := by decide +kernel
theorem dV_gather_5 : decode cV_gather 5 = .ok (.istore_n 3, 1) := by decide +kernel
theorem dV_gather_6 : decode cV_gather 6 = .ok (.iload_n 3, 1) := by decide +kernel
theorem dV_gather_7 : decode cV_gather 7 = .ok (.aload_n 0, 1) := by decide +kernel
theorem dV_gather_8 : decode cV_gather 8 = .ok (.getfield 56, 3) := by decide +kernel
theorem dV_gather_11 : decode cV_gather 11 = .ok (.if_icmp .ge 24, 3) := by decide +kernel
theorem dV_gather_14 : decode cV_gather 14 = .ok (.iload_n 3, 1) := by decide +kernel
theorem dV_gather_15 : decode cV_gather 15 = .ok (.iload_n 2, 1) := by decide +kernel
theorem dV_gather_16 : decode cV_gather 16 = .ok (.if_icmp .eq 13, 3) := by decide +kernel
theorem dV_gather_19 : decode cV_gather 19 = .ok (.aload_n 1, 1) := by decide +kernel
theorem dV_gather_20 : decode cV_gather 20 = .ok (.aload_n 0, 1) := by decide +kernel
theorem dV_gather_21 : decode cV_gather 21 = .ok (.getfield 11, 3) := by decide +kernel
theorem dV_gather_24 : decode cV_gather 24 = .ok (.iload_n 3, 1) := by decide +kernel
theorem dV_gather_25 : decode cV_gather 25 = .ok (.aaload, 1) := by decide +kernel
theorem dV_gather_26 : decode cV_gather 26 = .ok (.invokevirtual 68, 3) := by decide +kernel
theorem dV_gather_29 : decode cV_gather 29 = .ok (.iinc 3 1, 3) := by decide +kernel
theorem dV_gather_32 : decode cV_gather 32 = .ok (.goto (-26), 3) := by decide +kernel
theorem dV_gather_35 : decode cV_gather 35 = .ok (.return_, 1) := by decide +kernel
theorem cb_E_clear_V_gather_E : CB yE_clear cE_clear 2 none rm_E_clear rm_V_gather_E 0 := ⟨wd214, wd2, by decide +kernel, rfl, rfl, by decide⟩
theorem cb_E_include_V_gather_E : CB yE_include cE_include 3 none rm_E_include rm_V_gather_E 1 := ⟨wd177, wd2, by decide +kernel, rfl, rfl, by decide⟩
noncomputable def lV_gather_6 (F : Nat) (x_added : Nat → Nat → Int64) (x_vHeld : Int32) (v2 : Int32) : Nat → Int32 → (Nat → Nat → Int64) → (Nat → Int64) → Option ((Nat → Nat → Int64) × (Nat → Int64))
  | 0, _, _, _ => none
  | n + 1, v3, x_eR, x_et => if x_vHeld ≤ v3 then some (x_eR, x_et) else if v3 = v2 then lV_gather_6 F  x_added x_vHeld v2 n (v3 + 1) x_eR x_et else gd (vp_in v3 6) ((E_include F x_eR x_et (x_added v3.toNatClampNeg) ).bind (fun r26 => lV_gather_6 F  x_added x_vHeld v2 n (v3 + 1) r26.1 r26.2))
set_option maxHeartbeats 8000000 in
set_option maxRecDepth 100000 in
theorem lV_gather_E_6_ok {g : Gm} {κ : ctx} (G : OK g κ RV cV_gather 4 none rm_V_gather_E) (τ : MS) (F : Nat) {x_added : Nat → Nat → Int64} {x_asked : Nat → Int64} {x_oR : Nat → Nat → Int64} {x_ot : Nat → Int64} {x_bR : Nat → Nat → Int64} {x_bD : Nat → Nat → Int64} {x_bQ : Nat → Int64} {x_bW : Nat → Int64} {x_bS : Nat → Nat → Int64} {x_bM : Nat → Nat → Int64} {x_bT : Nat → Int64} {x_bn : Int32} {x_tg : Nat → Int64} {x_tb : Int64} {x_ts : Nat → Int32} {x_fg : Nat → Int64} {x_fb : Int64} {x_fV : Nat → Nat → Int64} {x_fS : Nat → Int64} {x_fn : Int32} {x_cg : Nat → Int64} {x_cb : Int64} {x_cB : Nat → Int64} {x_cq : Int64} {x_vHeld : Int32} {x_vRed : Int32} {x_vTal : Int32} {x_vLis : Int32} (v2 : Int32) : ∀ (n : Nat) (v3 : Int32) (x_eR : Nat → Nat → Int64) (x_et : Nat → Int64) (out : (Nat → Nat → Int64) × (Nat → Int64)), lV_gather_6 F  x_added x_vHeld v2 n v3 x_eR x_et = some out → (J g κ 4 35 [] [] (LM κ τ (LC κ (x_added, x_asked, out.1, out.2, x_oR, x_ot, x_bR, x_bD, x_bQ, x_bW, x_bS, x_bM, x_bT, x_bn, x_tg, x_tb, x_ts, x_fg, x_fb, x_fV, x_fS, x_fn, x_cg, x_cb, x_cB, x_cq, x_vHeld, x_vRed, x_vTal, x_vLis)))) → J g κ 4 6 [(0, .ref (κ.1 15)), (1, .ref (κ.1 24)), (2, .int v2), (3, .int v3)] [] (LM κ τ (LC κ (x_added, x_asked, x_eR, x_et, x_oR, x_ot, x_bR, x_bD, x_bQ, x_bW, x_bS, x_bM, x_bT, x_bn, x_tg, x_tb, x_ts, x_fg, x_fb, x_fV, x_fS, x_fn, x_cg, x_cb, x_cB, x_cq, x_vHeld, x_vRed, x_vTal, x_vLis))) := by
  intro n
  induction n with
  | zero =>
    intro v3 x_eR x_et
    intro out h
    rw [lV_gather_6] at h
    cases h
  | succ n ih =>
    intro v3 x_eR x_et out h K
    rw [lV_gather_6] at h
    refine w_iload_n (pc := 6) (q := 3) G dV_gather_6 rfl rfl ?_
    refine w_aload_n (pc := 7) (q := 0) G dV_gather_7 rfl rfl ?_
    refine w_get (pc := 8) (v := .int x_vHeld) (fs := fl_V κ (x_added, x_asked, x_eR, x_et, x_oR, x_ot, x_bR, x_bD, x_bQ, x_bW, x_bS, x_bM, x_bT, x_bn, x_tg, x_tb, x_ts, x_fg, x_fb, x_fV, x_fS, x_fn, x_cg, x_cb, x_cB, x_cq, x_vHeld, x_vRed, x_vTal, x_vLis)) G 15 (by decide) lb_V rfl wsV_ok 8 (by decide) wd131 gf_V_8 dV_gather_8 ?_
    refine w_icmp_ge (pc := 11) (tgt := 35) G dV_gather_11 (by decide) (fun c11 => ?_) (fun c11 => ?_)
    · have h := if_t c11 h
      obtain rfl := Option.some.inj h
      refine w_sub (lv' := []) [] rfl ?_
      exact K
    · have h := if_f c11 h
      refine w_iload_n (pc := 14) (q := 3) G dV_gather_14 rfl rfl ?_
      refine w_iload_n (pc := 15) (q := 2) G dV_gather_15 rfl rfl ?_
      refine w_icmp_eq (pc := 16) (tgt := 29) G dV_gather_16 (by decide) (fun c16 => ?_) (fun c16 => ?_)
      · have h := if_t c16 h
        refine w_iinc (pc := 29) (q0 := 3) (v := (v3 + 1)) (lv' := [(3, .int (v3 + 1)), (0, .ref (κ.1 15)), (1, .ref (κ.1 24)), (2, .int v2)]) G dV_gather_29 rfl rfl (by decide) rfl ?_
        refine w_goto (pc := 32) (tgt := 6) G dV_gather_32 (by decide) ?_
        refine w_sub (lv' := [(0, .ref (κ.1 15)), (1, .ref (κ.1 24)), (2, .int v2), (3, .int (v3 + 1))]) [1, 2, 3, 0] rfl ?_
        exact ih (v3 + 1) x_eR x_et out h K
      · have h := if_f c16 h
        refine w_aload_n (pc := 19) (q := 1) G dV_gather_19 rfl rfl ?_
        refine w_aload_n (pc := 20) (q := 0) G dV_gather_20 rfl rfl ?_
        refine w_get (pc := 21) (v := .ref (κ.1 16)) (fs := fl_V κ (x_added, x_asked, x_eR, x_et, x_oR, x_ot, x_bR, x_bD, x_bQ, x_bW, x_bS, x_bM, x_bT, x_bn, x_tg, x_tb, x_ts, x_fg, x_fb, x_fV, x_fS, x_fn, x_cg, x_cb, x_cB, x_cq, x_vHeld, x_vRed, x_vTal, x_vLis)) G 15 (by decide) lb_V rfl wsV_ok 0 (by decide) wd123 gf_V_0 dV_gather_21 ?_
        refine w_iload_n (pc := 24) (q := 3) G dV_gather_24 rfl rfl ?_
        obtain ⟨i25, h⟩ := gd_some h
        refine w_aald (pc := 25) (n := 6) (f := og κ 17 6) (b := κ.1 (17 + v3.toNatClampNeg)) G 16 (by decide) lo_added i25 (og_at (ixlt i25)) dV_gather_25 ?_
        obtain ⟨r26, e26, h⟩ := bd h
        refine w_callV (pc := 26) (av := [.ref (κ.1 (17 + v3.toNatClampNeg))]) (rest := []) (v := none) (L' := (LM κ τ (LC κ (x_added, x_asked, r26.1, r26.2, x_oR, x_ot, x_bR, x_bD, x_bQ, x_bW, x_bS, x_bM, x_bT, x_bn, x_tg, x_tb, x_ts, x_fg, x_fb, x_fV, x_fS, x_fn, x_cg, x_cb, x_cB, x_cq, x_vHeld, x_vRed, x_vTal, x_vLis)))) (T := TE) (fs := fl_E κ (x_added, x_asked, x_eR, x_et, x_oR, x_ot, x_bR, x_bD, x_bQ, x_bW, x_bS, x_bM, x_bT, x_bn, x_tg, x_tb, x_ts, x_fg, x_fb, x_fV, x_fS, x_fn, x_cg, x_cb, x_cB, x_cq, x_vHeld, x_vRed, x_vTal, x_vLis)) G 24 2 2 (by decide) lb_E rfl cb_E_include_V_gather_E wd175 wd176 wd174 (met_E_include κ τ F  (17 + v3.toNatClampNeg) (nw_added (ixlt i25)) (x_added v3.toNatClampNeg) (fun _ _ => (lk_added (ixlt i25))) (by have := (ixlt i25); omega) e26) rfl rfl rfl (Nat.le_of_ble_eq_true rfl) dV_gather_26 ?_
        refine w_iinc (pc := 29) (q0 := 3) (v := (v3 + 1)) (lv' := [(3, .int (v3 + 1)), (0, .ref (κ.1 15)), (1, .ref (κ.1 24)), (2, .int v2)]) G dV_gather_29 rfl rfl (by decide) rfl ?_
        refine w_goto (pc := 32) (tgt := 6) G dV_gather_32 (by decide) ?_
        refine w_sub (lv' := [(0, .ref (κ.1 15)), (1, .ref (κ.1 24)), (2, .int v2), (3, .int (v3 + 1))]) [1, 2, 3, 0] rfl ?_
        exact ih (v3 + 1) r26.1 r26.2 out h K
noncomputable def V_gather (F : Nat)  (x_added : Nat → Nat → Int64) (x_eR : Nat → Nat → Int64) (x_et : Nat → Int64) (x_vHeld : Int32) (v2 : Int32) : Option ((Nat → Nat → Int64) × (Nat → Int64)) := (E_clear F x_eR ).bind (fun r1 => (lV_gather_6 F  x_added x_vHeld v2 F (0 : Int32) r1 x_et).bind (fun o6_11 => some (o6_11.1, o6_11.2)))
set_option maxHeartbeats 8000000 in
set_option maxRecDepth 100000 in
theorem met_V_gather_E (κ : ctx) (τ : MS) (F : Nat) {x_added : Nat → Nat → Int64} {x_asked : Nat → Int64} {x_eR : Nat → Nat → Int64} {x_et : Nat → Int64} {x_oR : Nat → Nat → Int64} {x_ot : Nat → Int64} {x_bR : Nat → Nat → Int64} {x_bD : Nat → Nat → Int64} {x_bQ : Nat → Int64} {x_bW : Nat → Int64} {x_bS : Nat → Nat → Int64} {x_bM : Nat → Nat → Int64} {x_bT : Nat → Int64} {x_bn : Int32} {x_tg : Nat → Int64} {x_tb : Int64} {x_ts : Nat → Int32} {x_fg : Nat → Int64} {x_fb : Int64} {x_fV : Nat → Nat → Int64} {x_fS : Nat → Int64} {x_fn : Int32} {x_cg : Nat → Int64} {x_cb : Int64} {x_cB : Nat → Int64} {x_cq : Int64} {x_vHeld : Int32} {x_vRed : Int32} {x_vTal : Int32} {x_vLis : Int32} (v2 : Int32) {out : (Nat → Nat → Int64) × (Nat → Int64)} (h : V_gather F  x_added x_eR x_et x_vHeld v2 = some out) : Mt yV_gather cV_gather 4 none rm_V_gather_E κ [.ref (κ.1 15), .ref (κ.1 24), .int v2] (LM κ τ (LC κ (x_added, x_asked, x_eR, x_et, x_oR, x_ot, x_bR, x_bD, x_bQ, x_bW, x_bS, x_bM, x_bT, x_bn, x_tg, x_tb, x_ts, x_fg, x_fb, x_fV, x_fS, x_fn, x_cg, x_cb, x_cB, x_cq, x_vHeld, x_vRed, x_vTal, x_vLis))) none (LM κ τ (LC κ (x_added, x_asked, out.1, out.2, x_oR, x_ot, x_bR, x_bD, x_bQ, x_bW, x_bS, x_bM, x_bT, x_bn, x_tg, x_tb, x_ts, x_fg, x_fb, x_fV, x_fS, x_fn, x_cg, x_cb, x_cB, x_cq, x_vHeld, x_vRed, x_vTal, x_vLis))) := by
  refine Mt.of (by decide) (Nat.le_of_ble_eq_true rfl) ?_
  intro g G Fh
  unfold V_gather at h
  show J g κ 4 0 [(0, .ref (κ.1 15)), (1, .ref (κ.1 24)), (2, .int v2)] [] (LM κ τ (LC κ (x_added, x_asked, x_eR, x_et, x_oR, x_ot, x_bR, x_bD, x_bQ, x_bW, x_bS, x_bM, x_bT, x_bn, x_tg, x_tb, x_ts, x_fg, x_fb, x_fV, x_fS, x_fn, x_cg, x_cb, x_cB, x_cq, x_vHeld, x_vRed, x_vTal, x_vLis)))
  refine w_aload_n (pc := 0) (q := 1) G dV_gather_0 rfl rfl ?_
  obtain ⟨r1, e1, h⟩ := bd h
  refine w_callV (pc := 1) (av := []) (rest := []) (v := none) (L' := (LM κ τ (LC κ (x_added, x_asked, r1, x_et, x_oR, x_ot, x_bR, x_bD, x_bQ, x_bW, x_bS, x_bM, x_bT, x_bn, x_tg, x_tb, x_ts, x_fg, x_fb, x_fV, x_fS, x_fn, x_cg, x_cb, x_cB, x_cq, x_vHeld, x_vRed, x_vTal, x_vLis)))) (T := TE) (fs := fl_E κ (x_added, x_asked, x_eR, x_et, x_oR, x_ot, x_bR, x_bD, x_bQ, x_bW, x_bS, x_bM, x_bT, x_bn, x_tg, x_tb, x_ts, x_fg, x_fb, x_fV, x_fS, x_fn, x_cg, x_cb, x_cB, x_cq, x_vHeld, x_vRed, x_vTal, x_vLis)) G 24 2 2 (by decide) lb_E rfl cb_E_clear_V_gather_E wd212 wd213 wd211 (met_E_clear κ τ F   e1) rfl rfl rfl (Nat.le_of_ble_eq_true rfl) dV_gather_1 ?_
  refine w_iconst (pc := 4) (v := (0 : Int32)) G dV_gather_4 (by decide) ?_
  refine w_istore_n (pc := 5) (lv' := [(3, .int (0 : Int32)), (0, .ref (κ.1 15)), (1, .ref (κ.1 24)), (2, .int v2)]) G dV_gather_5 rfl (by decide) rfl ?_
  refine w_sub (lv' := [(0, .ref (κ.1 15)), (1, .ref (κ.1 24)), (2, .int v2), (3, .int (0 : Int32))]) [1, 2, 3, 0] rfl ?_
  obtain ⟨o6_11, eo6_11, h⟩ := bd h
  refine lV_gather_E_6_ok G τ F  v2 F (0 : Int32) r1 x_et o6_11 eo6_11 ?_
  obtain rfl := Option.some.inj h
  exact w_vret (pc := 35) G dV_gather_35 Fh
def rm_V_gather_O : Room := { frames := 3, cells := 0, slots := 0, locals := 113 }
theorem cb_O_clear_V_gather_O : CB yE_clear cE_clear 2 none rm_O_clear rm_V_gather_O 0 := ⟨wd214, wd2, by decide +kernel, rfl, rfl, by decide⟩
theorem cb_O_include_V_gather_O : CB yE_include cE_include 3 none rm_O_include rm_V_gather_O 1 := ⟨wd177, wd2, by decide +kernel, rfl, rfl, by decide⟩
set_option maxHeartbeats 8000000 in
set_option maxRecDepth 100000 in
theorem lV_gather_O_6_ok {g : Gm} {κ : ctx} (G : OK g κ RV cV_gather 4 none rm_V_gather_O) (τ : MS) (F : Nat) {x_added : Nat → Nat → Int64} {x_asked : Nat → Int64} {x_eR : Nat → Nat → Int64} {x_et : Nat → Int64} {x_bR : Nat → Nat → Int64} {x_bD : Nat → Nat → Int64} {x_bQ : Nat → Int64} {x_bW : Nat → Int64} {x_bS : Nat → Nat → Int64} {x_bM : Nat → Nat → Int64} {x_bT : Nat → Int64} {x_bn : Int32} {x_tg : Nat → Int64} {x_tb : Int64} {x_ts : Nat → Int32} {x_fg : Nat → Int64} {x_fb : Int64} {x_fV : Nat → Nat → Int64} {x_fS : Nat → Int64} {x_fn : Int32} {x_cg : Nat → Int64} {x_cb : Int64} {x_cB : Nat → Int64} {x_cq : Int64} {x_vHeld : Int32} {x_vRed : Int32} {x_vTal : Int32} {x_vLis : Int32} (v2 : Int32) : ∀ (n : Nat) (v3 : Int32) (x_oR : Nat → Nat → Int64) (x_ot : Nat → Int64) (out : (Nat → Nat → Int64) × (Nat → Int64)), lV_gather_6 F  x_added x_vHeld v2 n v3 x_oR x_ot = some out → (J g κ 4 35 [] [] (LM κ τ (LC κ (x_added, x_asked, x_eR, x_et, out.1, out.2, x_bR, x_bD, x_bQ, x_bW, x_bS, x_bM, x_bT, x_bn, x_tg, x_tb, x_ts, x_fg, x_fb, x_fV, x_fS, x_fn, x_cg, x_cb, x_cB, x_cq, x_vHeld, x_vRed, x_vTal, x_vLis)))) → J g κ 4 6 [(0, .ref (κ.1 15)), (1, .ref (κ.1 31)), (2, .int v2), (3, .int v3)] [] (LM κ τ (LC κ (x_added, x_asked, x_eR, x_et, x_oR, x_ot, x_bR, x_bD, x_bQ, x_bW, x_bS, x_bM, x_bT, x_bn, x_tg, x_tb, x_ts, x_fg, x_fb, x_fV, x_fS, x_fn, x_cg, x_cb, x_cB, x_cq, x_vHeld, x_vRed, x_vTal, x_vLis))) := by
  intro n
  induction n with
  | zero =>
    intro v3 x_oR x_ot
    intro out h
    rw [lV_gather_6] at h
    cases h
  | succ n ih =>
    intro v3 x_oR x_ot out h K
    rw [lV_gather_6] at h
    refine w_iload_n (pc := 6) (q := 3) G dV_gather_6 rfl rfl ?_
    refine w_aload_n (pc := 7) (q := 0) G dV_gather_7 rfl rfl ?_
    refine w_get (pc := 8) (v := .int x_vHeld) (fs := fl_V κ (x_added, x_asked, x_eR, x_et, x_oR, x_ot, x_bR, x_bD, x_bQ, x_bW, x_bS, x_bM, x_bT, x_bn, x_tg, x_tb, x_ts, x_fg, x_fb, x_fV, x_fS, x_fn, x_cg, x_cb, x_cB, x_cq, x_vHeld, x_vRed, x_vTal, x_vLis)) G 15 (by decide) lb_V rfl wsV_ok 8 (by decide) wd131 gf_V_8 dV_gather_8 ?_
    refine w_icmp_ge (pc := 11) (tgt := 35) G dV_gather_11 (by decide) (fun c11 => ?_) (fun c11 => ?_)
    · have h := if_t c11 h
      obtain rfl := Option.some.inj h
      refine w_sub (lv' := []) [] rfl ?_
      exact K
    · have h := if_f c11 h
      refine w_iload_n (pc := 14) (q := 3) G dV_gather_14 rfl rfl ?_
      refine w_iload_n (pc := 15) (q := 2) G dV_gather_15 rfl rfl ?_
      refine w_icmp_eq (pc := 16) (tgt := 29) G dV_gather_16 (by decide) (fun c16 => ?_) (fun c16 => ?_)
      · have h := if_t c16 h
        refine w_iinc (pc := 29) (q0 := 3) (v := (v3 + 1)) (lv' := [(3, .int (v3 + 1)), (0, .ref (κ.1 15)), (1, .ref (κ.1 31)), (2, .int v2)]) G dV_gather_29 rfl rfl (by decide) rfl ?_
        refine w_goto (pc := 32) (tgt := 6) G dV_gather_32 (by decide) ?_
        refine w_sub (lv' := [(0, .ref (κ.1 15)), (1, .ref (κ.1 31)), (2, .int v2), (3, .int (v3 + 1))]) [1, 2, 3, 0] rfl ?_
        exact ih (v3 + 1) x_oR x_ot out h K
      · have h := if_f c16 h
        refine w_aload_n (pc := 19) (q := 1) G dV_gather_19 rfl rfl ?_
        refine w_aload_n (pc := 20) (q := 0) G dV_gather_20 rfl rfl ?_
        refine w_get (pc := 21) (v := .ref (κ.1 16)) (fs := fl_V κ (x_added, x_asked, x_eR, x_et, x_oR, x_ot, x_bR, x_bD, x_bQ, x_bW, x_bS, x_bM, x_bT, x_bn, x_tg, x_tb, x_ts, x_fg, x_fb, x_fV, x_fS, x_fn, x_cg, x_cb, x_cB, x_cq, x_vHeld, x_vRed, x_vTal, x_vLis)) G 15 (by decide) lb_V rfl wsV_ok 0 (by decide) wd123 gf_V_0 dV_gather_21 ?_
        refine w_iload_n (pc := 24) (q := 3) G dV_gather_24 rfl rfl ?_
        obtain ⟨i25, h⟩ := gd_some h
        refine w_aald (pc := 25) (n := 6) (f := og κ 17 6) (b := κ.1 (17 + v3.toNatClampNeg)) G 16 (by decide) lo_added i25 (og_at (ixlt i25)) dV_gather_25 ?_
        obtain ⟨r26, e26, h⟩ := bd h
        refine w_callV (pc := 26) (av := [.ref (κ.1 (17 + v3.toNatClampNeg))]) (rest := []) (v := none) (L' := (LM κ τ (LC κ (x_added, x_asked, x_eR, x_et, r26.1, r26.2, x_bR, x_bD, x_bQ, x_bW, x_bS, x_bM, x_bT, x_bn, x_tg, x_tb, x_ts, x_fg, x_fb, x_fV, x_fS, x_fn, x_cg, x_cb, x_cB, x_cq, x_vHeld, x_vRed, x_vTal, x_vLis)))) (T := TE) (fs := fl_O κ (x_added, x_asked, x_eR, x_et, x_oR, x_ot, x_bR, x_bD, x_bQ, x_bW, x_bS, x_bM, x_bT, x_bn, x_tg, x_tb, x_ts, x_fg, x_fb, x_fV, x_fS, x_fn, x_cg, x_cb, x_cB, x_cq, x_vHeld, x_vRed, x_vTal, x_vLis)) G 31 2 2 (by decide) lb_O rfl cb_O_include_V_gather_O wd175 wd176 wd174 (met_O_include κ τ F  (17 + v3.toNatClampNeg) (nw_added (ixlt i25)) (x_added v3.toNatClampNeg) (fun _ _ => (lk_added (ixlt i25))) (by have := (ixlt i25); omega) e26) rfl rfl rfl (Nat.le_of_ble_eq_true rfl) dV_gather_26 ?_
        refine w_iinc (pc := 29) (q0 := 3) (v := (v3 + 1)) (lv' := [(3, .int (v3 + 1)), (0, .ref (κ.1 15)), (1, .ref (κ.1 31)), (2, .int v2)]) G dV_gather_29 rfl rfl (by decide) rfl ?_
        refine w_goto (pc := 32) (tgt := 6) G dV_gather_32 (by decide) ?_
        refine w_sub (lv' := [(0, .ref (κ.1 15)), (1, .ref (κ.1 31)), (2, .int v2), (3, .int (v3 + 1))]) [1, 2, 3, 0] rfl ?_
        exact ih (v3 + 1) r26.1 r26.2 out h K
set_option maxHeartbeats 8000000 in
set_option maxRecDepth 100000 in
theorem met_V_gather_O (κ : ctx) (τ : MS) (F : Nat) {x_added : Nat → Nat → Int64} {x_asked : Nat → Int64} {x_eR : Nat → Nat → Int64} {x_et : Nat → Int64} {x_oR : Nat → Nat → Int64} {x_ot : Nat → Int64} {x_bR : Nat → Nat → Int64} {x_bD : Nat → Nat → Int64} {x_bQ : Nat → Int64} {x_bW : Nat → Int64} {x_bS : Nat → Nat → Int64} {x_bM : Nat → Nat → Int64} {x_bT : Nat → Int64} {x_bn : Int32} {x_tg : Nat → Int64} {x_tb : Int64} {x_ts : Nat → Int32} {x_fg : Nat → Int64} {x_fb : Int64} {x_fV : Nat → Nat → Int64} {x_fS : Nat → Int64} {x_fn : Int32} {x_cg : Nat → Int64} {x_cb : Int64} {x_cB : Nat → Int64} {x_cq : Int64} {x_vHeld : Int32} {x_vRed : Int32} {x_vTal : Int32} {x_vLis : Int32} (v2 : Int32) {out : (Nat → Nat → Int64) × (Nat → Int64)} (h : V_gather F  x_added x_oR x_ot x_vHeld v2 = some out) : Mt yV_gather cV_gather 4 none rm_V_gather_O κ [.ref (κ.1 15), .ref (κ.1 31), .int v2] (LM κ τ (LC κ (x_added, x_asked, x_eR, x_et, x_oR, x_ot, x_bR, x_bD, x_bQ, x_bW, x_bS, x_bM, x_bT, x_bn, x_tg, x_tb, x_ts, x_fg, x_fb, x_fV, x_fS, x_fn, x_cg, x_cb, x_cB, x_cq, x_vHeld, x_vRed, x_vTal, x_vLis))) none (LM κ τ (LC κ (x_added, x_asked, x_eR, x_et, out.1, out.2, x_bR, x_bD, x_bQ, x_bW, x_bS, x_bM, x_bT, x_bn, x_tg, x_tb, x_ts, x_fg, x_fb, x_fV, x_fS, x_fn, x_cg, x_cb, x_cB, x_cq, x_vHeld, x_vRed, x_vTal, x_vLis))) := by
  refine Mt.of (by decide) (Nat.le_of_ble_eq_true rfl) ?_
  intro g G Fh
  unfold V_gather at h
  show J g κ 4 0 [(0, .ref (κ.1 15)), (1, .ref (κ.1 31)), (2, .int v2)] [] (LM κ τ (LC κ (x_added, x_asked, x_eR, x_et, x_oR, x_ot, x_bR, x_bD, x_bQ, x_bW, x_bS, x_bM, x_bT, x_bn, x_tg, x_tb, x_ts, x_fg, x_fb, x_fV, x_fS, x_fn, x_cg, x_cb, x_cB, x_cq, x_vHeld, x_vRed, x_vTal, x_vLis)))
  refine w_aload_n (pc := 0) (q := 1) G dV_gather_0 rfl rfl ?_
  obtain ⟨r1, e1, h⟩ := bd h
  refine w_callV (pc := 1) (av := []) (rest := []) (v := none) (L' := (LM κ τ (LC κ (x_added, x_asked, x_eR, x_et, r1, x_ot, x_bR, x_bD, x_bQ, x_bW, x_bS, x_bM, x_bT, x_bn, x_tg, x_tb, x_ts, x_fg, x_fb, x_fV, x_fS, x_fn, x_cg, x_cb, x_cB, x_cq, x_vHeld, x_vRed, x_vTal, x_vLis)))) (T := TE) (fs := fl_O κ (x_added, x_asked, x_eR, x_et, x_oR, x_ot, x_bR, x_bD, x_bQ, x_bW, x_bS, x_bM, x_bT, x_bn, x_tg, x_tb, x_ts, x_fg, x_fb, x_fV, x_fS, x_fn, x_cg, x_cb, x_cB, x_cq, x_vHeld, x_vRed, x_vTal, x_vLis)) G 31 2 2 (by decide) lb_O rfl cb_O_clear_V_gather_O wd212 wd213 wd211 (met_O_clear κ τ F   e1) rfl rfl rfl (Nat.le_of_ble_eq_true rfl) dV_gather_1 ?_
  refine w_iconst (pc := 4) (v := (0 : Int32)) G dV_gather_4 (by decide) ?_
  refine w_istore_n (pc := 5) (lv' := [(3, .int (0 : Int32)), (0, .ref (κ.1 15)), (1, .ref (κ.1 31)), (2, .int v2)]) G dV_gather_5 rfl (by decide) rfl ?_
  refine w_sub (lv' := [(0, .ref (κ.1 15)), (1, .ref (κ.1 31)), (2, .int v2), (3, .int (0 : Int32))]) [1, 2, 3, 0] rfl ?_
  obtain ⟨o6_11, eo6_11, h⟩ := bd h
  refine lV_gather_O_6_ok G τ F  v2 F (0 : Int32) r1 x_ot o6_11 eo6_11 ?_
  obtain rfl := Option.some.inj h
  exact w_vret (pc := 35) G dV_gather_35 Fh
def rm_V_add : Room := { frames := 3, cells := 0, slots := 0, locals := 113 }
theorem dV_add_0 : decode cV_add 0 = .ok (.aload_n 0, 1) := by decide +kernel
theorem dV_add_1 : decode cV_add 1 = .ok (.iload_n 1, 1) := by decide +kernel
theorem dV_add_2 : decode cV_add 2 = .ok (.iload_n 2, 1) := by decide +kernel
theorem dV_add_3 : decode cV_add 3 = .ok (.iload_n 3, 1) := by decide +kernel
theorem dV_add_4 : decode cV_add 4 = .ok (.iload 4, 2) := by decide +kernel
theorem dV_add_6 : decode cV_add 6 = .ok (.bipush 9, 2) := by decide +kernel
theorem dV_add_8 : decode cV_add 8 = .ok (.invokevirtual 60, 3) := by decide +kernel
theorem dV_add_11 : decode cV_add 11 = .ok (.ifCond .ne 5, 3) := by decide +kernel
theorem dV_add_14 : decode cV_add 14 = .ok (.iconst (-1), 1) := by decide +kernel
theorem dV_add_15 : decode cV_add 15 = .ok (.ireturn, 1) := by decide +kernel
theorem dV_add_16 : decode cV_add 16 = .ok (.aload_n 0, 1) := by decide +kernel
theorem dV_add_17 : decode cV_add 17 = .ok (.getfield 56, 3) := by decide +kernel
theorem dV_add_20 : decode cV_add 20 = .ok (.bipush 6, 2) := by decide +kernel
theorem dV_add_22 : decode cV_add 22 = .ok (.if_icmp .lt 6, 3) := by decide +kernel
theorem dV_add_25 : decode cV_add 25 = .ok (.bipush (-2), 2) := by decide +kernel
theorem dV_add_27 : decode cV_add 27 = .ok (.ireturn, 1) := by decide +kernel
theorem dV_add_28 : decode cV_add 28 = .ok (.aload_n 0, 1) := by decide +kernel
theorem dV_add_29 : decode cV_add 29 = .ok (.getfield 14, 3) := by decide +kernel
theorem dV_add_32 : decode cV_add 32 = .ok (.aload_n 0, 1) := by decide +kernel
theorem dV_add_33 : decode cV_add 33 = .ok (.getfield 11, 3) := by decide +kernel
theorem dV_add_36 : decode cV_add 36 = .ok (.aload_n 0, 1) := by decide +kernel
theorem dV_add_37 : decode cV_add 37 = .ok (.getfield 56, 3) := by decide +kernel
theorem dV_add_40 : decode cV_add 40 = .ok (.aaload, 1) := by decide +kernel
theorem dV_add_41 : decode cV_add 41 = .ok (.invokestatic 64, 3) := by decide +kernel
theorem dV_add_44 : decode cV_add 44 = .ok (.aload_n 0, 1) := by decide +kernel
theorem dV_add_45 : decode cV_add 45 = .ok (.dup, 1) := by decide +kernel
theorem dV_add_46 : decode cV_add 46 = .ok (.getfield 56, 3) := by decide +kernel
theorem dV_add_49 : decode cV_add 49 = .ok (.iconst 1, 1) := by decide +kernel
theorem dV_add_50 : decode cV_add 50 = .ok (.iadd, 1) := by decide +kernel
theorem dV_add_51 : decode cV_add 51 = .ok (.putfield 56, 3) := by decide +kernel
theorem dV_add_54 : decode cV_add 54 = .ok (.aload_n 0, 1) := by decide +kernel
theorem dV_add_55 : decode cV_add 55 = .ok (.getfield 21, 3) := by decide +kernel
theorem dV_add_58 : decode cV_add 58 = .ok (.aload_n 0, 1) := by decide +kernel
theorem dV_add_59 : decode cV_add 59 = .ok (.getfield 14, 3) := by decide +kernel
theorem dV_add_62 : decode cV_add 62 = .ok (.invokevirtual 68, 3) := by decide +kernel
theorem dV_add_65 : decode cV_add 65 = .ok (.aload_n 0, 1) := by decide +kernel
theorem dV_add_66 : decode cV_add 66 = .ok (.invokevirtual 72, 3) := by decide +kernel
theorem dV_add_69 : decode cV_add 69 = .ok (.aload_n 0, 1) := by decide +kernel
theorem dV_add_70 : decode cV_add 70 = .ok (.getfield 56, 3) := by decide +kernel
theorem dV_add_73 : decode cV_add 73 = .ok (.iconst 1, 1) := by decide +kernel
theorem dV_add_74 : decode cV_add 74 = .ok (.isub, 1) := by decide +kernel
theorem dV_add_75 : decode cV_add 75 = .ok (.ireturn, 1) := by decide +kernel
theorem cb_V_ask_V_add : CB yV_ask cV_ask 7 (some .boolean) rm_V_ask rm_V_add 5 := ⟨wd167, wd1, by decide +kernel, rfl, rfl, by decide⟩
theorem cb_V_copy_V_add : CB yV_copy cV_copy 2 none rm_V_copy rm_V_add 2 := ⟨wd170, wd1, by decide +kernel, rfl, rfl, by decide⟩
theorem cb_V_forget_V_add : CB yV_forget cV_forget 1 none rm_V_forget rm_V_add 0 := ⟨wd202, wd1, by decide +kernel, rfl, rfl, by decide⟩
theorem cb_E_include_V_add : CB yE_include cE_include 3 none rm_E_include rm_V_add 1 := ⟨wd177, wd2, by decide +kernel, rfl, rfl, by decide⟩
noncomputable def V_add (F : Nat)  (x_added : Nat → Nat → Int64) (x_asked : Nat → Int64) (x_eR : Nat → Nat → Int64) (x_et : Nat → Int64) (x_vHeld : Int32) (x_vRed : Int32) (x_vTal : Int32) (x_vLis : Int32) (v1 : Int32) (v2 : Int32) (v3 : Int32) (v4 : Int32) : Option (Int32 × (Nat → Nat → Int64) × (Nat → Int64) × (Nat → Nat → Int64) × (Nat → Int64) × Int32 × Int32 × Int32 × Int32) := (V_ask F x_asked v1 v2 v3 v4 (9 : Int32)).bind (fun r8 => if r8.1 = 0 then some ((-1 : Int32), x_added, r8.2, x_eR, x_et, x_vHeld, x_vRed, x_vTal, x_vLis) else if x_vHeld < (6 : Int32) then gd (vp_in x_vHeld 6) ((V_copy F r8.2 (x_added x_vHeld.toNatClampNeg) ).bind (fun r41 => (E_include F x_eR x_et r8.2 ).bind (fun r62 => (V_forget F x_vRed x_vTal x_vLis ).bind (fun r66 => some (((x_vHeld + (1 : Int32)) - (1 : Int32)), va_up x_added x_vHeld.toNatClampNeg r41, r8.2, r62.1, r62.2, (x_vHeld + (1 : Int32)), r66.1, r66.2.1, r66.2.2))))) else some ((-2 : Int32), x_added, r8.2, x_eR, x_et, x_vHeld, x_vRed, x_vTal, x_vLis))
set_option maxHeartbeats 8000000 in
set_option maxRecDepth 100000 in
theorem met_V_add (κ : ctx) (τ : MS) (F : Nat) {x_added : Nat → Nat → Int64} {x_asked : Nat → Int64} {x_eR : Nat → Nat → Int64} {x_et : Nat → Int64} {x_oR : Nat → Nat → Int64} {x_ot : Nat → Int64} {x_bR : Nat → Nat → Int64} {x_bD : Nat → Nat → Int64} {x_bQ : Nat → Int64} {x_bW : Nat → Int64} {x_bS : Nat → Nat → Int64} {x_bM : Nat → Nat → Int64} {x_bT : Nat → Int64} {x_bn : Int32} {x_tg : Nat → Int64} {x_tb : Int64} {x_ts : Nat → Int32} {x_fg : Nat → Int64} {x_fb : Int64} {x_fV : Nat → Nat → Int64} {x_fS : Nat → Int64} {x_fn : Int32} {x_cg : Nat → Int64} {x_cb : Int64} {x_cB : Nat → Int64} {x_cq : Int64} {x_vHeld : Int32} {x_vRed : Int32} {x_vTal : Int32} {x_vLis : Int32} (v1 : Int32) (v2 : Int32) (v3 : Int32) (v4 : Int32) {out : Int32 × (Nat → Nat → Int64) × (Nat → Int64) × (Nat → Nat → Int64) × (Nat → Int64) × Int32 × Int32 × Int32 × Int32} (h : V_add F  x_added x_asked x_eR x_et x_vHeld x_vRed x_vTal x_vLis v1 v2 v3 v4 = some out) : Mt yV_add cV_add 5 (some .int) rm_V_add κ [.ref (κ.1 15), .int v1, .int v2, .int v3, .int v4] (LM κ τ (LC κ (x_added, x_asked, x_eR, x_et, x_oR, x_ot, x_bR, x_bD, x_bQ, x_bW, x_bS, x_bM, x_bT, x_bn, x_tg, x_tb, x_ts, x_fg, x_fb, x_fV, x_fS, x_fn, x_cg, x_cb, x_cB, x_cq, x_vHeld, x_vRed, x_vTal, x_vLis))) (some (.int out.1)) (LM κ τ (LC κ (out.2.1, out.2.2.1, out.2.2.2.1, out.2.2.2.2.1, x_oR, x_ot, x_bR, x_bD, x_bQ, x_bW, x_bS, x_bM, x_bT, x_bn, x_tg, x_tb, x_ts, x_fg, x_fb, x_fV, x_fS, x_fn, x_cg, x_cb, x_cB, x_cq, out.2.2.2.2.2.1, out.2.2.2.2.2.2.1, out.2.2.2.2.2.2.2.1, out.2.2.2.2.2.2.2.2))) := by
  refine Mt.of (by decide) (Nat.le_of_ble_eq_true rfl) ?_
  intro g G Fh
  unfold V_add at h
  show J g κ 5 0 [(0, .ref (κ.1 15)), (1, .int v1), (2, .int v2), (3, .int v3), (4, .int v4)] [] (LM κ τ (LC κ (x_added, x_asked, x_eR, x_et, x_oR, x_ot, x_bR, x_bD, x_bQ, x_bW, x_bS, x_bM, x_bT, x_bn, x_tg, x_tb, x_ts, x_fg, x_fb, x_fV, x_fS, x_fn, x_cg, x_cb, x_cB, x_cq, x_vHeld, x_vRed, x_vTal, x_vLis)))
  refine w_aload_n (pc := 0) (q := 0) G dV_add_0 rfl rfl ?_
  refine w_iload_n (pc := 1) (q := 1) G dV_add_1 rfl rfl ?_
  refine w_iload_n (pc := 2) (q := 2) G dV_add_2 rfl rfl ?_
  refine w_iload_n (pc := 3) (q := 3) G dV_add_3 rfl rfl ?_
  refine w_iload (pc := 4) (q := 4) G dV_add_4 rfl ?_
  refine w_bipush (pc := 6) (v := (9 : Int32)) G dV_add_6 (by decide) ?_
  obtain ⟨r8, e8, h⟩ := bd h
  refine w_callV (pc := 8) (av := [.int v1, .int v2, .int v3, .int v4, .int (9 : Int32)]) (rest := []) (v := some (.int r8.1)) (L' := (LM κ τ (LC κ (x_added, r8.2, x_eR, x_et, x_oR, x_ot, x_bR, x_bD, x_bQ, x_bW, x_bS, x_bM, x_bT, x_bn, x_tg, x_tb, x_ts, x_fg, x_fb, x_fV, x_fS, x_fn, x_cg, x_cb, x_cB, x_cq, x_vHeld, x_vRed, x_vTal, x_vLis)))) (T := TV) (fs := fl_V κ (x_added, x_asked, x_eR, x_et, x_oR, x_ot, x_bR, x_bD, x_bQ, x_bW, x_bS, x_bM, x_bT, x_bn, x_tg, x_tb, x_ts, x_fg, x_fb, x_fV, x_fS, x_fn, x_cg, x_cb, x_cB, x_cq, x_vHeld, x_vRed, x_vTal, x_vLis)) G 15 1 12 (by decide) lb_V rfl cb_V_ask_V_add wd166 ws0 wd164 (met_V_ask κ τ F v1 v2 v3 v4 (9 : Int32)  e8) rfl rfl rfl (Nat.le_of_ble_eq_true rfl) dV_add_8 ?_
  refine w_if_ne (pc := 11) (tgt := 16) G dV_add_11 (by decide) (fun c11 => ?_) (fun c11 => ?_)
  · have h := if_t c11 h
    refine w_iconst (pc := 14) (v := (-1 : Int32)) G dV_add_14 (by decide) ?_
    obtain rfl := Option.some.inj h
    exact w_iret (pc := 15) G dV_add_15 Fh
  · have h := if_f c11 h
    refine w_aload_n (pc := 16) (q := 0) G dV_add_16 rfl rfl ?_
    refine w_get (pc := 17) (v := .int x_vHeld) (fs := fl_V κ (x_added, r8.2, x_eR, x_et, x_oR, x_ot, x_bR, x_bD, x_bQ, x_bW, x_bS, x_bM, x_bT, x_bn, x_tg, x_tb, x_ts, x_fg, x_fb, x_fV, x_fS, x_fn, x_cg, x_cb, x_cB, x_cq, x_vHeld, x_vRed, x_vTal, x_vLis)) G 15 (by decide) lb_V rfl wsV_ok 8 (by decide) wd131 gf_V_8 dV_add_17 ?_
    refine w_bipush (pc := 20) (v := (6 : Int32)) G dV_add_20 (by decide) ?_
    refine w_icmp_lt (pc := 22) (tgt := 28) G dV_add_22 (by decide) (fun c22 => ?_) (fun c22 => ?_)
    · have h := if_t c22 h
      refine w_aload_n (pc := 28) (q := 0) G dV_add_28 rfl rfl ?_
      refine w_get (pc := 29) (v := .ref (κ.1 23)) (fs := fl_V κ (x_added, r8.2, x_eR, x_et, x_oR, x_ot, x_bR, x_bD, x_bQ, x_bW, x_bS, x_bM, x_bT, x_bn, x_tg, x_tb, x_ts, x_fg, x_fb, x_fV, x_fS, x_fn, x_cg, x_cb, x_cB, x_cq, x_vHeld, x_vRed, x_vTal, x_vLis)) G 15 (by decide) lb_V rfl wsV_ok 1 (by decide) wd124 gf_V_1 dV_add_29 ?_
      refine w_aload_n (pc := 32) (q := 0) G dV_add_32 rfl rfl ?_
      refine w_get (pc := 33) (v := .ref (κ.1 16)) (fs := fl_V κ (x_added, r8.2, x_eR, x_et, x_oR, x_ot, x_bR, x_bD, x_bQ, x_bW, x_bS, x_bM, x_bT, x_bn, x_tg, x_tb, x_ts, x_fg, x_fb, x_fV, x_fS, x_fn, x_cg, x_cb, x_cB, x_cq, x_vHeld, x_vRed, x_vTal, x_vLis)) G 15 (by decide) lb_V rfl wsV_ok 0 (by decide) wd123 gf_V_0 dV_add_33 ?_
      refine w_aload_n (pc := 36) (q := 0) G dV_add_36 rfl rfl ?_
      refine w_get (pc := 37) (v := .int x_vHeld) (fs := fl_V κ (x_added, r8.2, x_eR, x_et, x_oR, x_ot, x_bR, x_bD, x_bQ, x_bW, x_bS, x_bM, x_bT, x_bn, x_tg, x_tb, x_ts, x_fg, x_fb, x_fV, x_fS, x_fn, x_cg, x_cb, x_cB, x_cq, x_vHeld, x_vRed, x_vTal, x_vLis)) G 15 (by decide) lb_V rfl wsV_ok 8 (by decide) wd131 gf_V_8 dV_add_37 ?_
      obtain ⟨i40, h⟩ := gd_some h
      refine w_aald (pc := 40) (n := 6) (f := og κ 17 6) (b := κ.1 (17 + x_vHeld.toNatClampNeg)) G 16 (by decide) lo_added i40 (og_at (ixlt i40)) dV_add_40 ?_
      obtain ⟨r41, e41, h⟩ := bd h
      refine w_callS (pc := 41) (av := [.ref (κ.1 23), .ref (κ.1 (17 + x_vHeld.toNatClampNeg))]) (rest := []) (v := none) (L' := (LM κ τ (LC κ (va_up x_added x_vHeld.toNatClampNeg r41, r8.2, x_eR, x_et, x_oR, x_ot, x_bR, x_bD, x_bQ, x_bW, x_bS, x_bM, x_bT, x_bn, x_tg, x_tb, x_ts, x_fg, x_fb, x_fV, x_fS, x_fn, x_cg, x_cb, x_cB, x_cq, x_vHeld, x_vRed, x_vTal, x_vLis)))) G cb_V_copy_V_add wd169 wd168 (Mt.eqw (up_added (ixlt i40)) (met_V_copy κ (LM κ τ (LC κ (x_added, r8.2, x_eR, x_et, x_oR, x_ot, x_bR, x_bD, x_bQ, x_bW, x_bS, x_bM, x_bT, x_bn, x_tg, x_tb, x_ts, x_fg, x_fb, x_fV, x_fS, x_fn, x_cg, x_cb, x_cB, x_cq, x_vHeld, x_vRed, x_vTal, x_vLis))) F  23 (by decide) r8.2 lk_asked (17 + x_vHeld.toNatClampNeg) (nw_added (ixlt i40)) (x_added x_vHeld.toNatClampNeg) (lk_added (ixlt i40)) (by have := (ixlt i40); omega) e41)) rfl rfl rfl (Nat.le_of_ble_eq_true rfl) dV_add_41 ?_
      refine w_aload_n (pc := 44) (q := 0) G dV_add_44 rfl rfl ?_
      refine w_dup (pc := 45) G dV_add_45 rfl ?_
      refine w_get (pc := 46) (v := .int x_vHeld) (fs := fl_V κ (va_up x_added x_vHeld.toNatClampNeg r41, r8.2, x_eR, x_et, x_oR, x_ot, x_bR, x_bD, x_bQ, x_bW, x_bS, x_bM, x_bT, x_bn, x_tg, x_tb, x_ts, x_fg, x_fb, x_fV, x_fS, x_fn, x_cg, x_cb, x_cB, x_cq, x_vHeld, x_vRed, x_vTal, x_vLis)) G 15 (by decide) lb_V rfl wsV_ok 8 (by decide) wd131 gf_V_8 dV_add_46 ?_
      refine w_iconst (pc := 49) (v := (1 : Int32)) G dV_add_49 (by decide) ?_
      refine w_iadd (pc := 50) G dV_add_50 ?_
      refine w_put (pc := 51) (fs := fl_V κ (va_up x_added x_vHeld.toNatClampNeg r41, r8.2, x_eR, x_et, x_oR, x_ot, x_bR, x_bD, x_bQ, x_bW, x_bS, x_bM, x_bT, x_bn, x_tg, x_tb, x_ts, x_fg, x_fb, x_fV, x_fS, x_fn, x_cg, x_cb, x_cB, x_cq, x_vHeld, x_vRed, x_vTal, x_vLis)) (L1 := (LM κ τ (LC κ (va_up x_added x_vHeld.toNatClampNeg r41, r8.2, x_eR, x_et, x_oR, x_ot, x_bR, x_bD, x_bQ, x_bW, x_bS, x_bM, x_bT, x_bn, x_tg, x_tb, x_ts, x_fg, x_fb, x_fV, x_fS, x_fn, x_cg, x_cb, x_cB, x_cq, (x_vHeld + (1 : Int32)), x_vRed, x_vTal, x_vLis)))) G 15 (by decide) lb_V rfl wsV_ok tyV tyV_ok nmV 8 (by decide) wd131 rfl rfl rfl (Nat.le_of_ble_eq_true rfl) dV_add_51 upf_vHeld ?_
      refine w_aload_n (pc := 54) (q := 0) G dV_add_54 rfl rfl ?_
      refine w_get (pc := 55) (v := .ref (κ.1 24)) (fs := fl_V κ (va_up x_added x_vHeld.toNatClampNeg r41, r8.2, x_eR, x_et, x_oR, x_ot, x_bR, x_bD, x_bQ, x_bW, x_bS, x_bM, x_bT, x_bn, x_tg, x_tb, x_ts, x_fg, x_fb, x_fV, x_fS, x_fn, x_cg, x_cb, x_cB, x_cq, (x_vHeld + (1 : Int32)), x_vRed, x_vTal, x_vLis)) G 15 (by decide) lb_V rfl wsV_ok 2 (by decide) wd125 gf_V_2 dV_add_55 ?_
      refine w_aload_n (pc := 58) (q := 0) G dV_add_58 rfl rfl ?_
      refine w_get (pc := 59) (v := .ref (κ.1 23)) (fs := fl_V κ (va_up x_added x_vHeld.toNatClampNeg r41, r8.2, x_eR, x_et, x_oR, x_ot, x_bR, x_bD, x_bQ, x_bW, x_bS, x_bM, x_bT, x_bn, x_tg, x_tb, x_ts, x_fg, x_fb, x_fV, x_fS, x_fn, x_cg, x_cb, x_cB, x_cq, (x_vHeld + (1 : Int32)), x_vRed, x_vTal, x_vLis)) G 15 (by decide) lb_V rfl wsV_ok 1 (by decide) wd124 gf_V_1 dV_add_59 ?_
      obtain ⟨r62, e62, h⟩ := bd h
      refine w_callV (pc := 62) (av := [.ref (κ.1 23)]) (rest := []) (v := none) (L' := (LM κ τ (LC κ (va_up x_added x_vHeld.toNatClampNeg r41, r8.2, r62.1, r62.2, x_oR, x_ot, x_bR, x_bD, x_bQ, x_bW, x_bS, x_bM, x_bT, x_bn, x_tg, x_tb, x_ts, x_fg, x_fb, x_fV, x_fS, x_fn, x_cg, x_cb, x_cB, x_cq, (x_vHeld + (1 : Int32)), x_vRed, x_vTal, x_vLis)))) (T := TE) (fs := fl_E κ (va_up x_added x_vHeld.toNatClampNeg r41, r8.2, x_eR, x_et, x_oR, x_ot, x_bR, x_bD, x_bQ, x_bW, x_bS, x_bM, x_bT, x_bn, x_tg, x_tb, x_ts, x_fg, x_fb, x_fV, x_fS, x_fn, x_cg, x_cb, x_cB, x_cq, (x_vHeld + (1 : Int32)), x_vRed, x_vTal, x_vLis)) G 24 2 2 (by decide) lb_E rfl cb_E_include_V_add wd175 wd176 wd174 (met_E_include κ τ F  23 (by decide) r8.2 (fun _ _ => lk_asked) (by decide) e62) rfl rfl rfl (Nat.le_of_ble_eq_true rfl) dV_add_62 ?_
      refine w_aload_n (pc := 65) (q := 0) G dV_add_65 rfl rfl ?_
      obtain ⟨r66, e66, h⟩ := bd h
      refine w_callV (pc := 66) (av := []) (rest := []) (v := none) (L' := (LM κ τ (LC κ (va_up x_added x_vHeld.toNatClampNeg r41, r8.2, r62.1, r62.2, x_oR, x_ot, x_bR, x_bD, x_bQ, x_bW, x_bS, x_bM, x_bT, x_bn, x_tg, x_tb, x_ts, x_fg, x_fb, x_fV, x_fS, x_fn, x_cg, x_cb, x_cB, x_cq, (x_vHeld + (1 : Int32)), r66.1, r66.2.1, r66.2.2)))) (T := TV) (fs := fl_V κ (va_up x_added x_vHeld.toNatClampNeg r41, r8.2, r62.1, r62.2, x_oR, x_ot, x_bR, x_bD, x_bQ, x_bW, x_bS, x_bM, x_bT, x_bn, x_tg, x_tb, x_ts, x_fg, x_fb, x_fV, x_fS, x_fn, x_cg, x_cb, x_cB, x_cq, (x_vHeld + (1 : Int32)), x_vRed, x_vTal, x_vLis)) G 15 1 12 (by decide) lb_V rfl cb_V_forget_V_add wd201 ws3 wd199 (met_V_forget κ τ F   e66) rfl rfl rfl (Nat.le_of_ble_eq_true rfl) dV_add_66 ?_
      refine w_aload_n (pc := 69) (q := 0) G dV_add_69 rfl rfl ?_
      refine w_get (pc := 70) (v := .int (x_vHeld + (1 : Int32))) (fs := fl_V κ (va_up x_added x_vHeld.toNatClampNeg r41, r8.2, r62.1, r62.2, x_oR, x_ot, x_bR, x_bD, x_bQ, x_bW, x_bS, x_bM, x_bT, x_bn, x_tg, x_tb, x_ts, x_fg, x_fb, x_fV, x_fS, x_fn, x_cg, x_cb, x_cB, x_cq, (x_vHeld + (1 : Int32)), r66.1, r66.2.1, r66.2.2)) G 15 (by decide) lb_V rfl wsV_ok 8 (by decide) wd131 gf_V_8 dV_add_70 ?_
      refine w_iconst (pc := 73) (v := (1 : Int32)) G dV_add_73 (by decide) ?_
      refine w_isub (pc := 74) G dV_add_74 ?_
      obtain rfl := Option.some.inj h
      exact w_iret (pc := 75) G dV_add_75 Fh
    · have h := if_f c22 h
      refine w_bipush (pc := 25) (v := (-2 : Int32)) G dV_add_25 (by decide) ?_
      obtain rfl := Option.some.inj h
      exact w_iret (pc := 27) G dV_add_27 Fh
def rm_V_drop : Room := { frames := 4, cells := 0, slots := 0, locals := 136 }
theorem dV_drop_0 : decode cV_drop 0 = .ok (.aload_n 0, 1) := by decide +kernel
theorem dV_drop_1 : decode cV_drop 1 = .ok (.getfield 56, 3) := by decide +kernel
theorem dV_drop_4 : decode cV_drop 4 = .ok (.ifCond .ne 5, 3) := by decide +kernel
theorem dV_drop_7 : decode cV_drop 7 = .ok (.iconst 0, 1) := by decide +kernel
theorem dV_drop_8 : decode cV_drop 8 = .ok (.ireturn, 1) := by decide +kernel
theorem dV_drop_9 : decode cV_drop 9 = .ok (.aload_n 0, 1) := by decide +kernel
theorem dV_drop_10 : decode cV_drop 10 = .ok (.dup, 1) := by decide +kernel
theorem dV_drop_11 : decode cV_drop 11 = .ok (.getfield 56, 3) := by decide +kernel
theorem dV_drop_14 : decode cV_drop 14 = .ok (.iconst 1, 1) := by decide +kernel
theorem dV_drop_15 : decode cV_drop 15 = .ok (.isub, 1) := by decide +kernel
theorem dV_drop_16 : decode cV_drop 16 = .ok (.putfield 56, 3) := by decide +kernel
theorem dV_drop_19 : decode cV_drop 19 = .ok (.aload_n 0, 1) := by decide +kernel
theorem dV_drop_20 : decode cV_drop 20 = .ok (.aload_n 0, 1) := by decide +kernel
theorem dV_drop_21 : decode cV_drop 21 = .ok (.getfield 21, 3) := by decide +kernel
theorem dV_drop_24 : decode cV_drop 24 = .ok (.bipush 6, 2) := by decide +kernel
theorem dV_drop_26 : decode cV_drop 26 = .ok (.invokevirtual 75, 3) := by decide +kernel
theorem dV_drop_29 : decode cV_drop 29 = .ok (.aload_n 0, 1) := by decide +kernel
theorem dV_drop_30 : decode cV_drop 30 = .ok (.invokevirtual 72, 3) := by decide +kernel
theorem dV_drop_33 : decode cV_drop 33 = .ok (.iconst 1, 1) := by decide +kernel
theorem dV_drop_34 : decode cV_drop 34 = .ok (.ireturn, 1) := by decide +kernel
theorem cb_V_forget_V_drop : CB yV_forget cV_forget 1 none rm_V_forget rm_V_drop 0 := ⟨wd202, wd1, by decide +kernel, rfl, rfl, by decide⟩
theorem cb_V_gather_E_V_drop : CB yV_gather cV_gather 4 none rm_V_gather_E rm_V_drop 2 := ⟨wd210, wd1, by decide +kernel, rfl, rfl, by decide⟩
noncomputable def V_drop (F : Nat)  (x_added : Nat → Nat → Int64) (x_eR : Nat → Nat → Int64) (x_et : Nat → Int64) (x_vHeld : Int32) (x_vRed : Int32) (x_vTal : Int32) (x_vLis : Int32)  : Option (Int32 × (Nat → Nat → Int64) × (Nat → Int64) × Int32 × Int32 × Int32 × Int32) := if x_vHeld = 0 then some ((0 : Int32), x_eR, x_et, x_vHeld, x_vRed, x_vTal, x_vLis) else (V_gather F x_added x_eR x_et (x_vHeld - (1 : Int32)) (6 : Int32)).bind (fun r26 => (V_forget F x_vRed x_vTal x_vLis ).bind (fun r30 => some ((1 : Int32), r26.1, r26.2, (x_vHeld - (1 : Int32)), r30.1, r30.2.1, r30.2.2)))
set_option maxHeartbeats 8000000 in
set_option maxRecDepth 100000 in
theorem met_V_drop (κ : ctx) (τ : MS) (F : Nat) {x_added : Nat → Nat → Int64} {x_asked : Nat → Int64} {x_eR : Nat → Nat → Int64} {x_et : Nat → Int64} {x_oR : Nat → Nat → Int64} {x_ot : Nat → Int64} {x_bR : Nat → Nat → Int64} {x_bD : Nat → Nat → Int64} {x_bQ : Nat → Int64} {x_bW : Nat → Int64} {x_bS : Nat → Nat → Int64} {x_bM : Nat → Nat → Int64} {x_bT : Nat → Int64} {x_bn : Int32} {x_tg : Nat → Int64} {x_tb : Int64} {x_ts : Nat → Int32} {x_fg : Nat → Int64} {x_fb : Int64} {x_fV : Nat → Nat → Int64} {x_fS : Nat → Int64} {x_fn : Int32} {x_cg : Nat → Int64} {x_cb : Int64} {x_cB : Nat → Int64} {x_cq : Int64} {x_vHeld : Int32} {x_vRed : Int32} {x_vTal : Int32} {x_vLis : Int32}  {out : Int32 × (Nat → Nat → Int64) × (Nat → Int64) × Int32 × Int32 × Int32 × Int32} (h : V_drop F  x_added x_eR x_et x_vHeld x_vRed x_vTal x_vLis  = some out) : Mt yV_drop cV_drop 1 (some .boolean) rm_V_drop κ [.ref (κ.1 15)] (LM κ τ (LC κ (x_added, x_asked, x_eR, x_et, x_oR, x_ot, x_bR, x_bD, x_bQ, x_bW, x_bS, x_bM, x_bT, x_bn, x_tg, x_tb, x_ts, x_fg, x_fb, x_fV, x_fS, x_fn, x_cg, x_cb, x_cB, x_cq, x_vHeld, x_vRed, x_vTal, x_vLis))) (some (.int out.1)) (LM κ τ (LC κ (x_added, x_asked, out.2.1, out.2.2.1, x_oR, x_ot, x_bR, x_bD, x_bQ, x_bW, x_bS, x_bM, x_bT, x_bn, x_tg, x_tb, x_ts, x_fg, x_fb, x_fV, x_fS, x_fn, x_cg, x_cb, x_cB, x_cq, out.2.2.2.1, out.2.2.2.2.1, out.2.2.2.2.2.1, out.2.2.2.2.2.2))) := by
  refine Mt.of (by decide) (Nat.le_of_ble_eq_true rfl) ?_
  intro g G Fh
  unfold V_drop at h
  show J g κ 1 0 [(0, .ref (κ.1 15))] [] (LM κ τ (LC κ (x_added, x_asked, x_eR, x_et, x_oR, x_ot, x_bR, x_bD, x_bQ, x_bW, x_bS, x_bM, x_bT, x_bn, x_tg, x_tb, x_ts, x_fg, x_fb, x_fV, x_fS, x_fn, x_cg, x_cb, x_cB, x_cq, x_vHeld, x_vRed, x_vTal, x_vLis)))
  refine w_aload_n (pc := 0) (q := 0) G dV_drop_0 rfl rfl ?_
  refine w_get (pc := 1) (v := .int x_vHeld) (fs := fl_V κ (x_added, x_asked, x_eR, x_et, x_oR, x_ot, x_bR, x_bD, x_bQ, x_bW, x_bS, x_bM, x_bT, x_bn, x_tg, x_tb, x_ts, x_fg, x_fb, x_fV, x_fS, x_fn, x_cg, x_cb, x_cB, x_cq, x_vHeld, x_vRed, x_vTal, x_vLis)) G 15 (by decide) lb_V rfl wsV_ok 8 (by decide) wd131 gf_V_8 dV_drop_1 ?_
  refine w_if_ne (pc := 4) (tgt := 9) G dV_drop_4 (by decide) (fun c4 => ?_) (fun c4 => ?_)
  · have h := if_t c4 h
    refine w_iconst (pc := 7) (v := (0 : Int32)) G dV_drop_7 (by decide) ?_
    obtain rfl := Option.some.inj h
    exact w_zret (pc := 8) G rfl dV_drop_8 Fh
  · have h := if_f c4 h
    refine w_aload_n (pc := 9) (q := 0) G dV_drop_9 rfl rfl ?_
    refine w_dup (pc := 10) G dV_drop_10 rfl ?_
    refine w_get (pc := 11) (v := .int x_vHeld) (fs := fl_V κ (x_added, x_asked, x_eR, x_et, x_oR, x_ot, x_bR, x_bD, x_bQ, x_bW, x_bS, x_bM, x_bT, x_bn, x_tg, x_tb, x_ts, x_fg, x_fb, x_fV, x_fS, x_fn, x_cg, x_cb, x_cB, x_cq, x_vHeld, x_vRed, x_vTal, x_vLis)) G 15 (by decide) lb_V rfl wsV_ok 8 (by decide) wd131 gf_V_8 dV_drop_11 ?_
    refine w_iconst (pc := 14) (v := (1 : Int32)) G dV_drop_14 (by decide) ?_
    refine w_isub (pc := 15) G dV_drop_15 ?_
    refine w_put (pc := 16) (fs := fl_V κ (x_added, x_asked, x_eR, x_et, x_oR, x_ot, x_bR, x_bD, x_bQ, x_bW, x_bS, x_bM, x_bT, x_bn, x_tg, x_tb, x_ts, x_fg, x_fb, x_fV, x_fS, x_fn, x_cg, x_cb, x_cB, x_cq, x_vHeld, x_vRed, x_vTal, x_vLis)) (L1 := (LM κ τ (LC κ (x_added, x_asked, x_eR, x_et, x_oR, x_ot, x_bR, x_bD, x_bQ, x_bW, x_bS, x_bM, x_bT, x_bn, x_tg, x_tb, x_ts, x_fg, x_fb, x_fV, x_fS, x_fn, x_cg, x_cb, x_cB, x_cq, (x_vHeld - (1 : Int32)), x_vRed, x_vTal, x_vLis)))) G 15 (by decide) lb_V rfl wsV_ok tyV tyV_ok nmV 8 (by decide) wd131 rfl rfl rfl (Nat.le_of_ble_eq_true rfl) dV_drop_16 upf_vHeld ?_
    refine w_aload_n (pc := 19) (q := 0) G dV_drop_19 rfl rfl ?_
    refine w_aload_n (pc := 20) (q := 0) G dV_drop_20 rfl rfl ?_
    refine w_get (pc := 21) (v := .ref (κ.1 24)) (fs := fl_V κ (x_added, x_asked, x_eR, x_et, x_oR, x_ot, x_bR, x_bD, x_bQ, x_bW, x_bS, x_bM, x_bT, x_bn, x_tg, x_tb, x_ts, x_fg, x_fb, x_fV, x_fS, x_fn, x_cg, x_cb, x_cB, x_cq, (x_vHeld - (1 : Int32)), x_vRed, x_vTal, x_vLis)) G 15 (by decide) lb_V rfl wsV_ok 2 (by decide) wd125 gf_V_2 dV_drop_21 ?_
    refine w_bipush (pc := 24) (v := (6 : Int32)) G dV_drop_24 (by decide) ?_
    obtain ⟨r26, e26, h⟩ := bd h
    refine w_callV (pc := 26) (av := [.ref (κ.1 24), .int (6 : Int32)]) (rest := []) (v := none) (L' := (LM κ τ (LC κ (x_added, x_asked, r26.1, r26.2, x_oR, x_ot, x_bR, x_bD, x_bQ, x_bW, x_bS, x_bM, x_bT, x_bn, x_tg, x_tb, x_ts, x_fg, x_fb, x_fV, x_fS, x_fn, x_cg, x_cb, x_cB, x_cq, (x_vHeld - (1 : Int32)), x_vRed, x_vTal, x_vLis)))) (T := TV) (fs := fl_V κ (x_added, x_asked, x_eR, x_et, x_oR, x_ot, x_bR, x_bD, x_bQ, x_bW, x_bS, x_bM, x_bT, x_bn, x_tg, x_tb, x_ts, x_fg, x_fb, x_fV, x_fS, x_fn, x_cg, x_cb, x_cB, x_cq, (x_vHeld - (1 : Int32)), x_vRed, x_vTal, x_vLis)) G 15 1 12 (by decide) lb_V rfl cb_V_gather_E_V_drop wd209 ws4 wd207 (met_V_gather_E κ τ F (6 : Int32)  e26) rfl rfl rfl (Nat.le_of_ble_eq_true rfl) dV_drop_26 ?_
    refine w_aload_n (pc := 29) (q := 0) G dV_drop_29 rfl rfl ?_
    obtain ⟨r30, e30, h⟩ := bd h
    refine w_callV (pc := 30) (av := []) (rest := []) (v := none) (L' := (LM κ τ (LC κ (x_added, x_asked, r26.1, r26.2, x_oR, x_ot, x_bR, x_bD, x_bQ, x_bW, x_bS, x_bM, x_bT, x_bn, x_tg, x_tb, x_ts, x_fg, x_fb, x_fV, x_fS, x_fn, x_cg, x_cb, x_cB, x_cq, (x_vHeld - (1 : Int32)), r30.1, r30.2.1, r30.2.2)))) (T := TV) (fs := fl_V κ (x_added, x_asked, r26.1, r26.2, x_oR, x_ot, x_bR, x_bD, x_bQ, x_bW, x_bS, x_bM, x_bT, x_bn, x_tg, x_tb, x_ts, x_fg, x_fb, x_fV, x_fS, x_fn, x_cg, x_cb, x_cB, x_cq, (x_vHeld - (1 : Int32)), x_vRed, x_vTal, x_vLis)) G 15 1 12 (by decide) lb_V rfl cb_V_forget_V_drop wd201 ws3 wd199 (met_V_forget κ τ F   e30) rfl rfl rfl (Nat.le_of_ble_eq_true rfl) dV_drop_30 ?_
    refine w_iconst (pc := 33) (v := (1 : Int32)) G dV_drop_33 (by decide) ?_
    obtain rfl := Option.some.inj h
    exact w_zret (pc := 34) G rfl dV_drop_34 Fh
def rm_V_readyBasis : Room := { frames := 6, cells := 0, slots := 0, locals := 183 }
theorem dV_readyBasis_0 : decode cV_readyBasis 0 = .ok (.aload_n 0, 1) := by decide +kernel
theorem dV_readyBasis_1 : decode cV_readyBasis 1 = .ok (.getfield 141, 3) := by decide +kernel
theorem dV_readyBasis_4 : decode cV_readyBasis 4 = .ok (.ifCond .ne 19, 3) := by decide +kernel
theorem dV_readyBasis_7 : decode cV_readyBasis 7 = .ok (.aload_n 0, 1) := by decide +kernel
theorem dV_readyBasis_8 : decode cV_readyBasis 8 = .ok (.getfield 31, 3) := by decide +kernel
theorem dV_readyBasis_11 : decode cV_readyBasis 11 = .ok (.aload_n 0, 1) := by decide +kernel
theorem dV_readyBasis_12 : decode cV_readyBasis 12 = .ok (.getfield 21, 3) := by decide +kernel
theorem dV_readyBasis_15 : decode cV_readyBasis 15 = .ok (.invokevirtual 144, 3) := by decide +kernel
theorem dV_readyBasis_18 : decode cV_readyBasis 18 = .ok (.aload_n 0, 1) := by decide +kernel
theorem dV_readyBasis_19 : decode cV_readyBasis 19 = .ok (.iconst 1, 1) := by decide +kernel
theorem dV_readyBasis_20 : decode cV_readyBasis 20 = .ok (.putfield 141, 3) := by decide +kernel
theorem dV_readyBasis_23 : decode cV_readyBasis 23 = .ok (.aload_n 0, 1) := by decide +kernel
theorem dV_readyBasis_24 : decode cV_readyBasis 24 = .ok (.getfield 31, 3) := by decide +kernel
theorem dV_readyBasis_27 : decode cV_readyBasis 27 = .ok (.areturn, 1) := by decide +kernel
theorem cb_B_take_V_readyBasis : CB yB_take cB_take 3 none rm_B_take rm_V_readyBasis 1 := ⟨wd241, wd3, by decide +kernel, rfl, rfl, by decide⟩
noncomputable def V_readyBasis (F : Nat)  (x_eR : Nat → Nat → Int64) (x_bR : Nat → Nat → Int64) (x_bD : Nat → Nat → Int64) (x_bQ : Nat → Int64) (x_bW : Nat → Int64) (x_bT : Nat → Int64) (x_bn : Int32) (x_vRed : Int32)  : Option ((Nat → Nat → Int64) × (Nat → Nat → Int64) × (Nat → Int64) × (Nat → Int64) × (Nat → Int64) × Int32 × Int32) := if x_vRed = 0 then (B_take F x_eR x_bR x_bD x_bQ x_bW x_bT x_bn ).bind (fun r15 => some (r15.1, r15.2.1, r15.2.2.1, r15.2.2.2.1, r15.2.2.2.2.1, r15.2.2.2.2.2, (1 : Int32))) else some (x_bR, x_bD, x_bQ, x_bW, x_bT, x_bn, x_vRed)
set_option maxHeartbeats 8000000 in
set_option maxRecDepth 100000 in
theorem met_V_readyBasis (κ : ctx) (τ : MS) (F : Nat) {x_added : Nat → Nat → Int64} {x_asked : Nat → Int64} {x_eR : Nat → Nat → Int64} {x_et : Nat → Int64} {x_oR : Nat → Nat → Int64} {x_ot : Nat → Int64} {x_bR : Nat → Nat → Int64} {x_bD : Nat → Nat → Int64} {x_bQ : Nat → Int64} {x_bW : Nat → Int64} {x_bS : Nat → Nat → Int64} {x_bM : Nat → Nat → Int64} {x_bT : Nat → Int64} {x_bn : Int32} {x_tg : Nat → Int64} {x_tb : Int64} {x_ts : Nat → Int32} {x_fg : Nat → Int64} {x_fb : Int64} {x_fV : Nat → Nat → Int64} {x_fS : Nat → Int64} {x_fn : Int32} {x_cg : Nat → Int64} {x_cb : Int64} {x_cB : Nat → Int64} {x_cq : Int64} {x_vHeld : Int32} {x_vRed : Int32} {x_vTal : Int32} {x_vLis : Int32}  {out : (Nat → Nat → Int64) × (Nat → Nat → Int64) × (Nat → Int64) × (Nat → Int64) × (Nat → Int64) × Int32 × Int32} (h : V_readyBasis F  x_eR x_bR x_bD x_bQ x_bW x_bT x_bn x_vRed  = some out) : Mt yV_readyBasis cV_readyBasis 1 (some (.object "ShortVectors$Basis")) rm_V_readyBasis κ [.ref (κ.1 15)] (LM κ τ (LC κ (x_added, x_asked, x_eR, x_et, x_oR, x_ot, x_bR, x_bD, x_bQ, x_bW, x_bS, x_bM, x_bT, x_bn, x_tg, x_tb, x_ts, x_fg, x_fb, x_fV, x_fS, x_fn, x_cg, x_cb, x_cB, x_cq, x_vHeld, x_vRed, x_vTal, x_vLis))) (some (.ref (κ.1 38))) (LM κ τ (LC κ (x_added, x_asked, x_eR, x_et, x_oR, x_ot, out.1, out.2.1, out.2.2.1, out.2.2.2.1, x_bS, x_bM, out.2.2.2.2.1, out.2.2.2.2.2.1, x_tg, x_tb, x_ts, x_fg, x_fb, x_fV, x_fS, x_fn, x_cg, x_cb, x_cB, x_cq, x_vHeld, out.2.2.2.2.2.2, x_vTal, x_vLis))) := by
  refine Mt.of (by decide) (Nat.le_of_ble_eq_true rfl) ?_
  intro g G Fh
  unfold V_readyBasis at h
  show J g κ 1 0 [(0, .ref (κ.1 15))] [] (LM κ τ (LC κ (x_added, x_asked, x_eR, x_et, x_oR, x_ot, x_bR, x_bD, x_bQ, x_bW, x_bS, x_bM, x_bT, x_bn, x_tg, x_tb, x_ts, x_fg, x_fb, x_fV, x_fS, x_fn, x_cg, x_cb, x_cB, x_cq, x_vHeld, x_vRed, x_vTal, x_vLis)))
  refine w_aload_n (pc := 0) (q := 0) G dV_readyBasis_0 rfl rfl ?_
  refine w_get (pc := 1) (v := .int x_vRed) (fs := fl_V κ (x_added, x_asked, x_eR, x_et, x_oR, x_ot, x_bR, x_bD, x_bQ, x_bW, x_bS, x_bM, x_bT, x_bn, x_tg, x_tb, x_ts, x_fg, x_fb, x_fV, x_fS, x_fn, x_cg, x_cb, x_cB, x_cq, x_vHeld, x_vRed, x_vTal, x_vLis)) G 15 (by decide) lb_V rfl wsV_ok 9 (by decide) wd132 gf_V_9 dV_readyBasis_1 ?_
  refine w_if_ne (pc := 4) (tgt := 23) G dV_readyBasis_4 (by decide) (fun c4 => ?_) (fun c4 => ?_)
  · have h := if_t c4 h
    refine w_aload_n (pc := 7) (q := 0) G dV_readyBasis_7 rfl rfl ?_
    refine w_get (pc := 8) (v := .ref (κ.1 38)) (fs := fl_V κ (x_added, x_asked, x_eR, x_et, x_oR, x_ot, x_bR, x_bD, x_bQ, x_bW, x_bS, x_bM, x_bT, x_bn, x_tg, x_tb, x_ts, x_fg, x_fb, x_fV, x_fS, x_fn, x_cg, x_cb, x_cB, x_cq, x_vHeld, x_vRed, x_vTal, x_vLis)) G 15 (by decide) lb_V rfl wsV_ok 4 (by decide) wd127 gf_V_4 dV_readyBasis_8 ?_
    refine w_aload_n (pc := 11) (q := 0) G dV_readyBasis_11 rfl rfl ?_
    refine w_get (pc := 12) (v := .ref (κ.1 24)) (fs := fl_V κ (x_added, x_asked, x_eR, x_et, x_oR, x_ot, x_bR, x_bD, x_bQ, x_bW, x_bS, x_bM, x_bT, x_bn, x_tg, x_tb, x_ts, x_fg, x_fb, x_fV, x_fS, x_fn, x_cg, x_cb, x_cB, x_cq, x_vHeld, x_vRed, x_vTal, x_vLis)) G 15 (by decide) lb_V rfl wsV_ok 2 (by decide) wd125 gf_V_2 dV_readyBasis_12 ?_
    obtain ⟨r15, e15, h⟩ := bd h
    refine w_callV (pc := 15) (av := [.ref (κ.1 24)]) (rest := []) (v := none) (L' := (LM κ τ (LC κ (x_added, x_asked, x_eR, x_et, x_oR, x_ot, r15.1, r15.2.1, r15.2.2.1, r15.2.2.2.1, x_bS, x_bM, r15.2.2.2.2.1, r15.2.2.2.2.2, x_tg, x_tb, x_ts, x_fg, x_fb, x_fV, x_fS, x_fn, x_cg, x_cb, x_cB, x_cq, x_vHeld, x_vRed, x_vTal, x_vLis)))) (T := TB) (fs := fl_B κ (x_added, x_asked, x_eR, x_et, x_oR, x_ot, x_bR, x_bD, x_bQ, x_bW, x_bS, x_bM, x_bT, x_bn, x_tg, x_tb, x_ts, x_fg, x_fb, x_fV, x_fS, x_fn, x_cg, x_cb, x_cB, x_cq, x_vHeld, x_vRed, x_vTal, x_vLis)) G 38 3 8 (by decide) lb_B rfl cb_B_take_V_readyBasis wd239 wd240 wd238 (met_B_take κ τ F   e15) rfl rfl rfl (Nat.le_of_ble_eq_true rfl) dV_readyBasis_15 ?_
    refine w_aload_n (pc := 18) (q := 0) G dV_readyBasis_18 rfl rfl ?_
    refine w_iconst (pc := 19) (v := (1 : Int32)) G dV_readyBasis_19 (by decide) ?_
    refine w_put (pc := 20) (fs := fl_V κ (x_added, x_asked, x_eR, x_et, x_oR, x_ot, r15.1, r15.2.1, r15.2.2.1, r15.2.2.2.1, x_bS, x_bM, r15.2.2.2.2.1, r15.2.2.2.2.2, x_tg, x_tb, x_ts, x_fg, x_fb, x_fV, x_fS, x_fn, x_cg, x_cb, x_cB, x_cq, x_vHeld, x_vRed, x_vTal, x_vLis)) (L1 := (LM κ τ (LC κ (x_added, x_asked, x_eR, x_et, x_oR, x_ot, r15.1, r15.2.1, r15.2.2.1, r15.2.2.2.1, x_bS, x_bM, r15.2.2.2.2.1, r15.2.2.2.2.2, x_tg, x_tb, x_ts, x_fg, x_fb, x_fV, x_fS, x_fn, x_cg, x_cb, x_cB, x_cq, x_vHeld, (1 : Int32), x_vTal, x_vLis)))) G 15 (by decide) lb_V rfl wsV_ok tyV tyV_ok nmV 9 (by decide) wd132 rfl rfl rfl (Nat.le_of_ble_eq_true rfl) dV_readyBasis_20 upf_vRed ?_
    refine w_aload_n (pc := 23) (q := 0) G dV_readyBasis_23 rfl rfl ?_
    refine w_get (pc := 24) (v := .ref (κ.1 38)) (fs := fl_V κ (x_added, x_asked, x_eR, x_et, x_oR, x_ot, r15.1, r15.2.1, r15.2.2.1, r15.2.2.2.1, x_bS, x_bM, r15.2.2.2.2.1, r15.2.2.2.2.2, x_tg, x_tb, x_ts, x_fg, x_fb, x_fV, x_fS, x_fn, x_cg, x_cb, x_cB, x_cq, x_vHeld, (1 : Int32), x_vTal, x_vLis)) G 15 (by decide) lb_V rfl wsV_ok 4 (by decide) wd127 gf_V_4 dV_readyBasis_24 ?_
    obtain rfl := Option.some.inj h
    exact w_aret (pc := 27) G (Or.inl ⟨_, rfl⟩) dV_readyBasis_27 Fh
  · have h := if_f c4 h
    refine w_aload_n (pc := 23) (q := 0) G dV_readyBasis_23 rfl rfl ?_
    refine w_get (pc := 24) (v := .ref (κ.1 38)) (fs := fl_V κ (x_added, x_asked, x_eR, x_et, x_oR, x_ot, x_bR, x_bD, x_bQ, x_bW, x_bS, x_bM, x_bT, x_bn, x_tg, x_tb, x_ts, x_fg, x_fb, x_fV, x_fS, x_fn, x_cg, x_cb, x_cB, x_cq, x_vHeld, x_vRed, x_vTal, x_vLis)) G 15 (by decide) lb_V rfl wsV_ok 4 (by decide) wd127 gf_V_4 dV_readyBasis_24 ?_
    obtain rfl := Option.some.inj h
    exact w_aret (pc := 27) G (Or.inl ⟨_, rfl⟩) dV_readyBasis_27 Fh
def rm_V_volume : Room := { frames := 7, cells := 0, slots := 0, locals := 203 }
theorem dV_volume_0 : decode cV_volume 0 = .ok (.aload_n 0, 1) := by decide +kernel
theorem dV_volume_1 : decode cV_volume 1 = .ok (.invokevirtual 83, 3) := by decide +kernel
theorem dV_volume_4 : decode cV_volume 4 = .ok (.invokevirtual 87, 3) := by decide +kernel
theorem dV_volume_7 : decode cV_volume 7 = .ok (.lreturn, 1) := by decide +kernel
theorem cb_V_readyBasis_V_volume : CB yV_readyBasis cV_readyBasis 1 (some (.object "ShortVectors$Basis")) rm_V_readyBasis rm_V_volume 0 := ⟨wd237, wd1, by decide +kernel, rfl, rfl, by decide⟩
theorem cb_B_volumeSquared_V_volume : CB yB_volumeSquared cB_volumeSquared 4 (some .long) rm_B_volumeSquared rm_V_volume 0 := ⟨wd308, wd3, by decide +kernel, rfl, rfl, by decide⟩
noncomputable def V_volume (F : Nat)  (x_eR : Nat → Nat → Int64) (x_bR : Nat → Nat → Int64) (x_bD : Nat → Nat → Int64) (x_bQ : Nat → Int64) (x_bW : Nat → Int64) (x_bM : Nat → Nat → Int64) (x_bT : Nat → Int64) (x_bn : Int32) (x_vRed : Int32)  : Option (Int64 × (Nat → Nat → Int64) × (Nat → Nat → Int64) × (Nat → Int64) × (Nat → Int64) × (Nat → Nat → Int64) × (Nat → Int64) × Int32 × Int32) := (V_readyBasis F x_eR x_bR x_bD x_bQ x_bW x_bT x_bn x_vRed ).bind (fun r1 => (B_volumeSquared F r1.1 x_bM r1.2.2.2.2.2.1 ).bind (fun r4 => some (r4.1, r1.1, r1.2.1, r1.2.2.1, r1.2.2.2.1, r4.2, r1.2.2.2.2.1, r1.2.2.2.2.2.1, r1.2.2.2.2.2.2)))
set_option maxHeartbeats 8000000 in
set_option maxRecDepth 100000 in
theorem met_V_volume (κ : ctx) (τ : MS) (F : Nat) {x_added : Nat → Nat → Int64} {x_asked : Nat → Int64} {x_eR : Nat → Nat → Int64} {x_et : Nat → Int64} {x_oR : Nat → Nat → Int64} {x_ot : Nat → Int64} {x_bR : Nat → Nat → Int64} {x_bD : Nat → Nat → Int64} {x_bQ : Nat → Int64} {x_bW : Nat → Int64} {x_bS : Nat → Nat → Int64} {x_bM : Nat → Nat → Int64} {x_bT : Nat → Int64} {x_bn : Int32} {x_tg : Nat → Int64} {x_tb : Int64} {x_ts : Nat → Int32} {x_fg : Nat → Int64} {x_fb : Int64} {x_fV : Nat → Nat → Int64} {x_fS : Nat → Int64} {x_fn : Int32} {x_cg : Nat → Int64} {x_cb : Int64} {x_cB : Nat → Int64} {x_cq : Int64} {x_vHeld : Int32} {x_vRed : Int32} {x_vTal : Int32} {x_vLis : Int32}  {out : Int64 × (Nat → Nat → Int64) × (Nat → Nat → Int64) × (Nat → Int64) × (Nat → Int64) × (Nat → Nat → Int64) × (Nat → Int64) × Int32 × Int32} (h : V_volume F  x_eR x_bR x_bD x_bQ x_bW x_bM x_bT x_bn x_vRed  = some out) : Mt yV_volume cV_volume 1 (some .long) rm_V_volume κ [.ref (κ.1 15)] (LM κ τ (LC κ (x_added, x_asked, x_eR, x_et, x_oR, x_ot, x_bR, x_bD, x_bQ, x_bW, x_bS, x_bM, x_bT, x_bn, x_tg, x_tb, x_ts, x_fg, x_fb, x_fV, x_fS, x_fn, x_cg, x_cb, x_cB, x_cq, x_vHeld, x_vRed, x_vTal, x_vLis))) (some (.long out.1)) (LM κ τ (LC κ (x_added, x_asked, x_eR, x_et, x_oR, x_ot, out.2.1, out.2.2.1, out.2.2.2.1, out.2.2.2.2.1, x_bS, out.2.2.2.2.2.1, out.2.2.2.2.2.2.1, out.2.2.2.2.2.2.2.1, x_tg, x_tb, x_ts, x_fg, x_fb, x_fV, x_fS, x_fn, x_cg, x_cb, x_cB, x_cq, x_vHeld, out.2.2.2.2.2.2.2.2, x_vTal, x_vLis))) := by
  refine Mt.of (by decide) (Nat.le_of_ble_eq_true rfl) ?_
  intro g G Fh
  unfold V_volume at h
  show J g κ 1 0 [(0, .ref (κ.1 15))] [] (LM κ τ (LC κ (x_added, x_asked, x_eR, x_et, x_oR, x_ot, x_bR, x_bD, x_bQ, x_bW, x_bS, x_bM, x_bT, x_bn, x_tg, x_tb, x_ts, x_fg, x_fb, x_fV, x_fS, x_fn, x_cg, x_cb, x_cB, x_cq, x_vHeld, x_vRed, x_vTal, x_vLis)))
  refine w_aload_n (pc := 0) (q := 0) G dV_volume_0 rfl rfl ?_
  obtain ⟨r1, e1, h⟩ := bd h
  refine w_callV (pc := 1) (av := []) (rest := []) (v := some (.ref (κ.1 38))) (L' := (LM κ τ (LC κ (x_added, x_asked, x_eR, x_et, x_oR, x_ot, r1.1, r1.2.1, r1.2.2.1, r1.2.2.2.1, x_bS, x_bM, r1.2.2.2.2.1, r1.2.2.2.2.2.1, x_tg, x_tb, x_ts, x_fg, x_fb, x_fV, x_fS, x_fn, x_cg, x_cb, x_cB, x_cq, x_vHeld, r1.2.2.2.2.2.2, x_vTal, x_vLis)))) (T := TV) (fs := fl_V κ (x_added, x_asked, x_eR, x_et, x_oR, x_ot, x_bR, x_bD, x_bQ, x_bW, x_bS, x_bM, x_bT, x_bn, x_tg, x_tb, x_ts, x_fg, x_fb, x_fV, x_fS, x_fn, x_cg, x_cb, x_cB, x_cq, x_vHeld, x_vRed, x_vTal, x_vLis)) G 15 1 12 (by decide) lb_V rfl cb_V_readyBasis_V_volume wd236 ws5 wd234 (met_V_readyBasis κ τ F   e1) rfl rfl rfl (Nat.le_of_ble_eq_true rfl) dV_volume_1 ?_
  obtain ⟨r4, e4, h⟩ := bd h
  refine w_callV (pc := 4) (av := []) (rest := []) (v := some (.long r4.1)) (L' := (LM κ τ (LC κ (x_added, x_asked, x_eR, x_et, x_oR, x_ot, r1.1, r1.2.1, r1.2.2.1, r1.2.2.2.1, x_bS, r4.2, r1.2.2.2.2.1, r1.2.2.2.2.2.1, x_tg, x_tb, x_ts, x_fg, x_fb, x_fV, x_fS, x_fn, x_cg, x_cb, x_cB, x_cq, x_vHeld, r1.2.2.2.2.2.2, x_vTal, x_vLis)))) (T := TB) (fs := fl_B κ (x_added, x_asked, x_eR, x_et, x_oR, x_ot, r1.1, r1.2.1, r1.2.2.1, r1.2.2.2.1, x_bS, x_bM, r1.2.2.2.2.1, r1.2.2.2.2.2.1, x_tg, x_tb, x_ts, x_fg, x_fb, x_fV, x_fS, x_fn, x_cg, x_cb, x_cB, x_cq, x_vHeld, r1.2.2.2.2.2.2, x_vTal, x_vLis)) G 38 3 8 (by decide) lb_B rfl cb_B_volumeSquared_V_volume wd306 wd307 wd305 (met_B_volumeSquared κ τ F   e4) rfl rfl rfl (Nat.le_of_ble_eq_true rfl) dV_volume_4 ?_
  obtain rfl := Option.some.inj h
  exact w_lret (pc := 7) G dV_volume_7 Fh
def rm_V_spare : Room := { frames := 4, cells := 0, slots := 0, locals := 149 }
theorem dV_spare_0 : decode cV_spare 0 = .ok (.iload_n 1, 1) := by decide +kernel
theorem dV_spare_1 : decode cV_spare 1 = .ok (.ifCond .lt 11, 3) := by decide +kernel
theorem dV_spare_4 : decode cV_spare 4 = .ok (.iload_n 1, 1) := by decide +kernel
theorem dV_spare_5 : decode cV_spare 5 = .ok (.aload_n 0, 1) := by decide +kernel
theorem dV_spare_6 : decode cV_spare 6 = .ok (.getfield 56, 3) := by decide +kernel
theorem dV_spare_9 : decode cV_spare 9 = .ok (.if_icmp .lt 5, 3) := by decide +kernel
theorem dV_spare_12 : decode cV_spare 12 = .ok (.iconst 0, 1) := by decide +kernel
theorem dV_spare_13 : decode cV_spare 13 = .ok (.ireturn, 1) := by decide +kernel
theorem dV_spare_14 : decode cV_spare 14 = .ok (.aload_n 0, 1) := by decide +kernel
theorem dV_spare_15 : decode cV_spare 15 = .ok (.aload_n 0, 1) := by decide +kernel
theorem dV_spare_16 : decode cV_spare 16 = .ok (.getfield 25, 3) := by decide +kernel
theorem dV_spare_19 : decode cV_spare 19 = .ok (.iload_n 1, 1) := by decide +kernel
theorem dV_spare_20 : decode cV_spare 20 = .ok (.invokevirtual 75, 3) := by decide +kernel
theorem dV_spare_23 : decode cV_spare 23 = .ok (.aload_n 0, 1) := by decide +kernel
theorem dV_spare_24 : decode cV_spare 24 = .ok (.getfield 25, 3) := by decide +kernel
theorem dV_spare_27 : decode cV_spare 27 = .ok (.aload_n 0, 1) := by decide +kernel
theorem dV_spare_28 : decode cV_spare 28 = .ok (.getfield 11, 3) := by decide +kernel
theorem dV_spare_31 : decode cV_spare 31 = .ok (.iload_n 1, 1) := by decide +kernel
theorem dV_spare_32 : decode cV_spare 32 = .ok (.aaload, 1) := by decide +kernel
theorem dV_spare_33 : decode cV_spare 33 = .ok (.invokevirtual 91, 3) := by decide +kernel
theorem dV_spare_36 : decode cV_spare 36 = .ok (.ireturn, 1) := by decide +kernel
theorem cb_V_gather_O_V_spare : CB yV_gather cV_gather 4 none rm_V_gather_O rm_V_spare 2 := ⟨wd210, wd1, by decide +kernel, rfl, rfl, by decide⟩
theorem cb_O_holds_V_spare : CB yE_holds cE_holds 2 (some .boolean) rm_O_holds rm_V_spare 1 := ⟨wd320, wd2, by decide +kernel, rfl, rfl, by decide⟩
noncomputable def V_spare (F : Nat)  (x_added : Nat → Nat → Int64) (x_oR : Nat → Nat → Int64) (x_ot : Nat → Int64) (x_vHeld : Int32) (v1 : Int32) : Option (Int32 × (Nat → Nat → Int64) × (Nat → Int64)) := if v1 < 0 then some ((0 : Int32), x_oR, x_ot) else if v1 < x_vHeld then (V_gather F x_added x_oR x_ot x_vHeld v1).bind (fun r20 => gd (vp_in v1 6) ((E_holds F r20.1 r20.2 (x_added v1.toNatClampNeg) ).bind (fun r33 => gd (narrow .boolean (.int r33.1) = .int r33.1) (some (r33.1, r20.1, r33.2))))) else some ((0 : Int32), x_oR, x_ot)
set_option maxHeartbeats 8000000 in
set_option maxRecDepth 100000 in
theorem met_V_spare (κ : ctx) (τ : MS) (F : Nat) {x_added : Nat → Nat → Int64} {x_asked : Nat → Int64} {x_eR : Nat → Nat → Int64} {x_et : Nat → Int64} {x_oR : Nat → Nat → Int64} {x_ot : Nat → Int64} {x_bR : Nat → Nat → Int64} {x_bD : Nat → Nat → Int64} {x_bQ : Nat → Int64} {x_bW : Nat → Int64} {x_bS : Nat → Nat → Int64} {x_bM : Nat → Nat → Int64} {x_bT : Nat → Int64} {x_bn : Int32} {x_tg : Nat → Int64} {x_tb : Int64} {x_ts : Nat → Int32} {x_fg : Nat → Int64} {x_fb : Int64} {x_fV : Nat → Nat → Int64} {x_fS : Nat → Int64} {x_fn : Int32} {x_cg : Nat → Int64} {x_cb : Int64} {x_cB : Nat → Int64} {x_cq : Int64} {x_vHeld : Int32} {x_vRed : Int32} {x_vTal : Int32} {x_vLis : Int32} (v1 : Int32) {out : Int32 × (Nat → Nat → Int64) × (Nat → Int64)} (h : V_spare F  x_added x_oR x_ot x_vHeld v1 = some out) : Mt yV_spare cV_spare 2 (some .boolean) rm_V_spare κ [.ref (κ.1 15), .int v1] (LM κ τ (LC κ (x_added, x_asked, x_eR, x_et, x_oR, x_ot, x_bR, x_bD, x_bQ, x_bW, x_bS, x_bM, x_bT, x_bn, x_tg, x_tb, x_ts, x_fg, x_fb, x_fV, x_fS, x_fn, x_cg, x_cb, x_cB, x_cq, x_vHeld, x_vRed, x_vTal, x_vLis))) (some (.int out.1)) (LM κ τ (LC κ (x_added, x_asked, x_eR, x_et, out.2.1, out.2.2, x_bR, x_bD, x_bQ, x_bW, x_bS, x_bM, x_bT, x_bn, x_tg, x_tb, x_ts, x_fg, x_fb, x_fV, x_fS, x_fn, x_cg, x_cb, x_cB, x_cq, x_vHeld, x_vRed, x_vTal, x_vLis))) := by
  refine Mt.of (by decide) (Nat.le_of_ble_eq_true rfl) ?_
  intro g G Fh
  unfold V_spare at h
  show J g κ 2 0 [(0, .ref (κ.1 15)), (1, .int v1)] [] (LM κ τ (LC κ (x_added, x_asked, x_eR, x_et, x_oR, x_ot, x_bR, x_bD, x_bQ, x_bW, x_bS, x_bM, x_bT, x_bn, x_tg, x_tb, x_ts, x_fg, x_fb, x_fV, x_fS, x_fn, x_cg, x_cb, x_cB, x_cq, x_vHeld, x_vRed, x_vTal, x_vLis)))
  refine w_iload_n (pc := 0) (q := 1) G dV_spare_0 rfl rfl ?_
  refine w_if_lt (pc := 1) (tgt := 12) G dV_spare_1 (by decide) (fun c1 => ?_) (fun c1 => ?_)
  · have h := if_t c1 h
    refine w_iconst (pc := 12) (v := (0 : Int32)) G dV_spare_12 (by decide) ?_
    obtain rfl := Option.some.inj h
    exact w_zret (pc := 13) G rfl dV_spare_13 Fh
  · have h := if_f c1 h
    refine w_iload_n (pc := 4) (q := 1) G dV_spare_4 rfl rfl ?_
    refine w_aload_n (pc := 5) (q := 0) G dV_spare_5 rfl rfl ?_
    refine w_get (pc := 6) (v := .int x_vHeld) (fs := fl_V κ (x_added, x_asked, x_eR, x_et, x_oR, x_ot, x_bR, x_bD, x_bQ, x_bW, x_bS, x_bM, x_bT, x_bn, x_tg, x_tb, x_ts, x_fg, x_fb, x_fV, x_fS, x_fn, x_cg, x_cb, x_cB, x_cq, x_vHeld, x_vRed, x_vTal, x_vLis)) G 15 (by decide) lb_V rfl wsV_ok 8 (by decide) wd131 gf_V_8 dV_spare_6 ?_
    refine w_icmp_lt (pc := 9) (tgt := 14) G dV_spare_9 (by decide) (fun c9 => ?_) (fun c9 => ?_)
    · have h := if_t c9 h
      refine w_aload_n (pc := 14) (q := 0) G dV_spare_14 rfl rfl ?_
      refine w_aload_n (pc := 15) (q := 0) G dV_spare_15 rfl rfl ?_
      refine w_get (pc := 16) (v := .ref (κ.1 31)) (fs := fl_V κ (x_added, x_asked, x_eR, x_et, x_oR, x_ot, x_bR, x_bD, x_bQ, x_bW, x_bS, x_bM, x_bT, x_bn, x_tg, x_tb, x_ts, x_fg, x_fb, x_fV, x_fS, x_fn, x_cg, x_cb, x_cB, x_cq, x_vHeld, x_vRed, x_vTal, x_vLis)) G 15 (by decide) lb_V rfl wsV_ok 3 (by decide) wd126 gf_V_3 dV_spare_16 ?_
      refine w_iload_n (pc := 19) (q := 1) G dV_spare_19 rfl rfl ?_
      obtain ⟨r20, e20, h⟩ := bd h
      refine w_callV (pc := 20) (av := [.ref (κ.1 31), .int v1]) (rest := []) (v := none) (L' := (LM κ τ (LC κ (x_added, x_asked, x_eR, x_et, r20.1, r20.2, x_bR, x_bD, x_bQ, x_bW, x_bS, x_bM, x_bT, x_bn, x_tg, x_tb, x_ts, x_fg, x_fb, x_fV, x_fS, x_fn, x_cg, x_cb, x_cB, x_cq, x_vHeld, x_vRed, x_vTal, x_vLis)))) (T := TV) (fs := fl_V κ (x_added, x_asked, x_eR, x_et, x_oR, x_ot, x_bR, x_bD, x_bQ, x_bW, x_bS, x_bM, x_bT, x_bn, x_tg, x_tb, x_ts, x_fg, x_fb, x_fV, x_fS, x_fn, x_cg, x_cb, x_cB, x_cq, x_vHeld, x_vRed, x_vTal, x_vLis)) G 15 1 12 (by decide) lb_V rfl cb_V_gather_O_V_spare wd209 ws4 wd207 (met_V_gather_O κ τ F v1  e20) rfl rfl rfl (Nat.le_of_ble_eq_true rfl) dV_spare_20 ?_
      refine w_aload_n (pc := 23) (q := 0) G dV_spare_23 rfl rfl ?_
      refine w_get (pc := 24) (v := .ref (κ.1 31)) (fs := fl_V κ (x_added, x_asked, x_eR, x_et, r20.1, r20.2, x_bR, x_bD, x_bQ, x_bW, x_bS, x_bM, x_bT, x_bn, x_tg, x_tb, x_ts, x_fg, x_fb, x_fV, x_fS, x_fn, x_cg, x_cb, x_cB, x_cq, x_vHeld, x_vRed, x_vTal, x_vLis)) G 15 (by decide) lb_V rfl wsV_ok 3 (by decide) wd126 gf_V_3 dV_spare_24 ?_
      refine w_aload_n (pc := 27) (q := 0) G dV_spare_27 rfl rfl ?_
      refine w_get (pc := 28) (v := .ref (κ.1 16)) (fs := fl_V κ (x_added, x_asked, x_eR, x_et, r20.1, r20.2, x_bR, x_bD, x_bQ, x_bW, x_bS, x_bM, x_bT, x_bn, x_tg, x_tb, x_ts, x_fg, x_fb, x_fV, x_fS, x_fn, x_cg, x_cb, x_cB, x_cq, x_vHeld, x_vRed, x_vTal, x_vLis)) G 15 (by decide) lb_V rfl wsV_ok 0 (by decide) wd123 gf_V_0 dV_spare_28 ?_
      refine w_iload_n (pc := 31) (q := 1) G dV_spare_31 rfl rfl ?_
      obtain ⟨i32, h⟩ := gd_some h
      refine w_aald (pc := 32) (n := 6) (f := og κ 17 6) (b := κ.1 (17 + v1.toNatClampNeg)) G 16 (by decide) lo_added i32 (og_at (ixlt i32)) dV_spare_32 ?_
      obtain ⟨r33, e33, h⟩ := bd h
      refine w_callV (pc := 33) (av := [.ref (κ.1 (17 + v1.toNatClampNeg))]) (rest := []) (v := some (.int r33.1)) (L' := (LM κ τ (LC κ (x_added, x_asked, x_eR, x_et, r20.1, r33.2, x_bR, x_bD, x_bQ, x_bW, x_bS, x_bM, x_bT, x_bn, x_tg, x_tb, x_ts, x_fg, x_fb, x_fV, x_fS, x_fn, x_cg, x_cb, x_cB, x_cq, x_vHeld, x_vRed, x_vTal, x_vLis)))) (T := TE) (fs := fl_O κ (x_added, x_asked, x_eR, x_et, r20.1, r20.2, x_bR, x_bD, x_bQ, x_bW, x_bS, x_bM, x_bT, x_bn, x_tg, x_tb, x_ts, x_fg, x_fb, x_fV, x_fS, x_fn, x_cg, x_cb, x_cB, x_cq, x_vHeld, x_vRed, x_vTal, x_vLis)) G 31 2 2 (by decide) lb_O rfl cb_O_holds_V_spare wd318 wd319 wd317 (met_O_holds κ τ F  (17 + v1.toNatClampNeg) (nw_added (ixlt i32)) (x_added v1.toNatClampNeg) (fun _ _ => (lk_added (ixlt i32))) (by have := (ixlt i32); omega) e33) rfl rfl rfl (Nat.le_of_ble_eq_true rfl) dV_spare_33 ?_
      obtain ⟨n36, h⟩ := gd_some h
      obtain rfl := Option.some.inj h
      exact w_zret (pc := 36) G n36 dV_spare_36 Fh
    · have h := if_f c9 h
      refine w_iconst (pc := 12) (v := (0 : Int32)) G dV_spare_12 (by decide) ?_
      obtain rfl := Option.some.inj h
      exact w_zret (pc := 13) G rfl dV_spare_13 Fh
def rm_V_has : Room := { frames := 4, cells := 0, slots := 0, locals := 149 }
theorem dV_has_0 : decode cV_has 0 = .ok (.aload_n 0, 1) := by decide +kernel
theorem dV_has_1 : decode cV_has 1 = .ok (.iload_n 1, 1) := by decide +kernel
theorem dV_has_2 : decode cV_has 2 = .ok (.iload_n 2, 1) := by decide +kernel
theorem dV_has_3 : decode cV_has 3 = .ok (.iload_n 3, 1) := by decide +kernel
theorem dV_has_4 : decode cV_has 4 = .ok (.iload 4, 2) := by decide +kernel
theorem dV_has_6 : decode cV_has 6 = .ok (.sipush 1000, 3) := by decide +kernel
theorem dV_has_9 : decode cV_has 9 = .ok (.invokevirtual 60, 3) := by decide +kernel
theorem dV_has_12 : decode cV_has 12 = .ok (.ifCond .eq 21, 3) := by decide +kernel
theorem dV_has_15 : decode cV_has 15 = .ok (.aload_n 0, 1) := by decide +kernel
theorem dV_has_16 : decode cV_has 16 = .ok (.getfield 21, 3) := by decide +kernel
theorem dV_has_19 : decode cV_has 19 = .ok (.aload_n 0, 1) := by decide +kernel
theorem dV_has_20 : decode cV_has 20 = .ok (.getfield 14, 3) := by decide +kernel
theorem dV_has_23 : decode cV_has 23 = .ok (.invokevirtual 91, 3) := by decide +kernel
theorem dV_has_26 : decode cV_has 26 = .ok (.ifCond .eq 7, 3) := by decide +kernel
theorem dV_has_29 : decode cV_has 29 = .ok (.iconst 1, 1) := by decide +kernel
theorem dV_has_30 : decode cV_has 30 = .ok (.goto 4, 3) := by decide +kernel
theorem dV_has_33 : decode cV_has 33 = .ok (.iconst 0, 1) := by decide +kernel
theorem dV_has_34 : decode cV_has 34 = .ok (.ireturn, 1) := by decide +kernel
theorem cb_V_ask_V_has : CB yV_ask cV_ask 7 (some .boolean) rm_V_ask rm_V_has 5 := ⟨wd167, wd1, by decide +kernel, rfl, rfl, by decide⟩
theorem cb_E_holds_V_has : CB yE_holds cE_holds 2 (some .boolean) rm_E_holds rm_V_has 1 := ⟨wd320, wd2, by decide +kernel, rfl, rfl, by decide⟩
noncomputable def V_has (F : Nat)  (x_asked : Nat → Int64) (x_eR : Nat → Nat → Int64) (x_et : Nat → Int64) (v1 : Int32) (v2 : Int32) (v3 : Int32) (v4 : Int32) : Option (Int32 × (Nat → Int64) × (Nat → Int64)) := (V_ask F x_asked v1 v2 v3 v4 (1000 : Int32)).bind (fun r9 => if r9.1 = 0 then some ((0 : Int32), r9.2, x_et) else (E_holds F x_eR x_et r9.2 ).bind (fun r23 => if r23.1 = 0 then some ((0 : Int32), r9.2, r23.2) else some ((1 : Int32), r9.2, r23.2)))
set_option maxHeartbeats 8000000 in
set_option maxRecDepth 100000 in
theorem met_V_has (κ : ctx) (τ : MS) (F : Nat) {x_added : Nat → Nat → Int64} {x_asked : Nat → Int64} {x_eR : Nat → Nat → Int64} {x_et : Nat → Int64} {x_oR : Nat → Nat → Int64} {x_ot : Nat → Int64} {x_bR : Nat → Nat → Int64} {x_bD : Nat → Nat → Int64} {x_bQ : Nat → Int64} {x_bW : Nat → Int64} {x_bS : Nat → Nat → Int64} {x_bM : Nat → Nat → Int64} {x_bT : Nat → Int64} {x_bn : Int32} {x_tg : Nat → Int64} {x_tb : Int64} {x_ts : Nat → Int32} {x_fg : Nat → Int64} {x_fb : Int64} {x_fV : Nat → Nat → Int64} {x_fS : Nat → Int64} {x_fn : Int32} {x_cg : Nat → Int64} {x_cb : Int64} {x_cB : Nat → Int64} {x_cq : Int64} {x_vHeld : Int32} {x_vRed : Int32} {x_vTal : Int32} {x_vLis : Int32} (v1 : Int32) (v2 : Int32) (v3 : Int32) (v4 : Int32) {out : Int32 × (Nat → Int64) × (Nat → Int64)} (h : V_has F  x_asked x_eR x_et v1 v2 v3 v4 = some out) : Mt yV_has cV_has 5 (some .boolean) rm_V_has κ [.ref (κ.1 15), .int v1, .int v2, .int v3, .int v4] (LM κ τ (LC κ (x_added, x_asked, x_eR, x_et, x_oR, x_ot, x_bR, x_bD, x_bQ, x_bW, x_bS, x_bM, x_bT, x_bn, x_tg, x_tb, x_ts, x_fg, x_fb, x_fV, x_fS, x_fn, x_cg, x_cb, x_cB, x_cq, x_vHeld, x_vRed, x_vTal, x_vLis))) (some (.int out.1)) (LM κ τ (LC κ (x_added, out.2.1, x_eR, out.2.2, x_oR, x_ot, x_bR, x_bD, x_bQ, x_bW, x_bS, x_bM, x_bT, x_bn, x_tg, x_tb, x_ts, x_fg, x_fb, x_fV, x_fS, x_fn, x_cg, x_cb, x_cB, x_cq, x_vHeld, x_vRed, x_vTal, x_vLis))) := by
  refine Mt.of (by decide) (Nat.le_of_ble_eq_true rfl) ?_
  intro g G Fh
  unfold V_has at h
  show J g κ 5 0 [(0, .ref (κ.1 15)), (1, .int v1), (2, .int v2), (3, .int v3), (4, .int v4)] [] (LM κ τ (LC κ (x_added, x_asked, x_eR, x_et, x_oR, x_ot, x_bR, x_bD, x_bQ, x_bW, x_bS, x_bM, x_bT, x_bn, x_tg, x_tb, x_ts, x_fg, x_fb, x_fV, x_fS, x_fn, x_cg, x_cb, x_cB, x_cq, x_vHeld, x_vRed, x_vTal, x_vLis)))
  refine w_aload_n (pc := 0) (q := 0) G dV_has_0 rfl rfl ?_
  refine w_iload_n (pc := 1) (q := 1) G dV_has_1 rfl rfl ?_
  refine w_iload_n (pc := 2) (q := 2) G dV_has_2 rfl rfl ?_
  refine w_iload_n (pc := 3) (q := 3) G dV_has_3 rfl rfl ?_
  refine w_iload (pc := 4) (q := 4) G dV_has_4 rfl ?_
  refine w_sipush (pc := 6) (v := (1000 : Int32)) G dV_has_6 (by decide) ?_
  obtain ⟨r9, e9, h⟩ := bd h
  refine w_callV (pc := 9) (av := [.int v1, .int v2, .int v3, .int v4, .int (1000 : Int32)]) (rest := []) (v := some (.int r9.1)) (L' := (LM κ τ (LC κ (x_added, r9.2, x_eR, x_et, x_oR, x_ot, x_bR, x_bD, x_bQ, x_bW, x_bS, x_bM, x_bT, x_bn, x_tg, x_tb, x_ts, x_fg, x_fb, x_fV, x_fS, x_fn, x_cg, x_cb, x_cB, x_cq, x_vHeld, x_vRed, x_vTal, x_vLis)))) (T := TV) (fs := fl_V κ (x_added, x_asked, x_eR, x_et, x_oR, x_ot, x_bR, x_bD, x_bQ, x_bW, x_bS, x_bM, x_bT, x_bn, x_tg, x_tb, x_ts, x_fg, x_fb, x_fV, x_fS, x_fn, x_cg, x_cb, x_cB, x_cq, x_vHeld, x_vRed, x_vTal, x_vLis)) G 15 1 12 (by decide) lb_V rfl cb_V_ask_V_has wd166 ws0 wd164 (met_V_ask κ τ F v1 v2 v3 v4 (1000 : Int32)  e9) rfl rfl rfl (Nat.le_of_ble_eq_true rfl) dV_has_9 ?_
  refine w_if_eq (pc := 12) (tgt := 33) G dV_has_12 (by decide) (fun c12 => ?_) (fun c12 => ?_)
  · have h := if_t c12 h
    refine w_iconst (pc := 33) (v := (0 : Int32)) G dV_has_33 (by decide) ?_
    obtain rfl := Option.some.inj h
    exact w_zret (pc := 34) G rfl dV_has_34 Fh
  · have h := if_f c12 h
    refine w_aload_n (pc := 15) (q := 0) G dV_has_15 rfl rfl ?_
    refine w_get (pc := 16) (v := .ref (κ.1 24)) (fs := fl_V κ (x_added, r9.2, x_eR, x_et, x_oR, x_ot, x_bR, x_bD, x_bQ, x_bW, x_bS, x_bM, x_bT, x_bn, x_tg, x_tb, x_ts, x_fg, x_fb, x_fV, x_fS, x_fn, x_cg, x_cb, x_cB, x_cq, x_vHeld, x_vRed, x_vTal, x_vLis)) G 15 (by decide) lb_V rfl wsV_ok 2 (by decide) wd125 gf_V_2 dV_has_16 ?_
    refine w_aload_n (pc := 19) (q := 0) G dV_has_19 rfl rfl ?_
    refine w_get (pc := 20) (v := .ref (κ.1 23)) (fs := fl_V κ (x_added, r9.2, x_eR, x_et, x_oR, x_ot, x_bR, x_bD, x_bQ, x_bW, x_bS, x_bM, x_bT, x_bn, x_tg, x_tb, x_ts, x_fg, x_fb, x_fV, x_fS, x_fn, x_cg, x_cb, x_cB, x_cq, x_vHeld, x_vRed, x_vTal, x_vLis)) G 15 (by decide) lb_V rfl wsV_ok 1 (by decide) wd124 gf_V_1 dV_has_20 ?_
    obtain ⟨r23, e23, h⟩ := bd h
    refine w_callV (pc := 23) (av := [.ref (κ.1 23)]) (rest := []) (v := some (.int r23.1)) (L' := (LM κ τ (LC κ (x_added, r9.2, x_eR, r23.2, x_oR, x_ot, x_bR, x_bD, x_bQ, x_bW, x_bS, x_bM, x_bT, x_bn, x_tg, x_tb, x_ts, x_fg, x_fb, x_fV, x_fS, x_fn, x_cg, x_cb, x_cB, x_cq, x_vHeld, x_vRed, x_vTal, x_vLis)))) (T := TE) (fs := fl_E κ (x_added, r9.2, x_eR, x_et, x_oR, x_ot, x_bR, x_bD, x_bQ, x_bW, x_bS, x_bM, x_bT, x_bn, x_tg, x_tb, x_ts, x_fg, x_fb, x_fV, x_fS, x_fn, x_cg, x_cb, x_cB, x_cq, x_vHeld, x_vRed, x_vTal, x_vLis)) G 24 2 2 (by decide) lb_E rfl cb_E_holds_V_has wd318 wd319 wd317 (met_E_holds κ τ F  23 (by decide) r9.2 (fun _ _ => lk_asked) (by decide) e23) rfl rfl rfl (Nat.le_of_ble_eq_true rfl) dV_has_23 ?_
    refine w_if_eq (pc := 26) (tgt := 33) G dV_has_26 (by decide) (fun c26 => ?_) (fun c26 => ?_)
    · have h := if_t c26 h
      refine w_iconst (pc := 33) (v := (0 : Int32)) G dV_has_33 (by decide) ?_
      obtain rfl := Option.some.inj h
      exact w_zret (pc := 34) G rfl dV_has_34 Fh
    · have h := if_f c26 h
      refine w_iconst (pc := 29) (v := (1 : Int32)) G dV_has_29 (by decide) ?_
      refine w_goto (pc := 30) (tgt := 34) G dV_has_30 (by decide) ?_
      obtain rfl := Option.some.inj h
      exact w_zret (pc := 34) G rfl dV_has_34 Fh
def rm_V_order : Room := { frames := 3, cells := 0, slots := 0, locals := 128 }
theorem dV_order_0 : decode cV_order 0 = .ok (.aload_n 0, 1) := by decide +kernel
theorem dV_order_1 : decode cV_order 1 = .ok (.iload_n 1, 1) := by decide +kernel
theorem dV_order_2 : decode cV_order 2 = .ok (.iload_n 2, 1) := by decide +kernel
theorem dV_order_3 : decode cV_order 3 = .ok (.iload_n 3, 1) := by decide +kernel
theorem dV_order_4 : decode cV_order 4 = .ok (.iload 4, 2) := by decide +kernel
theorem dV_order_6 : decode cV_order 6 = .ok (.bipush 100, 2) := by decide +kernel
theorem dV_order_8 : decode cV_order 8 = .ok (.invokevirtual 60, 3) := by decide +kernel
theorem dV_order_11 : decode cV_order 11 = .ok (.ifCond .eq 17, 3) := by decide +kernel
theorem dV_order_14 : decode cV_order 14 = .ok (.aload_n 0, 1) := by decide +kernel
theorem dV_order_15 : decode cV_order 15 = .ok (.getfield 21, 3) := by decide +kernel
theorem dV_order_18 : decode cV_order 18 = .ok (.aload_n 0, 1) := by decide +kernel
theorem dV_order_19 : decode cV_order 19 = .ok (.getfield 14, 3) := by decide +kernel
theorem dV_order_22 : decode cV_order 22 = .ok (.invokevirtual 95, 3) := by decide +kernel
theorem dV_order_25 : decode cV_order 25 = .ok (.goto 6, 3) := by decide +kernel
theorem dV_order_28 : decode cV_order 28 = .ok (.ldc2_w 99, 3) := by decide +kernel
theorem dV_order_31 : decode cV_order 31 = .ok (.lreturn, 1) := by decide +kernel
theorem cb_V_ask_V_order : CB yV_ask cV_ask 7 (some .boolean) rm_V_ask rm_V_order 5 := ⟨wd167, wd1, by decide +kernel, rfl, rfl, by decide⟩
theorem cb_E_leastMultiplier_V_order : CB yE_leastMultiplier cE_leastMultiplier 9 (some .long) rm_E_leastMultiplier rm_V_order 1 := ⟨wd324, wd2, by decide +kernel, rfl, rfl, by decide⟩
noncomputable def V_order (F : Nat)  (x_asked : Nat → Int64) (x_eR : Nat → Nat → Int64) (x_et : Nat → Int64) (v1 : Int32) (v2 : Int32) (v3 : Int32) (v4 : Int32) : Option (Int64 × (Nat → Int64) × (Nat → Int64)) := (V_ask F x_asked v1 v2 v3 v4 (100 : Int32)).bind (fun r8 => if r8.1 = 0 then some ((-1 : Int64), r8.2, x_et) else (E_leastMultiplier F x_eR x_et r8.2 ).bind (fun r22 => some (r22.1, r8.2, r22.2)))
set_option maxHeartbeats 8000000 in
set_option maxRecDepth 100000 in
theorem met_V_order (κ : ctx) (τ : MS) (F : Nat) {x_added : Nat → Nat → Int64} {x_asked : Nat → Int64} {x_eR : Nat → Nat → Int64} {x_et : Nat → Int64} {x_oR : Nat → Nat → Int64} {x_ot : Nat → Int64} {x_bR : Nat → Nat → Int64} {x_bD : Nat → Nat → Int64} {x_bQ : Nat → Int64} {x_bW : Nat → Int64} {x_bS : Nat → Nat → Int64} {x_bM : Nat → Nat → Int64} {x_bT : Nat → Int64} {x_bn : Int32} {x_tg : Nat → Int64} {x_tb : Int64} {x_ts : Nat → Int32} {x_fg : Nat → Int64} {x_fb : Int64} {x_fV : Nat → Nat → Int64} {x_fS : Nat → Int64} {x_fn : Int32} {x_cg : Nat → Int64} {x_cb : Int64} {x_cB : Nat → Int64} {x_cq : Int64} {x_vHeld : Int32} {x_vRed : Int32} {x_vTal : Int32} {x_vLis : Int32} (v1 : Int32) (v2 : Int32) (v3 : Int32) (v4 : Int32) {out : Int64 × (Nat → Int64) × (Nat → Int64)} (h : V_order F  x_asked x_eR x_et v1 v2 v3 v4 = some out) : Mt yV_order cV_order 5 (some .long) rm_V_order κ [.ref (κ.1 15), .int v1, .int v2, .int v3, .int v4] (LM κ τ (LC κ (x_added, x_asked, x_eR, x_et, x_oR, x_ot, x_bR, x_bD, x_bQ, x_bW, x_bS, x_bM, x_bT, x_bn, x_tg, x_tb, x_ts, x_fg, x_fb, x_fV, x_fS, x_fn, x_cg, x_cb, x_cB, x_cq, x_vHeld, x_vRed, x_vTal, x_vLis))) (some (.long out.1)) (LM κ τ (LC κ (x_added, out.2.1, x_eR, out.2.2, x_oR, x_ot, x_bR, x_bD, x_bQ, x_bW, x_bS, x_bM, x_bT, x_bn, x_tg, x_tb, x_ts, x_fg, x_fb, x_fV, x_fS, x_fn, x_cg, x_cb, x_cB, x_cq, x_vHeld, x_vRed, x_vTal, x_vLis))) := by
  refine Mt.of (by decide) (Nat.le_of_ble_eq_true rfl) ?_
  intro g G Fh
  unfold V_order at h
  show J g κ 5 0 [(0, .ref (κ.1 15)), (1, .int v1), (2, .int v2), (3, .int v3), (4, .int v4)] [] (LM κ τ (LC κ (x_added, x_asked, x_eR, x_et, x_oR, x_ot, x_bR, x_bD, x_bQ, x_bW, x_bS, x_bM, x_bT, x_bn, x_tg, x_tb, x_ts, x_fg, x_fb, x_fV, x_fS, x_fn, x_cg, x_cb, x_cB, x_cq, x_vHeld, x_vRed, x_vTal, x_vLis)))
  refine w_aload_n (pc := 0) (q := 0) G dV_order_0 rfl rfl ?_
  refine w_iload_n (pc := 1) (q := 1) G dV_order_1 rfl rfl ?_
  refine w_iload_n (pc := 2) (q := 2) G dV_order_2 rfl rfl ?_
  refine w_iload_n (pc := 3) (q := 3) G dV_order_3 rfl rfl ?_
  refine w_iload (pc := 4) (q := 4) G dV_order_4 rfl ?_
  refine w_bipush (pc := 6) (v := (100 : Int32)) G dV_order_6 (by decide) ?_
  obtain ⟨r8, e8, h⟩ := bd h
  refine w_callV (pc := 8) (av := [.int v1, .int v2, .int v3, .int v4, .int (100 : Int32)]) (rest := []) (v := some (.int r8.1)) (L' := (LM κ τ (LC κ (x_added, r8.2, x_eR, x_et, x_oR, x_ot, x_bR, x_bD, x_bQ, x_bW, x_bS, x_bM, x_bT, x_bn, x_tg, x_tb, x_ts, x_fg, x_fb, x_fV, x_fS, x_fn, x_cg, x_cb, x_cB, x_cq, x_vHeld, x_vRed, x_vTal, x_vLis)))) (T := TV) (fs := fl_V κ (x_added, x_asked, x_eR, x_et, x_oR, x_ot, x_bR, x_bD, x_bQ, x_bW, x_bS, x_bM, x_bT, x_bn, x_tg, x_tb, x_ts, x_fg, x_fb, x_fV, x_fS, x_fn, x_cg, x_cb, x_cB, x_cq, x_vHeld, x_vRed, x_vTal, x_vLis)) G 15 1 12 (by decide) lb_V rfl cb_V_ask_V_order wd166 ws0 wd164 (met_V_ask κ τ F v1 v2 v3 v4 (100 : Int32)  e8) rfl rfl rfl (Nat.le_of_ble_eq_true rfl) dV_order_8 ?_
  refine w_if_eq (pc := 11) (tgt := 28) G dV_order_11 (by decide) (fun c11 => ?_) (fun c11 => ?_)
  · have h := if_t c11 h
    refine w_ldc2 (pc := 28) (v := (-1 : Int64)) G wd335 dV_order_28 ?_
    obtain rfl := Option.some.inj h
    exact w_lret (pc := 31) G dV_order_31 Fh
  · have h := if_f c11 h
    refine w_aload_n (pc := 14) (q := 0) G dV_order_14 rfl rfl ?_
    refine w_get (pc := 15) (v := .ref (κ.1 24)) (fs := fl_V κ (x_added, r8.2, x_eR, x_et, x_oR, x_ot, x_bR, x_bD, x_bQ, x_bW, x_bS, x_bM, x_bT, x_bn, x_tg, x_tb, x_ts, x_fg, x_fb, x_fV, x_fS, x_fn, x_cg, x_cb, x_cB, x_cq, x_vHeld, x_vRed, x_vTal, x_vLis)) G 15 (by decide) lb_V rfl wsV_ok 2 (by decide) wd125 gf_V_2 dV_order_15 ?_
    refine w_aload_n (pc := 18) (q := 0) G dV_order_18 rfl rfl ?_
    refine w_get (pc := 19) (v := .ref (κ.1 23)) (fs := fl_V κ (x_added, r8.2, x_eR, x_et, x_oR, x_ot, x_bR, x_bD, x_bQ, x_bW, x_bS, x_bM, x_bT, x_bn, x_tg, x_tb, x_ts, x_fg, x_fb, x_fV, x_fS, x_fn, x_cg, x_cb, x_cB, x_cq, x_vHeld, x_vRed, x_vTal, x_vLis)) G 15 (by decide) lb_V rfl wsV_ok 1 (by decide) wd124 gf_V_1 dV_order_19 ?_
    obtain ⟨r22, e22, h⟩ := bd h
    refine w_callV (pc := 22) (av := [.ref (κ.1 23)]) (rest := []) (v := some (.long r22.1)) (L' := (LM κ τ (LC κ (x_added, r8.2, x_eR, r22.2, x_oR, x_ot, x_bR, x_bD, x_bQ, x_bW, x_bS, x_bM, x_bT, x_bn, x_tg, x_tb, x_ts, x_fg, x_fb, x_fV, x_fS, x_fn, x_cg, x_cb, x_cB, x_cq, x_vHeld, x_vRed, x_vTal, x_vLis)))) (T := TE) (fs := fl_E κ (x_added, r8.2, x_eR, x_et, x_oR, x_ot, x_bR, x_bD, x_bQ, x_bW, x_bS, x_bM, x_bT, x_bn, x_tg, x_tb, x_ts, x_fg, x_fb, x_fV, x_fS, x_fn, x_cg, x_cb, x_cB, x_cq, x_vHeld, x_vRed, x_vTal, x_vLis)) G 24 2 2 (by decide) lb_E rfl cb_E_leastMultiplier_V_order wd322 wd323 wd334 (met_E_leastMultiplier κ τ F  23 (by decide) r8.2 (fun _ _ => lk_asked) (by decide) e22) rfl rfl rfl (Nat.le_of_ble_eq_true rfl) dV_order_22 ?_
    refine w_goto (pc := 25) (tgt := 31) G dV_order_25 (by decide) ?_
    obtain rfl := Option.some.inj h
    exact w_lret (pc := 31) G dV_order_31 Fh
def rm_V_minimum : Room := { frames := 7, cells := 0, slots := 0, locals := 203 }
theorem dV_minimum_0 : decode cV_minimum 0 = .ok (.iload_n 1, 1) := by decide +kernel
theorem dV_minimum_1 : decode cV_minimum 1 = .ok (.iconst 1, 1) := by decide +kernel
theorem dV_minimum_2 : decode cV_minimum 2 = .ok (.if_icmp .lt 14, 3) := by decide +kernel
theorem dV_minimum_5 : decode cV_minimum 5 = .ok (.iload_n 1, 1) := by decide +kernel
theorem dV_minimum_6 : decode cV_minimum 6 = .ok (.aload_n 0, 1) := by decide +kernel
theorem dV_minimum_7 : decode cV_minimum 7 = .ok (.getfield 21, 3) := by decide +kernel
theorem dV_minimum_10 : decode cV_minimum 10 = .ok (.invokevirtual 79, 3) := by decide +kernel
theorem dV_minimum_13 : decode cV_minimum 13 = .ok (.if_icmp .le 5, 3) := by decide +kernel
theorem dV_minimum_16 : decode cV_minimum 16 = .ok (.iconst (-1), 1) := by decide +kernel
theorem dV_minimum_17 : decode cV_minimum 17 = .ok (.ireturn, 1) := by decide +kernel
theorem dV_minimum_18 : decode cV_minimum 18 = .ok (.aload_n 0, 1) := by decide +kernel
theorem dV_minimum_19 : decode cV_minimum 19 = .ok (.invokevirtual 83, 3) := by decide +kernel
theorem dV_minimum_22 : decode cV_minimum 22 = .ok (.iload_n 1, 1) := by decide +kernel
theorem dV_minimum_23 : decode cV_minimum 23 = .ok (.iconst 1, 1) := by decide +kernel
theorem dV_minimum_24 : decode cV_minimum 24 = .ok (.isub, 1) := by decide +kernel
theorem dV_minimum_25 : decode cV_minimum 25 = .ok (.invokevirtual 101, 3) := by decide +kernel
theorem dV_minimum_28 : decode cV_minimum 28 = .ok (.l2i, 1) := by decide +kernel
theorem dV_minimum_29 : decode cV_minimum 29 = .ok (.ireturn, 1) := by decide +kernel
theorem cb_V_readyBasis_V_minimum : CB yV_readyBasis cV_readyBasis 1 (some (.object "ShortVectors$Basis")) rm_V_readyBasis rm_V_minimum 0 := ⟨wd237, wd1, by decide +kernel, rfl, rfl, by decide⟩
theorem cb_B_squareOf_V_minimum : CB yB_squareOf cB_squareOf 2 (some .long) rm_B_squareOf rm_V_minimum 1 := ⟨wd289, wd3, by decide +kernel, rfl, rfl, by decide⟩
theorem cb_E_size_V_minimum : CB yE_size cE_size 3 (some .int) rm_E_size rm_V_minimum 0 := ⟨wd229, wd2, by decide +kernel, rfl, rfl, by decide⟩
noncomputable def V_minimum (F : Nat)  (x_eR : Nat → Nat → Int64) (x_bR : Nat → Nat → Int64) (x_bD : Nat → Nat → Int64) (x_bQ : Nat → Int64) (x_bW : Nat → Int64) (x_bT : Nat → Int64) (x_bn : Int32) (x_vRed : Int32) (v1 : Int32) : Option (Int32 × (Nat → Nat → Int64) × (Nat → Nat → Int64) × (Nat → Int64) × (Nat → Int64) × (Nat → Int64) × Int32 × Int32) := if v1 < (1 : Int32) then some ((-1 : Int32), x_bR, x_bD, x_bQ, x_bW, x_bT, x_bn, x_vRed) else (E_size F x_eR ).bind (fun r10 => if v1 ≤ r10 then (V_readyBasis F x_eR x_bR x_bD x_bQ x_bW x_bT x_bn x_vRed ).bind (fun r19 => (B_squareOf F r19.1 (v1 - (1 : Int32))).bind (fun r25 => some (r25.toInt32, r19.1, r19.2.1, r19.2.2.1, r19.2.2.2.1, r19.2.2.2.2.1, r19.2.2.2.2.2.1, r19.2.2.2.2.2.2))) else some ((-1 : Int32), x_bR, x_bD, x_bQ, x_bW, x_bT, x_bn, x_vRed))
set_option maxHeartbeats 8000000 in
set_option maxRecDepth 100000 in
theorem met_V_minimum (κ : ctx) (τ : MS) (F : Nat) {x_added : Nat → Nat → Int64} {x_asked : Nat → Int64} {x_eR : Nat → Nat → Int64} {x_et : Nat → Int64} {x_oR : Nat → Nat → Int64} {x_ot : Nat → Int64} {x_bR : Nat → Nat → Int64} {x_bD : Nat → Nat → Int64} {x_bQ : Nat → Int64} {x_bW : Nat → Int64} {x_bS : Nat → Nat → Int64} {x_bM : Nat → Nat → Int64} {x_bT : Nat → Int64} {x_bn : Int32} {x_tg : Nat → Int64} {x_tb : Int64} {x_ts : Nat → Int32} {x_fg : Nat → Int64} {x_fb : Int64} {x_fV : Nat → Nat → Int64} {x_fS : Nat → Int64} {x_fn : Int32} {x_cg : Nat → Int64} {x_cb : Int64} {x_cB : Nat → Int64} {x_cq : Int64} {x_vHeld : Int32} {x_vRed : Int32} {x_vTal : Int32} {x_vLis : Int32} (v1 : Int32) {out : Int32 × (Nat → Nat → Int64) × (Nat → Nat → Int64) × (Nat → Int64) × (Nat → Int64) × (Nat → Int64) × Int32 × Int32} (h : V_minimum F  x_eR x_bR x_bD x_bQ x_bW x_bT x_bn x_vRed v1 = some out) : Mt yV_minimum cV_minimum 2 (some .int) rm_V_minimum κ [.ref (κ.1 15), .int v1] (LM κ τ (LC κ (x_added, x_asked, x_eR, x_et, x_oR, x_ot, x_bR, x_bD, x_bQ, x_bW, x_bS, x_bM, x_bT, x_bn, x_tg, x_tb, x_ts, x_fg, x_fb, x_fV, x_fS, x_fn, x_cg, x_cb, x_cB, x_cq, x_vHeld, x_vRed, x_vTal, x_vLis))) (some (.int out.1)) (LM κ τ (LC κ (x_added, x_asked, x_eR, x_et, x_oR, x_ot, out.2.1, out.2.2.1, out.2.2.2.1, out.2.2.2.2.1, x_bS, x_bM, out.2.2.2.2.2.1, out.2.2.2.2.2.2.1, x_tg, x_tb, x_ts, x_fg, x_fb, x_fV, x_fS, x_fn, x_cg, x_cb, x_cB, x_cq, x_vHeld, out.2.2.2.2.2.2.2, x_vTal, x_vLis))) := by
  refine Mt.of (by decide) (Nat.le_of_ble_eq_true rfl) ?_
  intro g G Fh
  unfold V_minimum at h
  show J g κ 2 0 [(0, .ref (κ.1 15)), (1, .int v1)] [] (LM κ τ (LC κ (x_added, x_asked, x_eR, x_et, x_oR, x_ot, x_bR, x_bD, x_bQ, x_bW, x_bS, x_bM, x_bT, x_bn, x_tg, x_tb, x_ts, x_fg, x_fb, x_fV, x_fS, x_fn, x_cg, x_cb, x_cB, x_cq, x_vHeld, x_vRed, x_vTal, x_vLis)))
  refine w_iload_n (pc := 0) (q := 1) G dV_minimum_0 rfl rfl ?_
  refine w_iconst (pc := 1) (v := (1 : Int32)) G dV_minimum_1 (by decide) ?_
  refine w_icmp_lt (pc := 2) (tgt := 16) G dV_minimum_2 (by decide) (fun c2 => ?_) (fun c2 => ?_)
  · have h := if_t c2 h
    refine w_iconst (pc := 16) (v := (-1 : Int32)) G dV_minimum_16 (by decide) ?_
    obtain rfl := Option.some.inj h
    exact w_iret (pc := 17) G dV_minimum_17 Fh
  · have h := if_f c2 h
    refine w_iload_n (pc := 5) (q := 1) G dV_minimum_5 rfl rfl ?_
    refine w_aload_n (pc := 6) (q := 0) G dV_minimum_6 rfl rfl ?_
    refine w_get (pc := 7) (v := .ref (κ.1 24)) (fs := fl_V κ (x_added, x_asked, x_eR, x_et, x_oR, x_ot, x_bR, x_bD, x_bQ, x_bW, x_bS, x_bM, x_bT, x_bn, x_tg, x_tb, x_ts, x_fg, x_fb, x_fV, x_fS, x_fn, x_cg, x_cb, x_cB, x_cq, x_vHeld, x_vRed, x_vTal, x_vLis)) G 15 (by decide) lb_V rfl wsV_ok 2 (by decide) wd125 gf_V_2 dV_minimum_7 ?_
    obtain ⟨r10, e10, h⟩ := bd h
    refine w_callV (pc := 10) (av := []) (rest := [.int v1]) (v := some (.int r10)) (L' := (LM κ τ (LC κ (x_added, x_asked, x_eR, x_et, x_oR, x_ot, x_bR, x_bD, x_bQ, x_bW, x_bS, x_bM, x_bT, x_bn, x_tg, x_tb, x_ts, x_fg, x_fb, x_fV, x_fS, x_fn, x_cg, x_cb, x_cB, x_cq, x_vHeld, x_vRed, x_vTal, x_vLis)))) (T := TE) (fs := fl_E κ (x_added, x_asked, x_eR, x_et, x_oR, x_ot, x_bR, x_bD, x_bQ, x_bW, x_bS, x_bM, x_bT, x_bn, x_tg, x_tb, x_ts, x_fg, x_fb, x_fV, x_fS, x_fn, x_cg, x_cb, x_cB, x_cq, x_vHeld, x_vRed, x_vTal, x_vLis)) G 24 2 2 (by decide) lb_E rfl cb_E_size_V_minimum wd227 wd228 wd226 (met_E_size κ τ F   e10) rfl rfl rfl (Nat.le_of_ble_eq_true rfl) dV_minimum_10 ?_
    refine w_icmp_le (pc := 13) (tgt := 18) G dV_minimum_13 (by decide) (fun c13 => ?_) (fun c13 => ?_)
    · have h := if_t c13 h
      refine w_aload_n (pc := 18) (q := 0) G dV_minimum_18 rfl rfl ?_
      obtain ⟨r19, e19, h⟩ := bd h
      refine w_callV (pc := 19) (av := []) (rest := []) (v := some (.ref (κ.1 38))) (L' := (LM κ τ (LC κ (x_added, x_asked, x_eR, x_et, x_oR, x_ot, r19.1, r19.2.1, r19.2.2.1, r19.2.2.2.1, x_bS, x_bM, r19.2.2.2.2.1, r19.2.2.2.2.2.1, x_tg, x_tb, x_ts, x_fg, x_fb, x_fV, x_fS, x_fn, x_cg, x_cb, x_cB, x_cq, x_vHeld, r19.2.2.2.2.2.2, x_vTal, x_vLis)))) (T := TV) (fs := fl_V κ (x_added, x_asked, x_eR, x_et, x_oR, x_ot, x_bR, x_bD, x_bQ, x_bW, x_bS, x_bM, x_bT, x_bn, x_tg, x_tb, x_ts, x_fg, x_fb, x_fV, x_fS, x_fn, x_cg, x_cb, x_cB, x_cq, x_vHeld, x_vRed, x_vTal, x_vLis)) G 15 1 12 (by decide) lb_V rfl cb_V_readyBasis_V_minimum wd236 ws5 wd234 (met_V_readyBasis κ τ F   e19) rfl rfl rfl (Nat.le_of_ble_eq_true rfl) dV_minimum_19 ?_
      refine w_iload_n (pc := 22) (q := 1) G dV_minimum_22 rfl rfl ?_
      refine w_iconst (pc := 23) (v := (1 : Int32)) G dV_minimum_23 (by decide) ?_
      refine w_isub (pc := 24) G dV_minimum_24 ?_
      obtain ⟨r25, e25, h⟩ := bd h
      refine w_callV (pc := 25) (av := [.int (v1 - (1 : Int32))]) (rest := []) (v := some (.long r25)) (L' := (LM κ τ (LC κ (x_added, x_asked, x_eR, x_et, x_oR, x_ot, r19.1, r19.2.1, r19.2.2.1, r19.2.2.2.1, x_bS, x_bM, r19.2.2.2.2.1, r19.2.2.2.2.2.1, x_tg, x_tb, x_ts, x_fg, x_fb, x_fV, x_fS, x_fn, x_cg, x_cb, x_cB, x_cq, x_vHeld, r19.2.2.2.2.2.2, x_vTal, x_vLis)))) (T := TB) (fs := fl_B κ (x_added, x_asked, x_eR, x_et, x_oR, x_ot, r19.1, r19.2.1, r19.2.2.1, r19.2.2.2.1, x_bS, x_bM, r19.2.2.2.2.1, r19.2.2.2.2.2.1, x_tg, x_tb, x_ts, x_fg, x_fb, x_fV, x_fS, x_fn, x_cg, x_cb, x_cB, x_cq, x_vHeld, r19.2.2.2.2.2.2, x_vTal, x_vLis)) G 38 3 8 (by decide) lb_B rfl cb_B_squareOf_V_minimum wd287 wd288 wd340 (met_B_squareOf κ τ F (v1 - (1 : Int32))  e25) rfl rfl rfl (Nat.le_of_ble_eq_true rfl) dV_minimum_25 ?_
      refine w_l2i (pc := 28) G dV_minimum_28 ?_
      obtain rfl := Option.some.inj h
      exact w_iret (pc := 29) G dV_minimum_29 Fh
    · have h := if_f c13 h
      refine w_iconst (pc := 16) (v := (-1 : Int32)) G dV_minimum_16 (by decide) ?_
      obtain rfl := Option.some.inj h
      exact w_iret (pc := 17) G dV_minimum_17 Fh
