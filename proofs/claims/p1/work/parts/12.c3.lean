def rm_B_squareOf : Room := { frames := 1, cells := 0, slots := 0, locals := 24 }
theorem dB_squareOf_0 : decode cB_squareOf 0 = .ok (.aload_n 0, 1) := by decide +kernel
theorem dB_squareOf_1 : decode cB_squareOf 1 = .ok (.getfield 13, 3) := by decide +kernel
theorem dB_squareOf_4 : decode cB_squareOf 4 = .ok (.iload_n 1, 1) := by decide +kernel
theorem dB_squareOf_5 : decode cB_squareOf 5 = .ok (.aaload, 1) := by decide +kernel
theorem dB_squareOf_6 : decode cB_squareOf 6 = .ok (.aload_n 0, 1) := by decide +kernel
theorem dB_squareOf_7 : decode cB_squareOf 7 = .ok (.getfield 13, 3) := by decide +kernel
theorem dB_squareOf_10 : decode cB_squareOf 10 = .ok (.iload_n 1, 1) := by decide +kernel
theorem dB_squareOf_11 : decode cB_squareOf 11 = .ok (.aaload, 1) := by decide +kernel
theorem dB_squareOf_12 : decode cB_squareOf 12 = .ok (.invokestatic 63, 3) := by decide +kernel
theorem dB_squareOf_15 : decode cB_squareOf 15 = .ok (.lreturn, 1) := by decide +kernel
theorem cb_V_product_B_squareOf : CB yV_product cV_product 5 (some .long) rm_V_product rm_B_squareOf 2 := ⟨wd263, wd1, by decide +kernel, rfl, rfl, by decide⟩
noncomputable def B_squareOf (F : Nat)  (x_bR : Nat → Nat → Int64) (v1 : Int32) : Option (Int64) := gd (vp_in v1 4) (gd (vp_in v1 4) ((V_product F (x_bR v1.toNatClampNeg) (x_bR v1.toNatClampNeg) ).bind (fun r12 => some r12)))
set_option maxHeartbeats 8000000 in
set_option maxRecDepth 100000 in
theorem met_B_squareOf (κ : ctx) (τ : MS) (F : Nat) {x_added : Nat → Nat → Int64} {x_asked : Nat → Int64} {x_eR : Nat → Nat → Int64} {x_et : Nat → Int64} {x_oR : Nat → Nat → Int64} {x_ot : Nat → Int64} {x_bR : Nat → Nat → Int64} {x_bD : Nat → Nat → Int64} {x_bQ : Nat → Int64} {x_bW : Nat → Int64} {x_bS : Nat → Nat → Int64} {x_bM : Nat → Nat → Int64} {x_bT : Nat → Int64} {x_bn : Int32} {x_tg : Nat → Int64} {x_tb : Int64} {x_ts : Nat → Int32} {x_fg : Nat → Int64} {x_fb : Int64} {x_fV : Nat → Nat → Int64} {x_fS : Nat → Int64} {x_fn : Int32} {x_cg : Nat → Int64} {x_cb : Int64} {x_cB : Nat → Int64} {x_cq : Int64} {x_vHeld : Int32} {x_vRed : Int32} {x_vTal : Int32} {x_vLis : Int32} (v1 : Int32) {out : Int64} (h : B_squareOf F  x_bR v1 = some out) : Mt yB_squareOf cB_squareOf 2 (some .long) rm_B_squareOf κ [.ref (κ.1 38), .int v1] (LM κ τ (LC κ (x_added, x_asked, x_eR, x_et, x_oR, x_ot, x_bR, x_bD, x_bQ, x_bW, x_bS, x_bM, x_bT, x_bn, x_tg, x_tb, x_ts, x_fg, x_fb, x_fV, x_fS, x_fn, x_cg, x_cb, x_cB, x_cq, x_vHeld, x_vRed, x_vTal, x_vLis))) (some (.long out)) (LM κ τ (LC κ (x_added, x_asked, x_eR, x_et, x_oR, x_ot, x_bR, x_bD, x_bQ, x_bW, x_bS, x_bM, x_bT, x_bn, x_tg, x_tb, x_ts, x_fg, x_fb, x_fV, x_fS, x_fn, x_cg, x_cb, x_cB, x_cq, x_vHeld, x_vRed, x_vTal, x_vLis))) := by
  refine Mt.of (by decide) (Nat.le_of_ble_eq_true rfl) ?_
  intro g G Fh
  unfold B_squareOf at h
  show J g κ 2 0 [(0, .ref (κ.1 38)), (1, .int v1)] [] (LM κ τ (LC κ (x_added, x_asked, x_eR, x_et, x_oR, x_ot, x_bR, x_bD, x_bQ, x_bW, x_bS, x_bM, x_bT, x_bn, x_tg, x_tb, x_ts, x_fg, x_fb, x_fV, x_fS, x_fn, x_cg, x_cb, x_cB, x_cq, x_vHeld, x_vRed, x_vTal, x_vLis)))
  refine w_aload_n (pc := 0) (q := 0) G dB_squareOf_0 rfl rfl ?_
  refine w_get (pc := 1) (v := .ref (κ.1 39)) (fs := fl_B κ (x_added, x_asked, x_eR, x_et, x_oR, x_ot, x_bR, x_bD, x_bQ, x_bW, x_bS, x_bM, x_bT, x_bn, x_tg, x_tb, x_ts, x_fg, x_fb, x_fV, x_fS, x_fn, x_cg, x_cb, x_cB, x_cq, x_vHeld, x_vRed, x_vTal, x_vLis)) G 38 (by decide) lb_B rfl wsB_ok 0 (by decide) wd44 gf_B_0 dB_squareOf_1 ?_
  refine w_iload_n (pc := 4) (q := 1) G dB_squareOf_4 rfl rfl ?_
  obtain ⟨i5, h⟩ := gd_some h
  refine w_aald (pc := 5) (n := 4) (f := og κ 40 4) (b := κ.1 (40 + v1.toNatClampNeg)) G 39 (by decide) lo_bR i5 (og_at (ixlt i5)) dB_squareOf_5 ?_
  refine w_aload_n (pc := 6) (q := 0) G dB_squareOf_6 rfl rfl ?_
  refine w_get (pc := 7) (v := .ref (κ.1 39)) (fs := fl_B κ (x_added, x_asked, x_eR, x_et, x_oR, x_ot, x_bR, x_bD, x_bQ, x_bW, x_bS, x_bM, x_bT, x_bn, x_tg, x_tb, x_ts, x_fg, x_fb, x_fV, x_fS, x_fn, x_cg, x_cb, x_cB, x_cq, x_vHeld, x_vRed, x_vTal, x_vLis)) G 38 (by decide) lb_B rfl wsB_ok 0 (by decide) wd44 gf_B_0 dB_squareOf_7 ?_
  refine w_iload_n (pc := 10) (q := 1) G dB_squareOf_10 rfl rfl ?_
  obtain ⟨i11, h⟩ := gd_some h
  refine w_aald (pc := 11) (n := 4) (f := og κ 40 4) (b := κ.1 (40 + v1.toNatClampNeg)) G 39 (by decide) lo_bR i11 (og_at (ixlt i11)) dB_squareOf_11 ?_
  obtain ⟨r12, e12, h⟩ := bd h
  refine w_callSN (pc := 12) (av := [.ref (κ.1 (40 + v1.toNatClampNeg)), .ref (κ.1 (40 + v1.toNatClampNeg))]) (rest := []) (v := some (.long r12)) (L' := (LM κ τ (LC κ (x_added, x_asked, x_eR, x_et, x_oR, x_ot, x_bR, x_bD, x_bQ, x_bW, x_bS, x_bM, x_bT, x_bn, x_tg, x_tb, x_ts, x_fg, x_fb, x_fV, x_fS, x_fn, x_cg, x_cb, x_cB, x_cq, x_vHeld, x_vRed, x_vTal, x_vLis)))) G cb_V_product_B_squareOf wd262 wd261 (met_V_product κ (LM κ τ (LC κ (x_added, x_asked, x_eR, x_et, x_oR, x_ot, x_bR, x_bD, x_bQ, x_bW, x_bS, x_bM, x_bT, x_bn, x_tg, x_tb, x_ts, x_fg, x_fb, x_fV, x_fS, x_fn, x_cg, x_cb, x_cB, x_cq, x_vHeld, x_vRed, x_vTal, x_vLis))) F  (40 + v1.toNatClampNeg) (nw_bR (ixlt i5)) (x_bR v1.toNatClampNeg) (lk_bR (ixlt i5)) (40 + v1.toNatClampNeg) (nw_bR (ixlt i11)) (x_bR v1.toNatClampNeg) (lk_bR (ixlt i11)) e12) rfl rfl rfl (Nat.le_of_ble_eq_true rfl) dB_squareOf_12 ?_
  obtain rfl := Option.some.inj h
  exact w_lret (pc := 15) G dB_squareOf_15 Fh
def rm_B_leastSquare : Room := { frames := 2, cells := 0, slots := 0, locals := 45 }
theorem dB_leastSquare_0 : decode cB_leastSquare 0 = .ok (.aload_n 0, 1) := by decide +kernel
theorem dB_leastSquare_1 : decode cB_leastSquare 1 = .ok (.getfield 35, 3) := by decide +kernel
theorem dB_leastSquare_4 : decode cB_leastSquare 4 = .ok (.ifCond .ne 7, 3) := by decide +kernel
theorem dB_leastSquare_7 : decode cB_leastSquare 7 = .ok (.lconst 0, 1) := by decide +kernel
theorem dB_leastSquare_8 : decode cB_leastSquare 8 = .ok (.goto 8, 3) := by decide +kernel
theorem dB_leastSquare_11 : decode cB_leastSquare 11 = .ok (.aload_n 0, 1) := by decide +kernel
theorem dB_leastSquare_12 : decode cB_leastSquare 12 = .ok (.iconst 0, 1) := by decide +kernel
theorem dB_leastSquare_13 : decode cB_leastSquare 13 = .ok (.invokevirtual 67, 3) := by decide +kernel
theorem dB_leastSquare_16 : decode cB_leastSquare 16 = .ok (.lreturn, 1) := by decide +kernel
theorem cb_B_squareOf_B_leastSquare : CB yB_squareOf cB_squareOf 2 (some .long) rm_B_squareOf rm_B_leastSquare 1 := ⟨wd289, wd3, by decide +kernel, rfl, rfl, by decide⟩
noncomputable def B_leastSquare (F : Nat)  (x_bR : Nat → Nat → Int64) (x_bn : Int32)  : Option (Int64) := if x_bn = 0 then some (0 : Int64) else (B_squareOf F x_bR (0 : Int32)).bind (fun r13 => some r13)
set_option maxHeartbeats 8000000 in
set_option maxRecDepth 100000 in
theorem met_B_leastSquare (κ : ctx) (τ : MS) (F : Nat) {x_added : Nat → Nat → Int64} {x_asked : Nat → Int64} {x_eR : Nat → Nat → Int64} {x_et : Nat → Int64} {x_oR : Nat → Nat → Int64} {x_ot : Nat → Int64} {x_bR : Nat → Nat → Int64} {x_bD : Nat → Nat → Int64} {x_bQ : Nat → Int64} {x_bW : Nat → Int64} {x_bS : Nat → Nat → Int64} {x_bM : Nat → Nat → Int64} {x_bT : Nat → Int64} {x_bn : Int32} {x_tg : Nat → Int64} {x_tb : Int64} {x_ts : Nat → Int32} {x_fg : Nat → Int64} {x_fb : Int64} {x_fV : Nat → Nat → Int64} {x_fS : Nat → Int64} {x_fn : Int32} {x_cg : Nat → Int64} {x_cb : Int64} {x_cB : Nat → Int64} {x_cq : Int64} {x_vHeld : Int32} {x_vRed : Int32} {x_vTal : Int32} {x_vLis : Int32}  {out : Int64} (h : B_leastSquare F  x_bR x_bn  = some out) : Mt yB_leastSquare cB_leastSquare 1 (some .long) rm_B_leastSquare κ [.ref (κ.1 38)] (LM κ τ (LC κ (x_added, x_asked, x_eR, x_et, x_oR, x_ot, x_bR, x_bD, x_bQ, x_bW, x_bS, x_bM, x_bT, x_bn, x_tg, x_tb, x_ts, x_fg, x_fb, x_fV, x_fS, x_fn, x_cg, x_cb, x_cB, x_cq, x_vHeld, x_vRed, x_vTal, x_vLis))) (some (.long out)) (LM κ τ (LC κ (x_added, x_asked, x_eR, x_et, x_oR, x_ot, x_bR, x_bD, x_bQ, x_bW, x_bS, x_bM, x_bT, x_bn, x_tg, x_tb, x_ts, x_fg, x_fb, x_fV, x_fS, x_fn, x_cg, x_cb, x_cB, x_cq, x_vHeld, x_vRed, x_vTal, x_vLis))) := by
  refine Mt.of (by decide) (Nat.le_of_ble_eq_true rfl) ?_
  intro g G Fh
  unfold B_leastSquare at h
  show J g κ 1 0 [(0, .ref (κ.1 38))] [] (LM κ τ (LC κ (x_added, x_asked, x_eR, x_et, x_oR, x_ot, x_bR, x_bD, x_bQ, x_bW, x_bS, x_bM, x_bT, x_bn, x_tg, x_tb, x_ts, x_fg, x_fb, x_fV, x_fS, x_fn, x_cg, x_cb, x_cB, x_cq, x_vHeld, x_vRed, x_vTal, x_vLis)))
  refine w_aload_n (pc := 0) (q := 0) G dB_leastSquare_0 rfl rfl ?_
  refine w_get (pc := 1) (v := .int x_bn) (fs := fl_B κ (x_added, x_asked, x_eR, x_et, x_oR, x_ot, x_bR, x_bD, x_bQ, x_bW, x_bS, x_bM, x_bT, x_bn, x_tg, x_tb, x_ts, x_fg, x_fb, x_fV, x_fS, x_fn, x_cg, x_cb, x_cB, x_cq, x_vHeld, x_vRed, x_vTal, x_vLis)) G 38 (by decide) lb_B rfl wsB_ok 7 (by decide) wd51 gf_B_7 dB_leastSquare_1 ?_
  refine w_if_ne (pc := 4) (tgt := 11) G dB_leastSquare_4 (by decide) (fun c4 => ?_) (fun c4 => ?_)
  · have h := if_t c4 h
    refine w_lconst (pc := 7) (v := (0 : Int64)) G dB_leastSquare_7 (by decide) ?_
    refine w_goto (pc := 8) (tgt := 16) G dB_leastSquare_8 (by decide) ?_
    obtain rfl := Option.some.inj h
    exact w_lret (pc := 16) G dB_leastSquare_16 Fh
  · have h := if_f c4 h
    refine w_aload_n (pc := 11) (q := 0) G dB_leastSquare_11 rfl rfl ?_
    refine w_iconst (pc := 12) (v := (0 : Int32)) G dB_leastSquare_12 (by decide) ?_
    obtain ⟨r13, e13, h⟩ := bd h
    refine w_callV (pc := 13) (av := [.int (0 : Int32)]) (rest := []) (v := some (.long r13)) (L' := (LM κ τ (LC κ (x_added, x_asked, x_eR, x_et, x_oR, x_ot, x_bR, x_bD, x_bQ, x_bW, x_bS, x_bM, x_bT, x_bn, x_tg, x_tb, x_ts, x_fg, x_fb, x_fV, x_fS, x_fn, x_cg, x_cb, x_cB, x_cq, x_vHeld, x_vRed, x_vTal, x_vLis)))) (T := TB) (fs := fl_B κ (x_added, x_asked, x_eR, x_et, x_oR, x_ot, x_bR, x_bD, x_bQ, x_bW, x_bS, x_bM, x_bT, x_bn, x_tg, x_tb, x_ts, x_fg, x_fb, x_fV, x_fS, x_fn, x_cg, x_cb, x_cB, x_cq, x_vHeld, x_vRed, x_vTal, x_vLis)) G 38 3 8 (by decide) lb_B rfl cb_B_squareOf_B_leastSquare wd287 wd288 wd286 (met_B_squareOf κ τ F (0 : Int32)  e13) rfl rfl rfl (Nat.le_of_ble_eq_true rfl) dB_leastSquare_13 ?_
    obtain rfl := Option.some.inj h
    exact w_lret (pc := 16) G dB_leastSquare_16 Fh
def rm_B_shortenBy : Room := { frames := 2, cells := 0, slots := 0, locals := 70 }
theorem dB_shortenBy_0 : decode cB_shortenBy 0 = .ok (.aload_n 0, 1) := by decide +kernel
theorem dB_shortenBy_1 : decode cB_shortenBy 1 = .ok (.getfield 13, 3) := by decide +kernel
theorem dB_shortenBy_4 : decode cB_shortenBy 4 = .ok (.iload_n 1, 1) := by decide +kernel
theorem dB_shortenBy_5 : decode cB_shortenBy 5 = .ok (.aaload, 1) := by decide +kernel
theorem dB_shortenBy_6 : decode cB_shortenBy 6 = .ok (.aload_n 0, 1) := by decide +kernel
theorem dB_shortenBy_7 : decode cB_shortenBy 7 = .ok (.getfield 13, 3) := by decide +kernel
theorem dB_shortenBy_10 : decode cB_shortenBy 10 = .ok (.iload_n 2, 1) := by decide +kernel
theorem dB_shortenBy_11 : decode cB_shortenBy 11 = .ok (.aaload, 1) := by decide +kernel
theorem dB_shortenBy_12 : decode cB_shortenBy 12 = .ok (.invokestatic 63, 3) := by decide +kernel
theorem dB_shortenBy_15 : decode cB_shortenBy 15 = .ok (.lstore_n 3, 1) := by decide +kernel
theorem dB_shortenBy_16 : decode cB_shortenBy 16 = .ok (.aload_n 0, 1) := by decide +kernel
theorem dB_shortenBy_17 : decode cB_shortenBy 17 = .ok (.getfield 13, 3) := by decide +kernel
theorem dB_shortenBy_20 : decode cB_shortenBy 20 = .ok (.iload_n 2, 1) := by decide +kernel
theorem dB_shortenBy_21 : decode cB_shortenBy 21 = .ok (.aaload, 1) := by decide +kernel
theorem dB_shortenBy_22 : decode cB_shortenBy 22 = .ok (.aload_n 0, 1) := by decide +kernel
theorem dB_shortenBy_23 : decode cB_shortenBy 23 = .ok (.getfield 13, 3) := by decide +kernel
theorem dB_shortenBy_26 : decode cB_shortenBy 26 = .ok (.iload_n 2, 1) := by decide +kernel
theorem dB_shortenBy_27 : decode cB_shortenBy 27 = .ok (.aaload, 1) := by decide +kernel
theorem dB_shortenBy_28 : decode cB_shortenBy 28 = .ok (.invokestatic 63, 3) := by decide +kernel
theorem dB_shortenBy_31 : decode cB_shortenBy 31 = .ok (.lstore 5, 2) := by decide +kernel
theorem dB_shortenBy_33 : decode cB_shortenBy 33 = .ok (.ldc2_w 83, 3) := by decide +kernel
theorem dB_shortenBy_36 : decode cB_shortenBy 36 = .ok (.lload_n 3, 1) := by decide +kernel
theorem dB_shortenBy_37 : decode cB_shortenBy 37 = .ok (.invokestatic 85, 3) := by decide +kernel
theorem dB_shortenBy_40 : decode cB_shortenBy 40 = .ok (.lmul, 1) := by decide +kernel
theorem dB_shortenBy_41 : decode cB_shortenBy 41 = .ok (.lload 5, 2) := by decide +kernel
theorem dB_shortenBy_43 : decode cB_shortenBy 43 = .ok (.lcmp, 1) := by decide +kernel
theorem dB_shortenBy_44 : decode cB_shortenBy 44 = .ok (.ifCond .gt 5, 3) := by decide +kernel
theorem dB_shortenBy_47 : decode cB_shortenBy 47 = .ok (.iconst 0, 1) := by decide +kernel
theorem dB_shortenBy_48 : decode cB_shortenBy 48 = .ok (.ireturn, 1) := by decide +kernel
theorem dB_shortenBy_49 : decode cB_shortenBy 49 = .ok (.aload_n 0, 1) := by decide +kernel
theorem dB_shortenBy_50 : decode cB_shortenBy 50 = .ok (.getfield 13, 3) := by decide +kernel
theorem dB_shortenBy_53 : decode cB_shortenBy 53 = .ok (.iload_n 1, 1) := by decide +kernel
theorem dB_shortenBy_54 : decode cB_shortenBy 54 = .ok (.aaload, 1) := by decide +kernel
theorem dB_shortenBy_55 : decode cB_shortenBy 55 = .ok (.aload_n 0, 1) := by decide +kernel
theorem dB_shortenBy_56 : decode cB_shortenBy 56 = .ok (.getfield 13, 3) := by decide +kernel
theorem dB_shortenBy_59 : decode cB_shortenBy 59 = .ok (.iload_n 2, 1) := by decide +kernel
theorem dB_shortenBy_60 : decode cB_shortenBy 60 = .ok (.aaload, 1) := by decide +kernel
theorem dB_shortenBy_61 : decode cB_shortenBy 61 = .ok (.lload_n 3, 1) := by decide +kernel
theorem dB_shortenBy_62 : decode cB_shortenBy 62 = .ok (.lload 5, 2) := by decide +kernel
theorem dB_shortenBy_64 : decode cB_shortenBy 64 = .ok (.invokestatic 91, 3) := by decide +kernel
theorem dB_shortenBy_67 : decode cB_shortenBy 67 = .ok (.lneg, 1) := by decide +kernel
theorem dB_shortenBy_68 : decode cB_shortenBy 68 = .ok (.invokestatic 95, 3) := by decide +kernel
theorem dB_shortenBy_71 : decode cB_shortenBy 71 = .ok (.iconst 1, 1) := by decide +kernel
theorem dB_shortenBy_72 : decode cB_shortenBy 72 = .ok (.ireturn, 1) := by decide +kernel
theorem cb_V_addMultiple_B_shortenBy : CB yV_addMultiple cV_addMultiple 5 none rm_V_addMultiple rm_B_shortenBy 3 := ⟨wd187, wd1, by decide +kernel, rfl, rfl, by decide⟩
theorem cb_V_nearestQuotient_B_shortenBy : CB yV_nearestQuotient cV_nearestQuotient 4 (some .long) rm_V_nearestQuotient rm_B_shortenBy 2 := ⟨wd270, wd1, by decide +kernel, rfl, rfl, by decide⟩
theorem cb_V_product_B_shortenBy : CB yV_product cV_product 5 (some .long) rm_V_product rm_B_shortenBy 2 := ⟨wd263, wd1, by decide +kernel, rfl, rfl, by decide⟩
noncomputable def B_shortenBy (F : Nat)  (x_bR : Nat → Nat → Int64) (v1 : Int32) (v2 : Int32) : Option (Int32 × (Nat → Nat → Int64)) := gd (vp_in v1 4) (gd (vp_in v2 4) ((V_product F (x_bR v1.toNatClampNeg) (x_bR v2.toNatClampNeg) ).bind (fun r12 => gd (vp_in v2 4) (gd (vp_in v2 4) ((V_product F (x_bR v2.toNatClampNeg) (x_bR v2.toNatClampNeg) ).bind (fun r28 => if r28 < ((2 : Int64) * (if 0 < r12 then r12 else -r12)) then gd (vp_in v1 4) (gd (vp_in v2 4) ((V_nearestQuotient F  r12 r28).bind (fun r64 => gd (¬ v2.toNatClampNeg = v1.toNatClampNeg) ((V_addMultiple F (x_bR v1.toNatClampNeg) (x_bR v2.toNatClampNeg) (-r64)).bind (fun r68 => some ((1 : Int32), va_up x_bR v1.toNatClampNeg r68)))))) else some ((0 : Int32), x_bR)))))))
set_option maxHeartbeats 8000000 in
set_option maxRecDepth 100000 in
theorem met_B_shortenBy (κ : ctx) (τ : MS) (F : Nat) {x_added : Nat → Nat → Int64} {x_asked : Nat → Int64} {x_eR : Nat → Nat → Int64} {x_et : Nat → Int64} {x_oR : Nat → Nat → Int64} {x_ot : Nat → Int64} {x_bR : Nat → Nat → Int64} {x_bD : Nat → Nat → Int64} {x_bQ : Nat → Int64} {x_bW : Nat → Int64} {x_bS : Nat → Nat → Int64} {x_bM : Nat → Nat → Int64} {x_bT : Nat → Int64} {x_bn : Int32} {x_tg : Nat → Int64} {x_tb : Int64} {x_ts : Nat → Int32} {x_fg : Nat → Int64} {x_fb : Int64} {x_fV : Nat → Nat → Int64} {x_fS : Nat → Int64} {x_fn : Int32} {x_cg : Nat → Int64} {x_cb : Int64} {x_cB : Nat → Int64} {x_cq : Int64} {x_vHeld : Int32} {x_vRed : Int32} {x_vTal : Int32} {x_vLis : Int32} (v1 : Int32) (v2 : Int32) {out : Int32 × (Nat → Nat → Int64)} (h : B_shortenBy F  x_bR v1 v2 = some out) : Mt yB_shortenBy cB_shortenBy 7 (some .boolean) rm_B_shortenBy κ [.ref (κ.1 38), .int v1, .int v2] (LM κ τ (LC κ (x_added, x_asked, x_eR, x_et, x_oR, x_ot, x_bR, x_bD, x_bQ, x_bW, x_bS, x_bM, x_bT, x_bn, x_tg, x_tb, x_ts, x_fg, x_fb, x_fV, x_fS, x_fn, x_cg, x_cb, x_cB, x_cq, x_vHeld, x_vRed, x_vTal, x_vLis))) (some (.int out.1)) (LM κ τ (LC κ (x_added, x_asked, x_eR, x_et, x_oR, x_ot, out.2, x_bD, x_bQ, x_bW, x_bS, x_bM, x_bT, x_bn, x_tg, x_tb, x_ts, x_fg, x_fb, x_fV, x_fS, x_fn, x_cg, x_cb, x_cB, x_cq, x_vHeld, x_vRed, x_vTal, x_vLis))) := by
  refine Mt.of (by decide) (Nat.le_of_ble_eq_true rfl) ?_
  intro g G Fh
  unfold B_shortenBy at h
  show J g κ 7 0 [(0, .ref (κ.1 38)), (1, .int v1), (2, .int v2)] [] (LM κ τ (LC κ (x_added, x_asked, x_eR, x_et, x_oR, x_ot, x_bR, x_bD, x_bQ, x_bW, x_bS, x_bM, x_bT, x_bn, x_tg, x_tb, x_ts, x_fg, x_fb, x_fV, x_fS, x_fn, x_cg, x_cb, x_cB, x_cq, x_vHeld, x_vRed, x_vTal, x_vLis)))
  refine w_aload_n (pc := 0) (q := 0) G dB_shortenBy_0 rfl rfl ?_
  refine w_get (pc := 1) (v := .ref (κ.1 39)) (fs := fl_B κ (x_added, x_asked, x_eR, x_et, x_oR, x_ot, x_bR, x_bD, x_bQ, x_bW, x_bS, x_bM, x_bT, x_bn, x_tg, x_tb, x_ts, x_fg, x_fb, x_fV, x_fS, x_fn, x_cg, x_cb, x_cB, x_cq, x_vHeld, x_vRed, x_vTal, x_vLis)) G 38 (by decide) lb_B rfl wsB_ok 0 (by decide) wd44 gf_B_0 dB_shortenBy_1 ?_
  refine w_iload_n (pc := 4) (q := 1) G dB_shortenBy_4 rfl rfl ?_
  obtain ⟨i5, h⟩ := gd_some h
  refine w_aald (pc := 5) (n := 4) (f := og κ 40 4) (b := κ.1 (40 + v1.toNatClampNeg)) G 39 (by decide) lo_bR i5 (og_at (ixlt i5)) dB_shortenBy_5 ?_
  refine w_aload_n (pc := 6) (q := 0) G dB_shortenBy_6 rfl rfl ?_
  refine w_get (pc := 7) (v := .ref (κ.1 39)) (fs := fl_B κ (x_added, x_asked, x_eR, x_et, x_oR, x_ot, x_bR, x_bD, x_bQ, x_bW, x_bS, x_bM, x_bT, x_bn, x_tg, x_tb, x_ts, x_fg, x_fb, x_fV, x_fS, x_fn, x_cg, x_cb, x_cB, x_cq, x_vHeld, x_vRed, x_vTal, x_vLis)) G 38 (by decide) lb_B rfl wsB_ok 0 (by decide) wd44 gf_B_0 dB_shortenBy_7 ?_
  refine w_iload_n (pc := 10) (q := 2) G dB_shortenBy_10 rfl rfl ?_
  obtain ⟨i11, h⟩ := gd_some h
  refine w_aald (pc := 11) (n := 4) (f := og κ 40 4) (b := κ.1 (40 + v2.toNatClampNeg)) G 39 (by decide) lo_bR i11 (og_at (ixlt i11)) dB_shortenBy_11 ?_
  obtain ⟨r12, e12, h⟩ := bd h
  refine w_callSN (pc := 12) (av := [.ref (κ.1 (40 + v1.toNatClampNeg)), .ref (κ.1 (40 + v2.toNatClampNeg))]) (rest := []) (v := some (.long r12)) (L' := (LM κ τ (LC κ (x_added, x_asked, x_eR, x_et, x_oR, x_ot, x_bR, x_bD, x_bQ, x_bW, x_bS, x_bM, x_bT, x_bn, x_tg, x_tb, x_ts, x_fg, x_fb, x_fV, x_fS, x_fn, x_cg, x_cb, x_cB, x_cq, x_vHeld, x_vRed, x_vTal, x_vLis)))) G cb_V_product_B_shortenBy wd262 wd261 (met_V_product κ (LM κ τ (LC κ (x_added, x_asked, x_eR, x_et, x_oR, x_ot, x_bR, x_bD, x_bQ, x_bW, x_bS, x_bM, x_bT, x_bn, x_tg, x_tb, x_ts, x_fg, x_fb, x_fV, x_fS, x_fn, x_cg, x_cb, x_cB, x_cq, x_vHeld, x_vRed, x_vTal, x_vLis))) F  (40 + v1.toNatClampNeg) (nw_bR (ixlt i5)) (x_bR v1.toNatClampNeg) (lk_bR (ixlt i5)) (40 + v2.toNatClampNeg) (nw_bR (ixlt i11)) (x_bR v2.toNatClampNeg) (lk_bR (ixlt i11)) e12) rfl rfl rfl (Nat.le_of_ble_eq_true rfl) dB_shortenBy_12 ?_
  refine w_lstore_n (pc := 15) (lv' := [(3, .long r12), (0, .ref (κ.1 38)), (1, .int v1), (2, .int v2)]) G dB_shortenBy_15 rfl (by decide) rfl ?_
  refine w_aload_n (pc := 16) (q := 1) G dB_shortenBy_16 rfl rfl ?_
  refine w_get (pc := 17) (v := .ref (κ.1 39)) (fs := fl_B κ (x_added, x_asked, x_eR, x_et, x_oR, x_ot, x_bR, x_bD, x_bQ, x_bW, x_bS, x_bM, x_bT, x_bn, x_tg, x_tb, x_ts, x_fg, x_fb, x_fV, x_fS, x_fn, x_cg, x_cb, x_cB, x_cq, x_vHeld, x_vRed, x_vTal, x_vLis)) G 38 (by decide) lb_B rfl wsB_ok 0 (by decide) wd44 gf_B_0 dB_shortenBy_17 ?_
  refine w_iload_n (pc := 20) (q := 3) G dB_shortenBy_20 rfl rfl ?_
  obtain ⟨i21, h⟩ := gd_some h
  refine w_aald (pc := 21) (n := 4) (f := og κ 40 4) (b := κ.1 (40 + v2.toNatClampNeg)) G 39 (by decide) lo_bR i21 (og_at (ixlt i21)) dB_shortenBy_21 ?_
  refine w_aload_n (pc := 22) (q := 1) G dB_shortenBy_22 rfl rfl ?_
  refine w_get (pc := 23) (v := .ref (κ.1 39)) (fs := fl_B κ (x_added, x_asked, x_eR, x_et, x_oR, x_ot, x_bR, x_bD, x_bQ, x_bW, x_bS, x_bM, x_bT, x_bn, x_tg, x_tb, x_ts, x_fg, x_fb, x_fV, x_fS, x_fn, x_cg, x_cb, x_cB, x_cq, x_vHeld, x_vRed, x_vTal, x_vLis)) G 38 (by decide) lb_B rfl wsB_ok 0 (by decide) wd44 gf_B_0 dB_shortenBy_23 ?_
  refine w_iload_n (pc := 26) (q := 3) G dB_shortenBy_26 rfl rfl ?_
  obtain ⟨i27, h⟩ := gd_some h
  refine w_aald (pc := 27) (n := 4) (f := og κ 40 4) (b := κ.1 (40 + v2.toNatClampNeg)) G 39 (by decide) lo_bR i27 (og_at (ixlt i27)) dB_shortenBy_27 ?_
  obtain ⟨r28, e28, h⟩ := bd h
  refine w_callSN (pc := 28) (av := [.ref (κ.1 (40 + v2.toNatClampNeg)), .ref (κ.1 (40 + v2.toNatClampNeg))]) (rest := []) (v := some (.long r28)) (L' := (LM κ τ (LC κ (x_added, x_asked, x_eR, x_et, x_oR, x_ot, x_bR, x_bD, x_bQ, x_bW, x_bS, x_bM, x_bT, x_bn, x_tg, x_tb, x_ts, x_fg, x_fb, x_fV, x_fS, x_fn, x_cg, x_cb, x_cB, x_cq, x_vHeld, x_vRed, x_vTal, x_vLis)))) G cb_V_product_B_shortenBy wd262 wd261 (met_V_product κ (LM κ τ (LC κ (x_added, x_asked, x_eR, x_et, x_oR, x_ot, x_bR, x_bD, x_bQ, x_bW, x_bS, x_bM, x_bT, x_bn, x_tg, x_tb, x_ts, x_fg, x_fb, x_fV, x_fS, x_fn, x_cg, x_cb, x_cB, x_cq, x_vHeld, x_vRed, x_vTal, x_vLis))) F  (40 + v2.toNatClampNeg) (nw_bR (ixlt i21)) (x_bR v2.toNatClampNeg) (lk_bR (ixlt i21)) (40 + v2.toNatClampNeg) (nw_bR (ixlt i27)) (x_bR v2.toNatClampNeg) (lk_bR (ixlt i27)) e28) rfl rfl rfl (Nat.le_of_ble_eq_true rfl) dB_shortenBy_28 ?_
  refine w_lstore (pc := 31) (lv' := [(5, .long r28), (3, .long r12), (0, .ref (κ.1 38)), (1, .int v1), (2, .int v2)]) G dB_shortenBy_31 (by decide) rfl ?_
  refine w_ldc2 (pc := 33) (v := (2 : Int64)) G wd264 dB_shortenBy_33 ?_
  refine w_lload_n (pc := 36) (q := 1) G dB_shortenBy_36 rfl rfl ?_
  refine w_abs (pc := 37) G wd265 wd266 wd10 wd267 (by decide) (Nat.le_of_ble_eq_true rfl) dB_shortenBy_37 ?_
  refine w_lmul (pc := 40) G dB_shortenBy_40 ?_
  refine w_lload (pc := 41) (q := 0) G dB_shortenBy_41 rfl ?_
  refine w_lc_gt (pc := 43) (tgt := 49) G dB_shortenBy_43 dB_shortenBy_44 (by decide) (fun c43 => ?_) (fun c43 => ?_)
  · have h := if_t c43 h
    refine w_aload_n (pc := 49) (q := 2) G dB_shortenBy_49 rfl rfl ?_
    refine w_get (pc := 50) (v := .ref (κ.1 39)) (fs := fl_B κ (x_added, x_asked, x_eR, x_et, x_oR, x_ot, x_bR, x_bD, x_bQ, x_bW, x_bS, x_bM, x_bT, x_bn, x_tg, x_tb, x_ts, x_fg, x_fb, x_fV, x_fS, x_fn, x_cg, x_cb, x_cB, x_cq, x_vHeld, x_vRed, x_vTal, x_vLis)) G 38 (by decide) lb_B rfl wsB_ok 0 (by decide) wd44 gf_B_0 dB_shortenBy_50 ?_
    refine w_iload_n (pc := 53) (q := 3) G dB_shortenBy_53 rfl rfl ?_
    obtain ⟨i54, h⟩ := gd_some h
    refine w_aald (pc := 54) (n := 4) (f := og κ 40 4) (b := κ.1 (40 + v1.toNatClampNeg)) G 39 (by decide) lo_bR i54 (og_at (ixlt i54)) dB_shortenBy_54 ?_
    refine w_aload_n (pc := 55) (q := 2) G dB_shortenBy_55 rfl rfl ?_
    refine w_get (pc := 56) (v := .ref (κ.1 39)) (fs := fl_B κ (x_added, x_asked, x_eR, x_et, x_oR, x_ot, x_bR, x_bD, x_bQ, x_bW, x_bS, x_bM, x_bT, x_bn, x_tg, x_tb, x_ts, x_fg, x_fb, x_fV, x_fS, x_fn, x_cg, x_cb, x_cB, x_cq, x_vHeld, x_vRed, x_vTal, x_vLis)) G 38 (by decide) lb_B rfl wsB_ok 0 (by decide) wd44 gf_B_0 dB_shortenBy_56 ?_
    refine w_iload_n (pc := 59) (q := 4) G dB_shortenBy_59 rfl rfl ?_
    obtain ⟨i60, h⟩ := gd_some h
    refine w_aald (pc := 60) (n := 4) (f := og κ 40 4) (b := κ.1 (40 + v2.toNatClampNeg)) G 39 (by decide) lo_bR i60 (og_at (ixlt i60)) dB_shortenBy_60 ?_
    refine w_lload_n (pc := 61) (q := 1) G dB_shortenBy_61 rfl rfl ?_
    refine w_lload (pc := 62) (q := 0) G dB_shortenBy_62 rfl ?_
    obtain ⟨r64, e64, h⟩ := bd h
    refine w_callSN (pc := 64) (av := [.long r12, .long r28]) (rest := [.ref (κ.1 (40 + v2.toNatClampNeg)), .ref (κ.1 (40 + v1.toNatClampNeg))]) (v := some (.long r64)) (L' := (LM κ τ (LC κ (x_added, x_asked, x_eR, x_et, x_oR, x_ot, x_bR, x_bD, x_bQ, x_bW, x_bS, x_bM, x_bT, x_bn, x_tg, x_tb, x_ts, x_fg, x_fb, x_fV, x_fS, x_fn, x_cg, x_cb, x_cB, x_cq, x_vHeld, x_vRed, x_vTal, x_vLis)))) G cb_V_nearestQuotient_B_shortenBy wd269 wd268 (met_V_nearestQuotient κ (LM κ τ (LC κ (x_added, x_asked, x_eR, x_et, x_oR, x_ot, x_bR, x_bD, x_bQ, x_bW, x_bS, x_bM, x_bT, x_bn, x_tg, x_tb, x_ts, x_fg, x_fb, x_fV, x_fS, x_fn, x_cg, x_cb, x_cB, x_cq, x_vHeld, x_vRed, x_vTal, x_vLis))) F r12 r28  e64) rfl rfl rfl (Nat.le_of_ble_eq_true rfl) dB_shortenBy_64 ?_
    refine w_lneg (pc := 67) G dB_shortenBy_67 ?_
    obtain ⟨ne68, h⟩ := gd_some h
    obtain ⟨r68, e68, h⟩ := bd h
    refine w_callSN (pc := 68) (av := [.ref (κ.1 (40 + v1.toNatClampNeg)), .ref (κ.1 (40 + v2.toNatClampNeg)), .long (-r64)]) (rest := []) (v := none) (L' := (LM κ τ (LC κ (x_added, x_asked, x_eR, x_et, x_oR, x_ot, va_up x_bR v1.toNatClampNeg r68, x_bD, x_bQ, x_bW, x_bS, x_bM, x_bT, x_bn, x_tg, x_tb, x_ts, x_fg, x_fb, x_fV, x_fS, x_fn, x_cg, x_cb, x_cB, x_cq, x_vHeld, x_vRed, x_vTal, x_vLis)))) G cb_V_addMultiple_B_shortenBy wd186 wd273 (Mt.eqw (up_bR (ixlt i54)) (met_V_addMultiple κ (LM κ τ (LC κ (x_added, x_asked, x_eR, x_et, x_oR, x_ot, x_bR, x_bD, x_bQ, x_bW, x_bS, x_bM, x_bT, x_bn, x_tg, x_tb, x_ts, x_fg, x_fb, x_fV, x_fS, x_fn, x_cg, x_cb, x_cB, x_cq, x_vHeld, x_vRed, x_vTal, x_vLis))) F (-r64) (40 + v1.toNatClampNeg) (nw_bR (ixlt i54)) (x_bR v1.toNatClampNeg) (lk_bR (ixlt i54)) (40 + v2.toNatClampNeg) (nw_bR (ixlt i60)) (x_bR v2.toNatClampNeg) (lk_bR (ixlt i60)) (fun q => ne68 (by omega)) e68)) rfl rfl rfl (Nat.le_of_ble_eq_true rfl) dB_shortenBy_68 ?_
    refine w_iconst (pc := 71) (v := (1 : Int32)) G dB_shortenBy_71 (by decide) ?_
    obtain rfl := Option.some.inj h
    exact w_zret (pc := 72) G rfl dB_shortenBy_72 Fh
  · have h := if_f c43 h
    refine w_iconst (pc := 47) (v := (0 : Int32)) G dB_shortenBy_47 (by decide) ?_
    obtain rfl := Option.some.inj h
    exact w_zret (pc := 48) G rfl dB_shortenBy_48 Fh
def rm_B_shortenByPairs : Room := { frames := 3, cells := 0, slots := 0, locals := 96 }
theorem dB_shortenByPairs_0 : decode cB_shortenByPairs 0 = .ok (.iconst 0, 1) := by decide +kernel
theorem dB_shortenByPairs_1 : decode cB_shortenByPairs 1 = .ok (.istore_n 1, 1) := by decide +kernel
theorem dB_shortenByPairs_2 : decode cB_shortenByPairs 2 = .ok (.iconst 0, 1) := by decide +kernel
theorem dB_shortenByPairs_3 : decode cB_shortenByPairs 3 = .ok (.istore_n 2, 1) := by decide +kernel
theorem dB_shortenByPairs_4 : decode cB_shortenByPairs 4 = .ok (.iload_n 2, 1) := by decide +kernel
theorem dB_shortenByPairs_5 : decode cB_shortenByPairs 5 = .ok (.aload_n 0, 1) := by decide +kernel
theorem dB_shortenByPairs_6 : decode cB_shortenByPairs 6 = .ok (.getfield 35, 3) := by decide +kernel
theorem dB_shortenByPairs_9 : decode cB_shortenByPairs 9 = .ok (.if_icmp .ge 41, 3) := by decide +kernel
theorem dB_shortenByPairs_12 : decode cB_shortenByPairs 12 = .ok (.iconst 0, 1) := by decide +kernel
theorem dB_shortenByPairs_13 : decode cB_shortenByPairs 13 = .ok (.istore_n 3, 1) := by decide +kernel
theorem dB_shortenByPairs_14 : decode cB_shortenByPairs 14 = .ok (.iload_n 3, 1) := by decide +kernel
theorem dB_shortenByPairs_15 : decode cB_shortenByPairs 15 = .ok (.aload_n 0, 1) := by decide +kernel
theorem dB_shortenByPairs_16 : decode cB_shortenByPairs 16 = .ok (.getfield 35, 3) := by decide +kernel
theorem dB_shortenByPairs_19 : decode cB_shortenByPairs 19 = .ok (.if_icmp .ge 25, 3) := by decide +kernel
theorem dB_shortenByPairs_22 : decode cB_shortenByPairs 22 = .ok (.iload_n 3, 1) := by decide +kernel
theorem dB_shortenByPairs_23 : decode cB_shortenByPairs 23 = .ok (.iload_n 2, 1) := by decide +kernel
theorem dB_shortenByPairs_24 : decode cB_shortenByPairs 24 = .ok (.if_icmp .eq 14, 3) := by decide +kernel
theorem dB_shortenByPairs_27 : decode cB_shortenByPairs 27 = .ok (.aload_n 0, 1) := by decide +kernel
theorem dB_shortenByPairs_28 : decode cB_shortenByPairs 28 = .ok (.iload_n 2, 1) := by decide +kernel
theorem dB_shortenByPairs_29 : decode cB_shortenByPairs 29 = .ok (.iload_n 3, 1) := by decide +kernel
theorem dB_shortenByPairs_30 : decode cB_shortenByPairs 30 = .ok (.invokevirtual 79, 3) := by decide +kernel
theorem dB_shortenByPairs_33 : decode cB_shortenByPairs 33 = .ok (.ifCond .eq 5, 3) := by decide +kernel
theorem dB_shortenByPairs_36 : decode cB_shortenByPairs 36 = .ok (.iconst 1, 1) := by decide +kernel
theorem dB_shortenByPairs_37 : decode cB_shortenByPairs 37 = .ok (.istore_n 1, 1) := by decide +kernel
theorem dB_shortenByPairs_38 : decode cB_shortenByPairs 38 = .ok (.iinc 3 1, 3) := by decide +kernel
theorem dB_shortenByPairs_41 : decode cB_shortenByPairs 41 = .ok (.goto (-27), 3) := by decide +kernel
theorem dB_shortenByPairs_44 : decode cB_shortenByPairs 44 = .ok (.iinc 2 1, 3) := by decide +kernel
theorem dB_shortenByPairs_47 : decode cB_shortenByPairs 47 = .ok (.goto (-43), 3) := by decide +kernel
theorem dB_shortenByPairs_50 : decode cB_shortenByPairs 50 = .ok (.iload_n 1, 1) := by decide +kernel
theorem dB_shortenByPairs_51 : decode cB_shortenByPairs 51 = .ok (.ireturn, 1) := by decide +kernel
theorem cb_B_shortenBy_B_shortenByPairs : CB yB_shortenBy cB_shortenBy 7 (some .boolean) rm_B_shortenBy rm_B_shortenByPairs 2 := ⟨wd260, wd3, by decide +kernel, rfl, rfl, by decide⟩
noncomputable def lB_shortenByPairs_14 (F : Nat) (x_bn : Int32) (v2 : Int32) : Nat → Int32 → Int32 → (Nat → Nat → Int64) → Option (Int32 × (Nat → Nat → Int64))
  | 0, _, _, _ => none
  | n + 1, v1, v3, x_bR => if x_bn ≤ v3 then some (v1, x_bR) else if v3 = v2 then lB_shortenByPairs_14 F  x_bn v2 n v1 (v3 + 1) x_bR else (B_shortenBy F x_bR v2 v3).bind (fun r30 => if r30.1 = 0 then lB_shortenByPairs_14 F  x_bn v2 n v1 (v3 + 1) r30.2 else lB_shortenByPairs_14 F  x_bn v2 n (1 : Int32) (v3 + 1) r30.2)
set_option maxHeartbeats 8000000 in
set_option maxRecDepth 100000 in
theorem lB_shortenByPairs_14_ok {g : Gm} {κ : ctx} (G : OK g κ RB cB_shortenByPairs 4 (some .boolean) rm_B_shortenByPairs) (τ : MS) (F : Nat) {x_added : Nat → Nat → Int64} {x_asked : Nat → Int64} {x_eR : Nat → Nat → Int64} {x_et : Nat → Int64} {x_oR : Nat → Nat → Int64} {x_ot : Nat → Int64} {x_bD : Nat → Nat → Int64} {x_bQ : Nat → Int64} {x_bW : Nat → Int64} {x_bS : Nat → Nat → Int64} {x_bM : Nat → Nat → Int64} {x_bT : Nat → Int64} {x_bn : Int32} {x_tg : Nat → Int64} {x_tb : Int64} {x_ts : Nat → Int32} {x_fg : Nat → Int64} {x_fb : Int64} {x_fV : Nat → Nat → Int64} {x_fS : Nat → Int64} {x_fn : Int32} {x_cg : Nat → Int64} {x_cb : Int64} {x_cB : Nat → Int64} {x_cq : Int64} {x_vHeld : Int32} {x_vRed : Int32} {x_vTal : Int32} {x_vLis : Int32} (v2 : Int32) : ∀ (n : Nat) (v1 : Int32) (v3 : Int32) (x_bR : Nat → Nat → Int64) (out : Int32 × (Nat → Nat → Int64)), lB_shortenByPairs_14 F  x_bn v2 n v1 v3 x_bR = some out → (J g κ 4 44 [(0, .ref (κ.1 38)), (1, .int out.1), (2, .int v2)] [] (LM κ τ (LC κ (x_added, x_asked, x_eR, x_et, x_oR, x_ot, out.2, x_bD, x_bQ, x_bW, x_bS, x_bM, x_bT, x_bn, x_tg, x_tb, x_ts, x_fg, x_fb, x_fV, x_fS, x_fn, x_cg, x_cb, x_cB, x_cq, x_vHeld, x_vRed, x_vTal, x_vLis)))) → J g κ 4 14 [(0, .ref (κ.1 38)), (1, .int v1), (2, .int v2), (3, .int v3)] [] (LM κ τ (LC κ (x_added, x_asked, x_eR, x_et, x_oR, x_ot, x_bR, x_bD, x_bQ, x_bW, x_bS, x_bM, x_bT, x_bn, x_tg, x_tb, x_ts, x_fg, x_fb, x_fV, x_fS, x_fn, x_cg, x_cb, x_cB, x_cq, x_vHeld, x_vRed, x_vTal, x_vLis))) := by
  intro n
  induction n with
  | zero =>
    intro v1 v3 x_bR
    intro out h
    rw [lB_shortenByPairs_14] at h
    cases h
  | succ n ih =>
    intro v1 v3 x_bR out h K
    rw [lB_shortenByPairs_14] at h
    refine w_iload_n (pc := 14) (q := 3) G dB_shortenByPairs_14 rfl rfl ?_
    refine w_aload_n (pc := 15) (q := 0) G dB_shortenByPairs_15 rfl rfl ?_
    refine w_get (pc := 16) (v := .int x_bn) (fs := fl_B κ (x_added, x_asked, x_eR, x_et, x_oR, x_ot, x_bR, x_bD, x_bQ, x_bW, x_bS, x_bM, x_bT, x_bn, x_tg, x_tb, x_ts, x_fg, x_fb, x_fV, x_fS, x_fn, x_cg, x_cb, x_cB, x_cq, x_vHeld, x_vRed, x_vTal, x_vLis)) G 38 (by decide) lb_B rfl wsB_ok 7 (by decide) wd51 gf_B_7 dB_shortenByPairs_16 ?_
    refine w_icmp_ge (pc := 19) (tgt := 44) G dB_shortenByPairs_19 (by decide) (fun c19 => ?_) (fun c19 => ?_)
    · have h := if_t c19 h
      obtain rfl := Option.some.inj h
      refine w_sub (lv' := [(0, .ref (κ.1 38)), (1, .int v1), (2, .int v2)]) [0, 1, 2] rfl ?_
      exact K
    · have h := if_f c19 h
      refine w_iload_n (pc := 22) (q := 3) G dB_shortenByPairs_22 rfl rfl ?_
      refine w_iload_n (pc := 23) (q := 2) G dB_shortenByPairs_23 rfl rfl ?_
      refine w_icmp_eq (pc := 24) (tgt := 38) G dB_shortenByPairs_24 (by decide) (fun c24 => ?_) (fun c24 => ?_)
      · have h := if_t c24 h
        refine w_iinc (pc := 38) (q0 := 3) (v := (v3 + 1)) (lv' := [(3, .int (v3 + 1)), (0, .ref (κ.1 38)), (1, .int v1), (2, .int v2)]) G dB_shortenByPairs_38 rfl rfl (by decide) rfl ?_
        refine w_goto (pc := 41) (tgt := 14) G dB_shortenByPairs_41 (by decide) ?_
        refine w_sub (lv' := [(0, .ref (κ.1 38)), (1, .int v1), (2, .int v2), (3, .int (v3 + 1))]) [1, 2, 3, 0] rfl ?_
        exact ih v1 (v3 + 1) x_bR out h K
      · have h := if_f c24 h
        refine w_aload_n (pc := 27) (q := 0) G dB_shortenByPairs_27 rfl rfl ?_
        refine w_iload_n (pc := 28) (q := 2) G dB_shortenByPairs_28 rfl rfl ?_
        refine w_iload_n (pc := 29) (q := 3) G dB_shortenByPairs_29 rfl rfl ?_
        obtain ⟨r30, e30, h⟩ := bd h
        refine w_callV (pc := 30) (av := [.int v2, .int v3]) (rest := []) (v := some (.int r30.1)) (L' := (LM κ τ (LC κ (x_added, x_asked, x_eR, x_et, x_oR, x_ot, r30.2, x_bD, x_bQ, x_bW, x_bS, x_bM, x_bT, x_bn, x_tg, x_tb, x_ts, x_fg, x_fb, x_fV, x_fS, x_fn, x_cg, x_cb, x_cB, x_cq, x_vHeld, x_vRed, x_vTal, x_vLis)))) (T := TB) (fs := fl_B κ (x_added, x_asked, x_eR, x_et, x_oR, x_ot, x_bR, x_bD, x_bQ, x_bW, x_bS, x_bM, x_bT, x_bn, x_tg, x_tb, x_ts, x_fg, x_fb, x_fV, x_fS, x_fn, x_cg, x_cb, x_cB, x_cq, x_vHeld, x_vRed, x_vTal, x_vLis)) G 38 3 8 (by decide) lb_B rfl cb_B_shortenBy_B_shortenByPairs wd259 ws8 wd257 (met_B_shortenBy κ τ F v2 v3  e30) rfl rfl rfl (Nat.le_of_ble_eq_true rfl) dB_shortenByPairs_30 ?_
        refine w_if_eq (pc := 33) (tgt := 38) G dB_shortenByPairs_33 (by decide) (fun c33 => ?_) (fun c33 => ?_)
        · have h := if_t c33 h
          refine w_iinc (pc := 38) (q0 := 3) (v := (v3 + 1)) (lv' := [(3, .int (v3 + 1)), (0, .ref (κ.1 38)), (1, .int v1), (2, .int v2)]) G dB_shortenByPairs_38 rfl rfl (by decide) rfl ?_
          refine w_goto (pc := 41) (tgt := 14) G dB_shortenByPairs_41 (by decide) ?_
          refine w_sub (lv' := [(0, .ref (κ.1 38)), (1, .int v1), (2, .int v2), (3, .int (v3 + 1))]) [1, 2, 3, 0] rfl ?_
          exact ih v1 (v3 + 1) r30.2 out h K
        · have h := if_f c33 h
          refine w_iconst (pc := 36) (v := (1 : Int32)) G dB_shortenByPairs_36 (by decide) ?_
          refine w_istore_n (pc := 37) (lv' := [(1, .int (1 : Int32)), (0, .ref (κ.1 38)), (2, .int v2), (3, .int v3)]) G dB_shortenByPairs_37 rfl (by decide) rfl ?_
          refine w_iinc (pc := 38) (q0 := 3) (v := (v3 + 1)) (lv' := [(3, .int (v3 + 1)), (1, .int (1 : Int32)), (0, .ref (κ.1 38)), (2, .int v2)]) G dB_shortenByPairs_38 rfl rfl (by decide) rfl ?_
          refine w_goto (pc := 41) (tgt := 14) G dB_shortenByPairs_41 (by decide) ?_
          refine w_sub (lv' := [(0, .ref (κ.1 38)), (1, .int (1 : Int32)), (2, .int v2), (3, .int (v3 + 1))]) [2, 1, 3, 0] rfl ?_
          exact ih (1 : Int32) (v3 + 1) r30.2 out h K
noncomputable def lB_shortenByPairs_4 (F : Nat) (x_bn : Int32) : Nat → Int32 → Int32 → (Nat → Nat → Int64) → Option (Int32 × (Nat → Nat → Int64))
  | 0, _, _, _ => none
  | n + 1, v1, v2, x_bR => if x_bn ≤ v2 then some (v1, x_bR) else (lB_shortenByPairs_14 F  x_bn v2 F v1 (0 : Int32) x_bR).bind (fun o14_28 => lB_shortenByPairs_4 F  x_bn n o14_28.1 (v2 + 1) o14_28.2)
set_option maxHeartbeats 8000000 in
set_option maxRecDepth 100000 in
theorem lB_shortenByPairs_4_ok {g : Gm} {κ : ctx} (G : OK g κ RB cB_shortenByPairs 4 (some .boolean) rm_B_shortenByPairs) (τ : MS) (F : Nat) {x_added : Nat → Nat → Int64} {x_asked : Nat → Int64} {x_eR : Nat → Nat → Int64} {x_et : Nat → Int64} {x_oR : Nat → Nat → Int64} {x_ot : Nat → Int64} {x_bD : Nat → Nat → Int64} {x_bQ : Nat → Int64} {x_bW : Nat → Int64} {x_bS : Nat → Nat → Int64} {x_bM : Nat → Nat → Int64} {x_bT : Nat → Int64} {x_bn : Int32} {x_tg : Nat → Int64} {x_tb : Int64} {x_ts : Nat → Int32} {x_fg : Nat → Int64} {x_fb : Int64} {x_fV : Nat → Nat → Int64} {x_fS : Nat → Int64} {x_fn : Int32} {x_cg : Nat → Int64} {x_cb : Int64} {x_cB : Nat → Int64} {x_cq : Int64} {x_vHeld : Int32} {x_vRed : Int32} {x_vTal : Int32} {x_vLis : Int32} : ∀ (n : Nat) (v1 : Int32) (v2 : Int32) (x_bR : Nat → Nat → Int64) (out : Int32 × (Nat → Nat → Int64)), lB_shortenByPairs_4 F  x_bn  n v1 v2 x_bR = some out → (J g κ 4 50 [(1, .int out.1)] [] (LM κ τ (LC κ (x_added, x_asked, x_eR, x_et, x_oR, x_ot, out.2, x_bD, x_bQ, x_bW, x_bS, x_bM, x_bT, x_bn, x_tg, x_tb, x_ts, x_fg, x_fb, x_fV, x_fS, x_fn, x_cg, x_cb, x_cB, x_cq, x_vHeld, x_vRed, x_vTal, x_vLis)))) → J g κ 4 4 [(0, .ref (κ.1 38)), (1, .int v1), (2, .int v2)] [] (LM κ τ (LC κ (x_added, x_asked, x_eR, x_et, x_oR, x_ot, x_bR, x_bD, x_bQ, x_bW, x_bS, x_bM, x_bT, x_bn, x_tg, x_tb, x_ts, x_fg, x_fb, x_fV, x_fS, x_fn, x_cg, x_cb, x_cB, x_cq, x_vHeld, x_vRed, x_vTal, x_vLis))) := by
  intro n
  induction n with
  | zero =>
    intro v1 v2 x_bR
    intro out h
    rw [lB_shortenByPairs_4] at h
    cases h
  | succ n ih =>
    intro v1 v2 x_bR out h K
    rw [lB_shortenByPairs_4] at h
    refine w_iload_n (pc := 4) (q := 2) G dB_shortenByPairs_4 rfl rfl ?_
    refine w_aload_n (pc := 5) (q := 0) G dB_shortenByPairs_5 rfl rfl ?_
    refine w_get (pc := 6) (v := .int x_bn) (fs := fl_B κ (x_added, x_asked, x_eR, x_et, x_oR, x_ot, x_bR, x_bD, x_bQ, x_bW, x_bS, x_bM, x_bT, x_bn, x_tg, x_tb, x_ts, x_fg, x_fb, x_fV, x_fS, x_fn, x_cg, x_cb, x_cB, x_cq, x_vHeld, x_vRed, x_vTal, x_vLis)) G 38 (by decide) lb_B rfl wsB_ok 7 (by decide) wd51 gf_B_7 dB_shortenByPairs_6 ?_
    refine w_icmp_ge (pc := 9) (tgt := 50) G dB_shortenByPairs_9 (by decide) (fun c9 => ?_) (fun c9 => ?_)
    · have h := if_t c9 h
      obtain rfl := Option.some.inj h
      refine w_sub (lv' := [(1, .int v1)]) [1] rfl ?_
      exact K
    · have h := if_f c9 h
      refine w_iconst (pc := 12) (v := (0 : Int32)) G dB_shortenByPairs_12 (by decide) ?_
      refine w_istore_n (pc := 13) (lv' := [(3, .int (0 : Int32)), (0, .ref (κ.1 38)), (1, .int v1), (2, .int v2)]) G dB_shortenByPairs_13 rfl (by decide) rfl ?_
      refine w_sub (lv' := [(0, .ref (κ.1 38)), (1, .int v1), (2, .int v2), (3, .int (0 : Int32))]) [1, 2, 3, 0] rfl ?_
      obtain ⟨o14_28, eo14_28, h⟩ := bd h
      refine lB_shortenByPairs_14_ok G τ F  v2 F v1 (0 : Int32) x_bR o14_28 eo14_28 ?_
      refine w_iinc (pc := 44) (q0 := 2) (v := (v2 + 1)) (lv' := [(2, .int (v2 + 1)), (0, .ref (κ.1 38)), (1, .int o14_28.1)]) G dB_shortenByPairs_44 rfl rfl (by decide) rfl ?_
      refine w_goto (pc := 47) (tgt := 4) G dB_shortenByPairs_47 (by decide) ?_
      refine w_sub (lv' := [(0, .ref (κ.1 38)), (1, .int o14_28.1), (2, .int (v2 + 1))]) [1, 2, 0] rfl ?_
      exact ih o14_28.1 (v2 + 1) o14_28.2 out h K
noncomputable def B_shortenByPairs (F : Nat)  (x_bR : Nat → Nat → Int64) (x_bn : Int32)  : Option (Int32 × (Nat → Nat → Int64)) := (lB_shortenByPairs_4 F  x_bn F (0 : Int32) (0 : Int32) x_bR).bind (fun o4_28 => gd (narrow .boolean (.int o4_28.1) = .int o4_28.1) (some (o4_28.1, o4_28.2)))
set_option maxHeartbeats 8000000 in
set_option maxRecDepth 100000 in
theorem met_B_shortenByPairs (κ : ctx) (τ : MS) (F : Nat) {x_added : Nat → Nat → Int64} {x_asked : Nat → Int64} {x_eR : Nat → Nat → Int64} {x_et : Nat → Int64} {x_oR : Nat → Nat → Int64} {x_ot : Nat → Int64} {x_bR : Nat → Nat → Int64} {x_bD : Nat → Nat → Int64} {x_bQ : Nat → Int64} {x_bW : Nat → Int64} {x_bS : Nat → Nat → Int64} {x_bM : Nat → Nat → Int64} {x_bT : Nat → Int64} {x_bn : Int32} {x_tg : Nat → Int64} {x_tb : Int64} {x_ts : Nat → Int32} {x_fg : Nat → Int64} {x_fb : Int64} {x_fV : Nat → Nat → Int64} {x_fS : Nat → Int64} {x_fn : Int32} {x_cg : Nat → Int64} {x_cb : Int64} {x_cB : Nat → Int64} {x_cq : Int64} {x_vHeld : Int32} {x_vRed : Int32} {x_vTal : Int32} {x_vLis : Int32}  {out : Int32 × (Nat → Nat → Int64)} (h : B_shortenByPairs F  x_bR x_bn  = some out) : Mt yB_shortenByPairs cB_shortenByPairs 4 (some .boolean) rm_B_shortenByPairs κ [.ref (κ.1 38)] (LM κ τ (LC κ (x_added, x_asked, x_eR, x_et, x_oR, x_ot, x_bR, x_bD, x_bQ, x_bW, x_bS, x_bM, x_bT, x_bn, x_tg, x_tb, x_ts, x_fg, x_fb, x_fV, x_fS, x_fn, x_cg, x_cb, x_cB, x_cq, x_vHeld, x_vRed, x_vTal, x_vLis))) (some (.int out.1)) (LM κ τ (LC κ (x_added, x_asked, x_eR, x_et, x_oR, x_ot, out.2, x_bD, x_bQ, x_bW, x_bS, x_bM, x_bT, x_bn, x_tg, x_tb, x_ts, x_fg, x_fb, x_fV, x_fS, x_fn, x_cg, x_cb, x_cB, x_cq, x_vHeld, x_vRed, x_vTal, x_vLis))) := by
  refine Mt.of (by decide) (Nat.le_of_ble_eq_true rfl) ?_
  intro g G Fh
  unfold B_shortenByPairs at h
  show J g κ 4 0 [(0, .ref (κ.1 38))] [] (LM κ τ (LC κ (x_added, x_asked, x_eR, x_et, x_oR, x_ot, x_bR, x_bD, x_bQ, x_bW, x_bS, x_bM, x_bT, x_bn, x_tg, x_tb, x_ts, x_fg, x_fb, x_fV, x_fS, x_fn, x_cg, x_cb, x_cB, x_cq, x_vHeld, x_vRed, x_vTal, x_vLis)))
  refine w_iconst (pc := 0) (v := (0 : Int32)) G dB_shortenByPairs_0 (by decide) ?_
  refine w_istore_n (pc := 1) (lv' := [(1, .int (0 : Int32)), (0, .ref (κ.1 38))]) G dB_shortenByPairs_1 rfl (by decide) rfl ?_
  refine w_iconst (pc := 2) (v := (0 : Int32)) G dB_shortenByPairs_2 (by decide) ?_
  refine w_istore_n (pc := 3) (lv' := [(2, .int (0 : Int32)), (1, .int (0 : Int32)), (0, .ref (κ.1 38))]) G dB_shortenByPairs_3 rfl (by decide) rfl ?_
  refine w_sub (lv' := [(0, .ref (κ.1 38)), (1, .int (0 : Int32)), (2, .int (0 : Int32))]) [2, 1, 0] rfl ?_
  obtain ⟨o4_28, eo4_28, h⟩ := bd h
  refine lB_shortenByPairs_4_ok G τ F  F (0 : Int32) (0 : Int32) x_bR o4_28 eo4_28 ?_
  refine w_iload_n (pc := 50) (q := 0) G dB_shortenByPairs_50 rfl rfl ?_
  obtain ⟨n51, h⟩ := gd_some h
  obtain rfl := Option.some.inj h
  exact w_zret (pc := 51) G n51 dB_shortenByPairs_51 Fh
def rm_B_shortenByChoice : Room := { frames := 2, cells := 0, slots := 0, locals := 91 }
theorem dB_shortenByChoice_0 : decode cB_shortenByChoice 0 = .ok (.aload_n 0, 1) := by decide +kernel
theorem dB_shortenByChoice_1 : decode cB_shortenByChoice 1 = .ok (.getfield 13, 3) := by decide +kernel
theorem dB_shortenByChoice_4 : decode cB_shortenByChoice 4 = .ok (.iload_n 1, 1) := by decide +kernel
theorem dB_shortenByChoice_5 : decode cB_shortenByChoice 5 = .ok (.aaload, 1) := by decide +kernel
theorem dB_shortenByChoice_6 : decode cB_shortenByChoice 6 = .ok (.aload_n 0, 1) := by decide +kernel
theorem dB_shortenByChoice_7 : decode cB_shortenByChoice 7 = .ok (.getfield 32, 3) := by decide +kernel
theorem dB_shortenByChoice_10 : decode cB_shortenByChoice 10 = .ok (.invokestatic 49, 3) := by decide +kernel
theorem dB_shortenByChoice_13 : decode cB_shortenByChoice 13 = .ok (.iload_n 2, 1) := by decide +kernel
theorem dB_shortenByChoice_14 : decode cB_shortenByChoice 14 = .ok (.istore_n 3, 1) := by decide +kernel
theorem dB_shortenByChoice_15 : decode cB_shortenByChoice 15 = .ok (.iconst 0, 1) := by decide +kernel
theorem dB_shortenByChoice_16 : decode cB_shortenByChoice 16 = .ok (.istore 4, 2) := by decide +kernel
theorem dB_shortenByChoice_18 : decode cB_shortenByChoice 18 = .ok (.iload 4, 2) := by decide +kernel
theorem dB_shortenByChoice_20 : decode cB_shortenByChoice 20 = .ok (.aload_n 0, 1) := by decide +kernel
theorem dB_shortenByChoice_21 : decode cB_shortenByChoice 21 = .ok (.getfield 35, 3) := by decide +kernel
theorem dB_shortenByChoice_24 : decode cB_shortenByChoice 24 = .ok (.if_icmp .ge 39, 3) := by decide +kernel
theorem dB_shortenByChoice_27 : decode cB_shortenByChoice 27 = .ok (.iload 4, 2) := by decide +kernel
theorem dB_shortenByChoice_29 : decode cB_shortenByChoice 29 = .ok (.iload_n 1, 1) := by decide +kernel
theorem dB_shortenByChoice_30 : decode cB_shortenByChoice 30 = .ok (.if_icmp .eq 27, 3) := by decide +kernel
theorem dB_shortenByChoice_33 : decode cB_shortenByChoice 33 = .ok (.aload_n 0, 1) := by decide +kernel
theorem dB_shortenByChoice_34 : decode cB_shortenByChoice 34 = .ok (.getfield 32, 3) := by decide +kernel
theorem dB_shortenByChoice_37 : decode cB_shortenByChoice 37 = .ok (.aload_n 0, 1) := by decide +kernel
theorem dB_shortenByChoice_38 : decode cB_shortenByChoice 38 = .ok (.getfield 13, 3) := by decide +kernel
theorem dB_shortenByChoice_41 : decode cB_shortenByChoice 41 = .ok (.iload 4, 2) := by decide +kernel
theorem dB_shortenByChoice_43 : decode cB_shortenByChoice 43 = .ok (.aaload, 1) := by decide +kernel
theorem dB_shortenByChoice_44 : decode cB_shortenByChoice 44 = .ok (.iload_n 3, 1) := by decide +kernel
theorem dB_shortenByChoice_45 : decode cB_shortenByChoice 45 = .ok (.iconst 5, 1) := by decide +kernel
theorem dB_shortenByChoice_46 : decode cB_shortenByChoice 46 = .ok (.irem, 1) := by decide +kernel
theorem dB_shortenByChoice_47 : decode cB_shortenByChoice 47 = .ok (.iconst 2, 1) := by decide +kernel
theorem dB_shortenByChoice_48 : decode cB_shortenByChoice 48 = .ok (.isub, 1) := by decide +kernel
theorem dB_shortenByChoice_49 : decode cB_shortenByChoice 49 = .ok (.i2l, 1) := by decide +kernel
theorem dB_shortenByChoice_50 : decode cB_shortenByChoice 50 = .ok (.invokestatic 95, 3) := by decide +kernel
theorem dB_shortenByChoice_53 : decode cB_shortenByChoice 53 = .ok (.iload_n 3, 1) := by decide +kernel
theorem dB_shortenByChoice_54 : decode cB_shortenByChoice 54 = .ok (.iconst 5, 1) := by decide +kernel
theorem dB_shortenByChoice_55 : decode cB_shortenByChoice 55 = .ok (.idiv, 1) := by decide +kernel
theorem dB_shortenByChoice_56 : decode cB_shortenByChoice 56 = .ok (.istore_n 3, 1) := by decide +kernel
theorem dB_shortenByChoice_57 : decode cB_shortenByChoice 57 = .ok (.iinc 4 1, 3) := by decide +kernel
theorem dB_shortenByChoice_60 : decode cB_shortenByChoice 60 = .ok (.goto (-42), 3) := by decide +kernel
theorem dB_shortenByChoice_63 : decode cB_shortenByChoice 63 = .ok (.aload_n 0, 1) := by decide +kernel
theorem dB_shortenByChoice_64 : decode cB_shortenByChoice 64 = .ok (.getfield 32, 3) := by decide +kernel
theorem dB_shortenByChoice_67 : decode cB_shortenByChoice 67 = .ok (.aload_n 0, 1) := by decide +kernel
theorem dB_shortenByChoice_68 : decode cB_shortenByChoice 68 = .ok (.getfield 32, 3) := by decide +kernel
theorem dB_shortenByChoice_71 : decode cB_shortenByChoice 71 = .ok (.invokestatic 63, 3) := by decide +kernel
theorem dB_shortenByChoice_74 : decode cB_shortenByChoice 74 = .ok (.aload_n 0, 1) := by decide +kernel
theorem dB_shortenByChoice_75 : decode cB_shortenByChoice 75 = .ok (.getfield 13, 3) := by decide +kernel
theorem dB_shortenByChoice_78 : decode cB_shortenByChoice 78 = .ok (.iload_n 1, 1) := by decide +kernel
theorem dB_shortenByChoice_79 : decode cB_shortenByChoice 79 = .ok (.aaload, 1) := by decide +kernel
theorem dB_shortenByChoice_80 : decode cB_shortenByChoice 80 = .ok (.aload_n 0, 1) := by decide +kernel
theorem dB_shortenByChoice_81 : decode cB_shortenByChoice 81 = .ok (.getfield 13, 3) := by decide +kernel
theorem dB_shortenByChoice_84 : decode cB_shortenByChoice 84 = .ok (.iload_n 1, 1) := by decide +kernel
theorem dB_shortenByChoice_85 : decode cB_shortenByChoice 85 = .ok (.aaload, 1) := by decide +kernel
theorem dB_shortenByChoice_86 : decode cB_shortenByChoice 86 = .ok (.invokestatic 63, 3) := by decide +kernel
theorem dB_shortenByChoice_89 : decode cB_shortenByChoice 89 = .ok (.lcmp, 1) := by decide +kernel
theorem dB_shortenByChoice_90 : decode cB_shortenByChoice 90 = .ok (.ifCond .lt 5, 3) := by decide +kernel
theorem dB_shortenByChoice_93 : decode cB_shortenByChoice 93 = .ok (.iconst 0, 1) := by decide +kernel
theorem dB_shortenByChoice_94 : decode cB_shortenByChoice 94 = .ok (.ireturn, 1) := by decide +kernel
theorem dB_shortenByChoice_95 : decode cB_shortenByChoice 95 = .ok (.aload_n 0, 1) := by decide +kernel
theorem dB_shortenByChoice_96 : decode cB_shortenByChoice 96 = .ok (.getfield 32, 3) := by decide +kernel
theorem dB_shortenByChoice_99 : decode cB_shortenByChoice 99 = .ok (.aload_n 0, 1) := by decide +kernel
theorem dB_shortenByChoice_100 : decode cB_shortenByChoice 100 = .ok (.getfield 13, 3) := by decide +kernel
theorem dB_shortenByChoice_103 : decode cB_shortenByChoice 103 = .ok (.iload_n 1, 1) := by decide +kernel
theorem dB_shortenByChoice_104 : decode cB_shortenByChoice 104 = .ok (.aaload, 1) := by decide +kernel
theorem dB_shortenByChoice_105 : decode cB_shortenByChoice 105 = .ok (.invokestatic 49, 3) := by decide +kernel
theorem dB_shortenByChoice_108 : decode cB_shortenByChoice 108 = .ok (.iconst 1, 1) := by decide +kernel
theorem dB_shortenByChoice_109 : decode cB_shortenByChoice 109 = .ok (.ireturn, 1) := by decide +kernel
theorem cb_V_addMultiple_B_shortenByChoice : CB yV_addMultiple cV_addMultiple 5 none rm_V_addMultiple rm_B_shortenByChoice 3 := ⟨wd187, wd1, by decide +kernel, rfl, rfl, by decide⟩
theorem cb_V_copy_B_shortenByChoice : CB yV_copy cV_copy 2 none rm_V_copy rm_B_shortenByChoice 2 := ⟨wd170, wd1, by decide +kernel, rfl, rfl, by decide⟩
theorem cb_V_product_B_shortenByChoice : CB yV_product cV_product 5 (some .long) rm_V_product rm_B_shortenByChoice 2 := ⟨wd263, wd1, by decide +kernel, rfl, rfl, by decide⟩
noncomputable def lB_shortenByChoice_18 (F : Nat) (x_bR : Nat → Nat → Int64) (x_bn : Int32) (v1 : Int32) : Nat → Int32 → Int32 → (Nat → Int64) → Option ((Nat → Int64))
  | 0, _, _, _ => none
  | n + 1, v3, v4, x_bT => if x_bn ≤ v4 then some (x_bT) else if v4 = v1 then lB_shortenByChoice_18 F  x_bR x_bn v1 n v3 (v4 + 1) x_bT else gd (vp_in v4 4) ((V_addMultiple F x_bT (x_bR v4.toNatClampNeg) (((v3 - v3 / (5 : Int32) * (5 : Int32)) - (2 : Int32)).toInt64)).bind (fun r50 => lB_shortenByChoice_18 F  x_bR x_bn v1 n (v3 / (5 : Int32)) (v4 + 1) r50))
set_option maxHeartbeats 8000000 in
set_option maxRecDepth 100000 in
theorem lB_shortenByChoice_18_ok {g : Gm} {κ : ctx} (G : OK g κ RB cB_shortenByChoice 5 (some .boolean) rm_B_shortenByChoice) (τ : MS) (F : Nat) {x_added : Nat → Nat → Int64} {x_asked : Nat → Int64} {x_eR : Nat → Nat → Int64} {x_et : Nat → Int64} {x_oR : Nat → Nat → Int64} {x_ot : Nat → Int64} {x_bR : Nat → Nat → Int64} {x_bD : Nat → Nat → Int64} {x_bQ : Nat → Int64} {x_bW : Nat → Int64} {x_bS : Nat → Nat → Int64} {x_bM : Nat → Nat → Int64} {x_bn : Int32} {x_tg : Nat → Int64} {x_tb : Int64} {x_ts : Nat → Int32} {x_fg : Nat → Int64} {x_fb : Int64} {x_fV : Nat → Nat → Int64} {x_fS : Nat → Int64} {x_fn : Int32} {x_cg : Nat → Int64} {x_cb : Int64} {x_cB : Nat → Int64} {x_cq : Int64} {x_vHeld : Int32} {x_vRed : Int32} {x_vTal : Int32} {x_vLis : Int32} (v1 : Int32) : ∀ (n : Nat) (v3 : Int32) (v4 : Int32) (x_bT : Nat → Int64) (out : (Nat → Int64)), lB_shortenByChoice_18 F  x_bR x_bn v1 n v3 v4 x_bT = some out → (J g κ 5 63 [(0, .ref (κ.1 38)), (1, .int v1)] [] (LM κ τ (LC κ (x_added, x_asked, x_eR, x_et, x_oR, x_ot, x_bR, x_bD, x_bQ, x_bW, x_bS, x_bM, out, x_bn, x_tg, x_tb, x_ts, x_fg, x_fb, x_fV, x_fS, x_fn, x_cg, x_cb, x_cB, x_cq, x_vHeld, x_vRed, x_vTal, x_vLis)))) → J g κ 5 18 [(0, .ref (κ.1 38)), (1, .int v1), (3, .int v3), (4, .int v4)] [] (LM κ τ (LC κ (x_added, x_asked, x_eR, x_et, x_oR, x_ot, x_bR, x_bD, x_bQ, x_bW, x_bS, x_bM, x_bT, x_bn, x_tg, x_tb, x_ts, x_fg, x_fb, x_fV, x_fS, x_fn, x_cg, x_cb, x_cB, x_cq, x_vHeld, x_vRed, x_vTal, x_vLis))) := by
  intro n
  induction n with
  | zero =>
    intro v3 v4 x_bT
    intro out h
    rw [lB_shortenByChoice_18] at h
    cases h
  | succ n ih =>
    intro v3 v4 x_bT out h K
    rw [lB_shortenByChoice_18] at h
    refine w_iload (pc := 18) (q := 3) G dB_shortenByChoice_18 rfl ?_
    refine w_aload_n (pc := 20) (q := 0) G dB_shortenByChoice_20 rfl rfl ?_
    refine w_get (pc := 21) (v := .int x_bn) (fs := fl_B κ (x_added, x_asked, x_eR, x_et, x_oR, x_ot, x_bR, x_bD, x_bQ, x_bW, x_bS, x_bM, x_bT, x_bn, x_tg, x_tb, x_ts, x_fg, x_fb, x_fV, x_fS, x_fn, x_cg, x_cb, x_cB, x_cq, x_vHeld, x_vRed, x_vTal, x_vLis)) G 38 (by decide) lb_B rfl wsB_ok 7 (by decide) wd51 gf_B_7 dB_shortenByChoice_21 ?_
    refine w_icmp_ge (pc := 24) (tgt := 63) G dB_shortenByChoice_24 (by decide) (fun c24 => ?_) (fun c24 => ?_)
    · have h := if_t c24 h
      obtain rfl := Option.some.inj h
      refine w_sub (lv' := [(0, .ref (κ.1 38)), (1, .int v1)]) [0, 1] rfl ?_
      exact K
    · have h := if_f c24 h
      refine w_iload (pc := 27) (q := 3) G dB_shortenByChoice_27 rfl ?_
      refine w_iload_n (pc := 29) (q := 1) G dB_shortenByChoice_29 rfl rfl ?_
      refine w_icmp_eq (pc := 30) (tgt := 57) G dB_shortenByChoice_30 (by decide) (fun c30 => ?_) (fun c30 => ?_)
      · have h := if_t c30 h
        refine w_iinc (pc := 57) (q0 := 3) (v := (v4 + 1)) (lv' := [(4, .int (v4 + 1)), (0, .ref (κ.1 38)), (1, .int v1), (3, .int v3)]) G dB_shortenByChoice_57 rfl rfl (by decide) rfl ?_
        refine w_goto (pc := 60) (tgt := 18) G dB_shortenByChoice_60 (by decide) ?_
        refine w_sub (lv' := [(0, .ref (κ.1 38)), (1, .int v1), (3, .int v3), (4, .int (v4 + 1))]) [1, 2, 3, 0] rfl ?_
        exact ih v3 (v4 + 1) x_bT out h K
      · have h := if_f c30 h
        refine w_aload_n (pc := 33) (q := 0) G dB_shortenByChoice_33 rfl rfl ?_
        refine w_get (pc := 34) (v := .ref (κ.1 62)) (fs := fl_B κ (x_added, x_asked, x_eR, x_et, x_oR, x_ot, x_bR, x_bD, x_bQ, x_bW, x_bS, x_bM, x_bT, x_bn, x_tg, x_tb, x_ts, x_fg, x_fb, x_fV, x_fS, x_fn, x_cg, x_cb, x_cB, x_cq, x_vHeld, x_vRed, x_vTal, x_vLis)) G 38 (by decide) lb_B rfl wsB_ok 6 (by decide) wd50 gf_B_6 dB_shortenByChoice_34 ?_
        refine w_aload_n (pc := 37) (q := 0) G dB_shortenByChoice_37 rfl rfl ?_
        refine w_get (pc := 38) (v := .ref (κ.1 39)) (fs := fl_B κ (x_added, x_asked, x_eR, x_et, x_oR, x_ot, x_bR, x_bD, x_bQ, x_bW, x_bS, x_bM, x_bT, x_bn, x_tg, x_tb, x_ts, x_fg, x_fb, x_fV, x_fS, x_fn, x_cg, x_cb, x_cB, x_cq, x_vHeld, x_vRed, x_vTal, x_vLis)) G 38 (by decide) lb_B rfl wsB_ok 0 (by decide) wd44 gf_B_0 dB_shortenByChoice_38 ?_
        refine w_iload (pc := 41) (q := 3) G dB_shortenByChoice_41 rfl ?_
        obtain ⟨i43, h⟩ := gd_some h
        refine w_aald (pc := 43) (n := 4) (f := og κ 40 4) (b := κ.1 (40 + v4.toNatClampNeg)) G 39 (by decide) lo_bR i43 (og_at (ixlt i43)) dB_shortenByChoice_43 ?_
        refine w_iload_n (pc := 44) (q := 2) G dB_shortenByChoice_44 rfl rfl ?_
        refine w_iconst (pc := 45) (v := (5 : Int32)) G dB_shortenByChoice_45 (by decide) ?_
        refine w_irem (pc := 46) G dB_shortenByChoice_46 (by decide) ?_
        refine w_iconst (pc := 47) (v := (2 : Int32)) G dB_shortenByChoice_47 (by decide) ?_
        refine w_isub (pc := 48) G dB_shortenByChoice_48 ?_
        refine w_i2l (pc := 49) G dB_shortenByChoice_49 ?_
        obtain ⟨r50, e50, h⟩ := bd h
        refine w_callSN (pc := 50) (av := [.ref (κ.1 62), .ref (κ.1 (40 + v4.toNatClampNeg)), .long (((v3 - v3 / (5 : Int32) * (5 : Int32)) - (2 : Int32)).toInt64)]) (rest := []) (v := none) (L' := (LM κ τ (LC κ (x_added, x_asked, x_eR, x_et, x_oR, x_ot, x_bR, x_bD, x_bQ, x_bW, x_bS, x_bM, r50, x_bn, x_tg, x_tb, x_ts, x_fg, x_fb, x_fV, x_fS, x_fn, x_cg, x_cb, x_cB, x_cq, x_vHeld, x_vRed, x_vTal, x_vLis)))) G cb_V_addMultiple_B_shortenByChoice wd186 wd273 (Mt.eqw up_bT (met_V_addMultiple κ (LM κ τ (LC κ (x_added, x_asked, x_eR, x_et, x_oR, x_ot, x_bR, x_bD, x_bQ, x_bW, x_bS, x_bM, x_bT, x_bn, x_tg, x_tb, x_ts, x_fg, x_fb, x_fV, x_fS, x_fn, x_cg, x_cb, x_cB, x_cq, x_vHeld, x_vRed, x_vTal, x_vLis))) F (((v3 - v3 / (5 : Int32) * (5 : Int32)) - (2 : Int32)).toInt64) 62 (by decide) x_bT lk_bT (40 + v4.toNatClampNeg) (nw_bR (ixlt i43)) (x_bR v4.toNatClampNeg) (lk_bR (ixlt i43)) (by have := (ixlt i43); omega) e50)) rfl rfl rfl (Nat.le_of_ble_eq_true rfl) dB_shortenByChoice_50 ?_
        refine w_iload_n (pc := 53) (q := 2) G dB_shortenByChoice_53 rfl rfl ?_
        refine w_iconst (pc := 54) (v := (5 : Int32)) G dB_shortenByChoice_54 (by decide) ?_
        refine w_idiv (pc := 55) G dB_shortenByChoice_55 (by decide) ?_
        refine w_istore_n (pc := 56) (lv' := [(3, .int (v3 / (5 : Int32))), (0, .ref (κ.1 38)), (1, .int v1), (4, .int v4)]) G dB_shortenByChoice_56 rfl (by decide) rfl ?_
        refine w_iinc (pc := 57) (q0 := 3) (v := (v4 + 1)) (lv' := [(4, .int (v4 + 1)), (3, .int (v3 / (5 : Int32))), (0, .ref (κ.1 38)), (1, .int v1)]) G dB_shortenByChoice_57 rfl rfl (by decide) rfl ?_
        refine w_goto (pc := 60) (tgt := 18) G dB_shortenByChoice_60 (by decide) ?_
        refine w_sub (lv' := [(0, .ref (κ.1 38)), (1, .int v1), (3, .int (v3 / (5 : Int32))), (4, .int (v4 + 1))]) [2, 3, 1, 0] rfl ?_
        exact ih (v3 / (5 : Int32)) (v4 + 1) r50 out h K
noncomputable def B_shortenByChoice (F : Nat)  (x_bR : Nat → Nat → Int64) (x_bT : Nat → Int64) (x_bn : Int32) (v1 : Int32) (v2 : Int32) : Option (Int32 × (Nat → Nat → Int64) × (Nat → Int64)) := gd (vp_in v1 4) ((V_copy F (x_bR v1.toNatClampNeg) x_bT ).bind (fun r10 => (lB_shortenByChoice_18 F  x_bR x_bn v1 F v2 (0 : Int32) r10).bind (fun o18_11 => (V_product F o18_11 o18_11 ).bind (fun r71 => gd (vp_in v1 4) (gd (vp_in v1 4) ((V_product F (x_bR v1.toNatClampNeg) (x_bR v1.toNatClampNeg) ).bind (fun r86 => if r71 < r86 then gd (vp_in v1 4) ((V_copy F o18_11 (x_bR v1.toNatClampNeg) ).bind (fun r105 => some ((1 : Int32), va_up x_bR v1.toNatClampNeg r105, o18_11))) else some ((0 : Int32), x_bR, o18_11))))))))
set_option maxHeartbeats 8000000 in
set_option maxRecDepth 100000 in
theorem met_B_shortenByChoice (κ : ctx) (τ : MS) (F : Nat) {x_added : Nat → Nat → Int64} {x_asked : Nat → Int64} {x_eR : Nat → Nat → Int64} {x_et : Nat → Int64} {x_oR : Nat → Nat → Int64} {x_ot : Nat → Int64} {x_bR : Nat → Nat → Int64} {x_bD : Nat → Nat → Int64} {x_bQ : Nat → Int64} {x_bW : Nat → Int64} {x_bS : Nat → Nat → Int64} {x_bM : Nat → Nat → Int64} {x_bT : Nat → Int64} {x_bn : Int32} {x_tg : Nat → Int64} {x_tb : Int64} {x_ts : Nat → Int32} {x_fg : Nat → Int64} {x_fb : Int64} {x_fV : Nat → Nat → Int64} {x_fS : Nat → Int64} {x_fn : Int32} {x_cg : Nat → Int64} {x_cb : Int64} {x_cB : Nat → Int64} {x_cq : Int64} {x_vHeld : Int32} {x_vRed : Int32} {x_vTal : Int32} {x_vLis : Int32} (v1 : Int32) (v2 : Int32) {out : Int32 × (Nat → Nat → Int64) × (Nat → Int64)} (h : B_shortenByChoice F  x_bR x_bT x_bn v1 v2 = some out) : Mt yB_shortenByChoice cB_shortenByChoice 5 (some .boolean) rm_B_shortenByChoice κ [.ref (κ.1 38), .int v1, .int v2] (LM κ τ (LC κ (x_added, x_asked, x_eR, x_et, x_oR, x_ot, x_bR, x_bD, x_bQ, x_bW, x_bS, x_bM, x_bT, x_bn, x_tg, x_tb, x_ts, x_fg, x_fb, x_fV, x_fS, x_fn, x_cg, x_cb, x_cB, x_cq, x_vHeld, x_vRed, x_vTal, x_vLis))) (some (.int out.1)) (LM κ τ (LC κ (x_added, x_asked, x_eR, x_et, x_oR, x_ot, out.2.1, x_bD, x_bQ, x_bW, x_bS, x_bM, out.2.2, x_bn, x_tg, x_tb, x_ts, x_fg, x_fb, x_fV, x_fS, x_fn, x_cg, x_cb, x_cB, x_cq, x_vHeld, x_vRed, x_vTal, x_vLis))) := by
  refine Mt.of (by decide) (Nat.le_of_ble_eq_true rfl) ?_
  intro g G Fh
  unfold B_shortenByChoice at h
  show J g κ 5 0 [(0, .ref (κ.1 38)), (1, .int v1), (2, .int v2)] [] (LM κ τ (LC κ (x_added, x_asked, x_eR, x_et, x_oR, x_ot, x_bR, x_bD, x_bQ, x_bW, x_bS, x_bM, x_bT, x_bn, x_tg, x_tb, x_ts, x_fg, x_fb, x_fV, x_fS, x_fn, x_cg, x_cb, x_cB, x_cq, x_vHeld, x_vRed, x_vTal, x_vLis)))
  refine w_aload_n (pc := 0) (q := 0) G dB_shortenByChoice_0 rfl rfl ?_
  refine w_get (pc := 1) (v := .ref (κ.1 39)) (fs := fl_B κ (x_added, x_asked, x_eR, x_et, x_oR, x_ot, x_bR, x_bD, x_bQ, x_bW, x_bS, x_bM, x_bT, x_bn, x_tg, x_tb, x_ts, x_fg, x_fb, x_fV, x_fS, x_fn, x_cg, x_cb, x_cB, x_cq, x_vHeld, x_vRed, x_vTal, x_vLis)) G 38 (by decide) lb_B rfl wsB_ok 0 (by decide) wd44 gf_B_0 dB_shortenByChoice_1 ?_
  refine w_iload_n (pc := 4) (q := 1) G dB_shortenByChoice_4 rfl rfl ?_
  obtain ⟨i5, h⟩ := gd_some h
  refine w_aald (pc := 5) (n := 4) (f := og κ 40 4) (b := κ.1 (40 + v1.toNatClampNeg)) G 39 (by decide) lo_bR i5 (og_at (ixlt i5)) dB_shortenByChoice_5 ?_
  refine w_aload_n (pc := 6) (q := 0) G dB_shortenByChoice_6 rfl rfl ?_
  refine w_get (pc := 7) (v := .ref (κ.1 62)) (fs := fl_B κ (x_added, x_asked, x_eR, x_et, x_oR, x_ot, x_bR, x_bD, x_bQ, x_bW, x_bS, x_bM, x_bT, x_bn, x_tg, x_tb, x_ts, x_fg, x_fb, x_fV, x_fS, x_fn, x_cg, x_cb, x_cB, x_cq, x_vHeld, x_vRed, x_vTal, x_vLis)) G 38 (by decide) lb_B rfl wsB_ok 6 (by decide) wd50 gf_B_6 dB_shortenByChoice_7 ?_
  obtain ⟨r10, e10, h⟩ := bd h
  refine w_callSN (pc := 10) (av := [.ref (κ.1 (40 + v1.toNatClampNeg)), .ref (κ.1 62)]) (rest := []) (v := none) (L' := (LM κ τ (LC κ (x_added, x_asked, x_eR, x_et, x_oR, x_ot, x_bR, x_bD, x_bQ, x_bW, x_bS, x_bM, r10, x_bn, x_tg, x_tb, x_ts, x_fg, x_fb, x_fV, x_fS, x_fn, x_cg, x_cb, x_cB, x_cq, x_vHeld, x_vRed, x_vTal, x_vLis)))) G cb_V_copy_B_shortenByChoice wd169 wd247 (Mt.eqw up_bT (met_V_copy κ (LM κ τ (LC κ (x_added, x_asked, x_eR, x_et, x_oR, x_ot, x_bR, x_bD, x_bQ, x_bW, x_bS, x_bM, x_bT, x_bn, x_tg, x_tb, x_ts, x_fg, x_fb, x_fV, x_fS, x_fn, x_cg, x_cb, x_cB, x_cq, x_vHeld, x_vRed, x_vTal, x_vLis))) F  (40 + v1.toNatClampNeg) (nw_bR (ixlt i5)) (x_bR v1.toNatClampNeg) (lk_bR (ixlt i5)) 62 (by decide) x_bT lk_bT (by have := (ixlt i5); omega) e10)) rfl rfl rfl (Nat.le_of_ble_eq_true rfl) dB_shortenByChoice_10 ?_
  refine w_iload_n (pc := 13) (q := 2) G dB_shortenByChoice_13 rfl rfl ?_
  refine w_istore_n (pc := 14) (lv' := [(3, .int v2), (0, .ref (κ.1 38)), (1, .int v1), (2, .int v2)]) G dB_shortenByChoice_14 rfl (by decide) rfl ?_
  refine w_iconst (pc := 15) (v := (0 : Int32)) G dB_shortenByChoice_15 (by decide) ?_
  refine w_istore (pc := 16) (lv' := [(4, .int (0 : Int32)), (3, .int v2), (0, .ref (κ.1 38)), (1, .int v1), (2, .int v2)]) G dB_shortenByChoice_16 (by decide) rfl ?_
  refine w_sub (lv' := [(0, .ref (κ.1 38)), (1, .int v1), (3, .int v2), (4, .int (0 : Int32))]) [2, 3, 1, 0] rfl ?_
  obtain ⟨o18_11, eo18_11, h⟩ := bd h
  refine lB_shortenByChoice_18_ok G τ F  v1 F v2 (0 : Int32) r10 o18_11 eo18_11 ?_
  refine w_aload_n (pc := 63) (q := 0) G dB_shortenByChoice_63 rfl rfl ?_
  refine w_get (pc := 64) (v := .ref (κ.1 62)) (fs := fl_B κ (x_added, x_asked, x_eR, x_et, x_oR, x_ot, x_bR, x_bD, x_bQ, x_bW, x_bS, x_bM, o18_11, x_bn, x_tg, x_tb, x_ts, x_fg, x_fb, x_fV, x_fS, x_fn, x_cg, x_cb, x_cB, x_cq, x_vHeld, x_vRed, x_vTal, x_vLis)) G 38 (by decide) lb_B rfl wsB_ok 6 (by decide) wd50 gf_B_6 dB_shortenByChoice_64 ?_
  refine w_aload_n (pc := 67) (q := 0) G dB_shortenByChoice_67 rfl rfl ?_
  refine w_get (pc := 68) (v := .ref (κ.1 62)) (fs := fl_B κ (x_added, x_asked, x_eR, x_et, x_oR, x_ot, x_bR, x_bD, x_bQ, x_bW, x_bS, x_bM, o18_11, x_bn, x_tg, x_tb, x_ts, x_fg, x_fb, x_fV, x_fS, x_fn, x_cg, x_cb, x_cB, x_cq, x_vHeld, x_vRed, x_vTal, x_vLis)) G 38 (by decide) lb_B rfl wsB_ok 6 (by decide) wd50 gf_B_6 dB_shortenByChoice_68 ?_
  obtain ⟨r71, e71, h⟩ := bd h
  refine w_callSN (pc := 71) (av := [.ref (κ.1 62), .ref (κ.1 62)]) (rest := []) (v := some (.long r71)) (L' := (LM κ τ (LC κ (x_added, x_asked, x_eR, x_et, x_oR, x_ot, x_bR, x_bD, x_bQ, x_bW, x_bS, x_bM, o18_11, x_bn, x_tg, x_tb, x_ts, x_fg, x_fb, x_fV, x_fS, x_fn, x_cg, x_cb, x_cB, x_cq, x_vHeld, x_vRed, x_vTal, x_vLis)))) G cb_V_product_B_shortenByChoice wd262 wd261 (met_V_product κ (LM κ τ (LC κ (x_added, x_asked, x_eR, x_et, x_oR, x_ot, x_bR, x_bD, x_bQ, x_bW, x_bS, x_bM, o18_11, x_bn, x_tg, x_tb, x_ts, x_fg, x_fb, x_fV, x_fS, x_fn, x_cg, x_cb, x_cB, x_cq, x_vHeld, x_vRed, x_vTal, x_vLis))) F  62 (by decide) o18_11 lk_bT 62 (by decide) o18_11 lk_bT e71) rfl rfl rfl (Nat.le_of_ble_eq_true rfl) dB_shortenByChoice_71 ?_
  refine w_aload_n (pc := 74) (q := 0) G dB_shortenByChoice_74 rfl rfl ?_
  refine w_get (pc := 75) (v := .ref (κ.1 39)) (fs := fl_B κ (x_added, x_asked, x_eR, x_et, x_oR, x_ot, x_bR, x_bD, x_bQ, x_bW, x_bS, x_bM, o18_11, x_bn, x_tg, x_tb, x_ts, x_fg, x_fb, x_fV, x_fS, x_fn, x_cg, x_cb, x_cB, x_cq, x_vHeld, x_vRed, x_vTal, x_vLis)) G 38 (by decide) lb_B rfl wsB_ok 0 (by decide) wd44 gf_B_0 dB_shortenByChoice_75 ?_
  refine w_iload_n (pc := 78) (q := 1) G dB_shortenByChoice_78 rfl rfl ?_
  obtain ⟨i79, h⟩ := gd_some h
  refine w_aald (pc := 79) (n := 4) (f := og κ 40 4) (b := κ.1 (40 + v1.toNatClampNeg)) G 39 (by decide) lo_bR i79 (og_at (ixlt i79)) dB_shortenByChoice_79 ?_
  refine w_aload_n (pc := 80) (q := 0) G dB_shortenByChoice_80 rfl rfl ?_
  refine w_get (pc := 81) (v := .ref (κ.1 39)) (fs := fl_B κ (x_added, x_asked, x_eR, x_et, x_oR, x_ot, x_bR, x_bD, x_bQ, x_bW, x_bS, x_bM, o18_11, x_bn, x_tg, x_tb, x_ts, x_fg, x_fb, x_fV, x_fS, x_fn, x_cg, x_cb, x_cB, x_cq, x_vHeld, x_vRed, x_vTal, x_vLis)) G 38 (by decide) lb_B rfl wsB_ok 0 (by decide) wd44 gf_B_0 dB_shortenByChoice_81 ?_
  refine w_iload_n (pc := 84) (q := 1) G dB_shortenByChoice_84 rfl rfl ?_
  obtain ⟨i85, h⟩ := gd_some h
  refine w_aald (pc := 85) (n := 4) (f := og κ 40 4) (b := κ.1 (40 + v1.toNatClampNeg)) G 39 (by decide) lo_bR i85 (og_at (ixlt i85)) dB_shortenByChoice_85 ?_
  obtain ⟨r86, e86, h⟩ := bd h
  refine w_callSN (pc := 86) (av := [.ref (κ.1 (40 + v1.toNatClampNeg)), .ref (κ.1 (40 + v1.toNatClampNeg))]) (rest := [.long r71]) (v := some (.long r86)) (L' := (LM κ τ (LC κ (x_added, x_asked, x_eR, x_et, x_oR, x_ot, x_bR, x_bD, x_bQ, x_bW, x_bS, x_bM, o18_11, x_bn, x_tg, x_tb, x_ts, x_fg, x_fb, x_fV, x_fS, x_fn, x_cg, x_cb, x_cB, x_cq, x_vHeld, x_vRed, x_vTal, x_vLis)))) G cb_V_product_B_shortenByChoice wd262 wd261 (met_V_product κ (LM κ τ (LC κ (x_added, x_asked, x_eR, x_et, x_oR, x_ot, x_bR, x_bD, x_bQ, x_bW, x_bS, x_bM, o18_11, x_bn, x_tg, x_tb, x_ts, x_fg, x_fb, x_fV, x_fS, x_fn, x_cg, x_cb, x_cB, x_cq, x_vHeld, x_vRed, x_vTal, x_vLis))) F  (40 + v1.toNatClampNeg) (nw_bR (ixlt i79)) (x_bR v1.toNatClampNeg) (lk_bR (ixlt i79)) (40 + v1.toNatClampNeg) (nw_bR (ixlt i85)) (x_bR v1.toNatClampNeg) (lk_bR (ixlt i85)) e86) rfl rfl rfl (Nat.le_of_ble_eq_true rfl) dB_shortenByChoice_86 ?_
  refine w_lc_lt (pc := 89) (tgt := 95) G dB_shortenByChoice_89 dB_shortenByChoice_90 (by decide) (fun c89 => ?_) (fun c89 => ?_)
  · have h := if_t c89 h
    refine w_aload_n (pc := 95) (q := 0) G dB_shortenByChoice_95 rfl rfl ?_
    refine w_get (pc := 96) (v := .ref (κ.1 62)) (fs := fl_B κ (x_added, x_asked, x_eR, x_et, x_oR, x_ot, x_bR, x_bD, x_bQ, x_bW, x_bS, x_bM, o18_11, x_bn, x_tg, x_tb, x_ts, x_fg, x_fb, x_fV, x_fS, x_fn, x_cg, x_cb, x_cB, x_cq, x_vHeld, x_vRed, x_vTal, x_vLis)) G 38 (by decide) lb_B rfl wsB_ok 6 (by decide) wd50 gf_B_6 dB_shortenByChoice_96 ?_
    refine w_aload_n (pc := 99) (q := 0) G dB_shortenByChoice_99 rfl rfl ?_
    refine w_get (pc := 100) (v := .ref (κ.1 39)) (fs := fl_B κ (x_added, x_asked, x_eR, x_et, x_oR, x_ot, x_bR, x_bD, x_bQ, x_bW, x_bS, x_bM, o18_11, x_bn, x_tg, x_tb, x_ts, x_fg, x_fb, x_fV, x_fS, x_fn, x_cg, x_cb, x_cB, x_cq, x_vHeld, x_vRed, x_vTal, x_vLis)) G 38 (by decide) lb_B rfl wsB_ok 0 (by decide) wd44 gf_B_0 dB_shortenByChoice_100 ?_
    refine w_iload_n (pc := 103) (q := 1) G dB_shortenByChoice_103 rfl rfl ?_
    obtain ⟨i104, h⟩ := gd_some h
    refine w_aald (pc := 104) (n := 4) (f := og κ 40 4) (b := κ.1 (40 + v1.toNatClampNeg)) G 39 (by decide) lo_bR i104 (og_at (ixlt i104)) dB_shortenByChoice_104 ?_
    obtain ⟨r105, e105, h⟩ := bd h
    refine w_callSN (pc := 105) (av := [.ref (κ.1 62), .ref (κ.1 (40 + v1.toNatClampNeg))]) (rest := []) (v := none) (L' := (LM κ τ (LC κ (x_added, x_asked, x_eR, x_et, x_oR, x_ot, va_up x_bR v1.toNatClampNeg r105, x_bD, x_bQ, x_bW, x_bS, x_bM, o18_11, x_bn, x_tg, x_tb, x_ts, x_fg, x_fb, x_fV, x_fS, x_fn, x_cg, x_cb, x_cB, x_cq, x_vHeld, x_vRed, x_vTal, x_vLis)))) G cb_V_copy_B_shortenByChoice wd169 wd247 (Mt.eqw (up_bR (ixlt i104)) (met_V_copy κ (LM κ τ (LC κ (x_added, x_asked, x_eR, x_et, x_oR, x_ot, x_bR, x_bD, x_bQ, x_bW, x_bS, x_bM, o18_11, x_bn, x_tg, x_tb, x_ts, x_fg, x_fb, x_fV, x_fS, x_fn, x_cg, x_cb, x_cB, x_cq, x_vHeld, x_vRed, x_vTal, x_vLis))) F  62 (by decide) o18_11 lk_bT (40 + v1.toNatClampNeg) (nw_bR (ixlt i104)) (x_bR v1.toNatClampNeg) (lk_bR (ixlt i104)) (by have := (ixlt i104); omega) e105)) rfl rfl rfl (Nat.le_of_ble_eq_true rfl) dB_shortenByChoice_105 ?_
    refine w_iconst (pc := 108) (v := (1 : Int32)) G dB_shortenByChoice_108 (by decide) ?_
    obtain rfl := Option.some.inj h
    exact w_zret (pc := 109) G rfl dB_shortenByChoice_109 Fh
  · have h := if_f c89 h
    refine w_iconst (pc := 93) (v := (0 : Int32)) G dB_shortenByChoice_93 (by decide) ?_
    obtain rfl := Option.some.inj h
    exact w_zret (pc := 94) G rfl dB_shortenByChoice_94 Fh
def rm_B_shortenBySums : Room := { frames := 3, cells := 0, slots := 0, locals := 115 }
theorem dB_shortenBySums_0 : decode cB_shortenBySums 0 = .ok (.iconst 0, 1) := by decide +kernel
theorem dB_shortenBySums_1 : decode cB_shortenBySums 1 = .ok (.istore_n 1, 1) := by decide +kernel
theorem dB_shortenBySums_2 : decode cB_shortenBySums 2 = .ok (.iconst 1, 1) := by decide +kernel
theorem dB_shortenBySums_3 : decode cB_shortenBySums 3 = .ok (.istore_n 2, 1) := by decide +kernel
theorem dB_shortenBySums_4 : decode cB_shortenBySums 4 = .ok (.iconst 1, 1) := by decide +kernel
theorem dB_shortenBySums_5 : decode cB_shortenBySums 5 = .ok (.istore_n 3, 1) := by decide +kernel
theorem dB_shortenBySums_6 : decode cB_shortenBySums 6 = .ok (.iload_n 3, 1) := by decide +kernel
theorem dB_shortenBySums_7 : decode cB_shortenBySums 7 = .ok (.aload_n 0, 1) := by decide +kernel
theorem dB_shortenBySums_8 : decode cB_shortenBySums 8 = .ok (.getfield 35, 3) := by decide +kernel
theorem dB_shortenBySums_11 : decode cB_shortenBySums 11 = .ok (.if_icmp .ge 13, 3) := by decide +kernel
theorem dB_shortenBySums_14 : decode cB_shortenBySums 14 = .ok (.iload_n 2, 1) := by decide +kernel
theorem dB_shortenBySums_15 : decode cB_shortenBySums 15 = .ok (.iconst 5, 1) := by decide +kernel
theorem dB_shortenBySums_16 : decode cB_shortenBySums 16 = .ok (.imul, 1) := by decide +kernel
theorem dB_shortenBySums_17 : decode cB_shortenBySums 17 = .ok (.istore_n 2, 1) := by decide +kernel
theorem dB_shortenBySums_18 : decode cB_shortenBySums 18 = .ok (.iinc 3 1, 3) := by decide +kernel
theorem dB_shortenBySums_21 : decode cB_shortenBySums 21 = .ok (.goto (-15), 3) := by decide +kernel
theorem dB_shortenBySums_24 : decode cB_shortenBySums 24 = .ok (.iconst 0, 1) := by decide +kernel
theorem dB_shortenBySums_25 : decode cB_shortenBySums 25 = .ok (.istore_n 3, 1) := by decide +kernel
theorem dB_shortenBySums_26 : decode cB_shortenBySums 26 = .ok (.iload_n 3, 1) := by decide +kernel
theorem dB_shortenBySums_27 : decode cB_shortenBySums 27 = .ok (.aload_n 0, 1) := by decide +kernel
theorem dB_shortenBySums_28 : decode cB_shortenBySums 28 = .ok (.getfield 35, 3) := by decide +kernel
theorem dB_shortenBySums_31 : decode cB_shortenBySums 31 = .ok (.if_icmp .ge 36, 3) := by decide +kernel
theorem dB_shortenBySums_34 : decode cB_shortenBySums 34 = .ok (.iconst 0, 1) := by decide +kernel
theorem dB_shortenBySums_35 : decode cB_shortenBySums 35 = .ok (.istore 4, 2) := by decide +kernel
theorem dB_shortenBySums_37 : decode cB_shortenBySums 37 = .ok (.iload 4, 2) := by decide +kernel
theorem dB_shortenBySums_39 : decode cB_shortenBySums 39 = .ok (.iload_n 2, 1) := by decide +kernel
theorem dB_shortenBySums_40 : decode cB_shortenBySums 40 = .ok (.if_icmp .ge 21, 3) := by decide +kernel
theorem dB_shortenBySums_43 : decode cB_shortenBySums 43 = .ok (.aload_n 0, 1) := by decide +kernel
theorem dB_shortenBySums_44 : decode cB_shortenBySums 44 = .ok (.iload_n 3, 1) := by decide +kernel
theorem dB_shortenBySums_45 : decode cB_shortenBySums 45 = .ok (.iload 4, 2) := by decide +kernel
theorem dB_shortenBySums_47 : decode cB_shortenBySums 47 = .ok (.invokevirtual 99, 3) := by decide +kernel
theorem dB_shortenBySums_50 : decode cB_shortenBySums 50 = .ok (.ifCond .eq 5, 3) := by decide +kernel
theorem dB_shortenBySums_53 : decode cB_shortenBySums 53 = .ok (.iconst 1, 1) := by decide +kernel
theorem dB_shortenBySums_54 : decode cB_shortenBySums 54 = .ok (.istore_n 1, 1) := by decide +kernel
theorem dB_shortenBySums_55 : decode cB_shortenBySums 55 = .ok (.iinc 4 1, 3) := by decide +kernel
theorem dB_shortenBySums_58 : decode cB_shortenBySums 58 = .ok (.goto (-21), 3) := by decide +kernel
theorem dB_shortenBySums_61 : decode cB_shortenBySums 61 = .ok (.iinc 3 1, 3) := by decide +kernel
theorem dB_shortenBySums_64 : decode cB_shortenBySums 64 = .ok (.goto (-38), 3) := by decide +kernel
theorem dB_shortenBySums_67 : decode cB_shortenBySums 67 = .ok (.iload_n 1, 1) := by decide +kernel
theorem dB_shortenBySums_68 : decode cB_shortenBySums 68 = .ok (.ireturn, 1) := by decide +kernel
theorem cb_B_shortenByChoice_B_shortenBySums : CB yB_shortenByChoice cB_shortenByChoice 5 (some .boolean) rm_B_shortenByChoice rm_B_shortenBySums 2 := ⟨wd281, wd3, by decide +kernel, rfl, rfl, by decide⟩
noncomputable def lB_shortenBySums_6 (F : Nat) (x_bn : Int32) (v1 : Int32) : Nat → Int32 → Int32 → Option (Int32)
  | 0, _, _ => none
  | n + 1, v2, v3 => if x_bn ≤ v3 then some (v2) else lB_shortenBySums_6 F  x_bn v1 n (v2 * (5 : Int32)) (v3 + 1)
set_option maxHeartbeats 8000000 in
set_option maxRecDepth 100000 in
theorem lB_shortenBySums_6_ok {g : Gm} {κ : ctx} (G : OK g κ RB cB_shortenBySums 5 (some .boolean) rm_B_shortenBySums) (τ : MS) (F : Nat) {x_added : Nat → Nat → Int64} {x_asked : Nat → Int64} {x_eR : Nat → Nat → Int64} {x_et : Nat → Int64} {x_oR : Nat → Nat → Int64} {x_ot : Nat → Int64} {x_bR : Nat → Nat → Int64} {x_bD : Nat → Nat → Int64} {x_bQ : Nat → Int64} {x_bW : Nat → Int64} {x_bS : Nat → Nat → Int64} {x_bM : Nat → Nat → Int64} {x_bT : Nat → Int64} {x_bn : Int32} {x_tg : Nat → Int64} {x_tb : Int64} {x_ts : Nat → Int32} {x_fg : Nat → Int64} {x_fb : Int64} {x_fV : Nat → Nat → Int64} {x_fS : Nat → Int64} {x_fn : Int32} {x_cg : Nat → Int64} {x_cb : Int64} {x_cB : Nat → Int64} {x_cq : Int64} {x_vHeld : Int32} {x_vRed : Int32} {x_vTal : Int32} {x_vLis : Int32} (v1 : Int32) : ∀ (n : Nat) (v2 : Int32) (v3 : Int32) (out : Int32), lB_shortenBySums_6 F  x_bn v1 n v2 v3 = some out → (J g κ 5 24 [(0, .ref (κ.1 38)), (1, .int v1), (2, .int out)] [] (LM κ τ (LC κ (x_added, x_asked, x_eR, x_et, x_oR, x_ot, x_bR, x_bD, x_bQ, x_bW, x_bS, x_bM, x_bT, x_bn, x_tg, x_tb, x_ts, x_fg, x_fb, x_fV, x_fS, x_fn, x_cg, x_cb, x_cB, x_cq, x_vHeld, x_vRed, x_vTal, x_vLis)))) → J g κ 5 6 [(0, .ref (κ.1 38)), (1, .int v1), (2, .int v2), (3, .int v3)] [] (LM κ τ (LC κ (x_added, x_asked, x_eR, x_et, x_oR, x_ot, x_bR, x_bD, x_bQ, x_bW, x_bS, x_bM, x_bT, x_bn, x_tg, x_tb, x_ts, x_fg, x_fb, x_fV, x_fS, x_fn, x_cg, x_cb, x_cB, x_cq, x_vHeld, x_vRed, x_vTal, x_vLis))) := by
  intro n
  induction n with
  | zero =>
    intro v2 v3
    intro out h
    rw [lB_shortenBySums_6] at h
    cases h
  | succ n ih =>
    intro v2 v3 out h K
    rw [lB_shortenBySums_6] at h
    refine w_iload_n (pc := 6) (q := 3) G dB_shortenBySums_6 rfl rfl ?_
    refine w_aload_n (pc := 7) (q := 0) G dB_shortenBySums_7 rfl rfl ?_
    refine w_get (pc := 8) (v := .int x_bn) (fs := fl_B κ (x_added, x_asked, x_eR, x_et, x_oR, x_ot, x_bR, x_bD, x_bQ, x_bW, x_bS, x_bM, x_bT, x_bn, x_tg, x_tb, x_ts, x_fg, x_fb, x_fV, x_fS, x_fn, x_cg, x_cb, x_cB, x_cq, x_vHeld, x_vRed, x_vTal, x_vLis)) G 38 (by decide) lb_B rfl wsB_ok 7 (by decide) wd51 gf_B_7 dB_shortenBySums_8 ?_
    refine w_icmp_ge (pc := 11) (tgt := 24) G dB_shortenBySums_11 (by decide) (fun c11 => ?_) (fun c11 => ?_)
    · have h := if_t c11 h
      obtain rfl := Option.some.inj h
      refine w_sub (lv' := [(0, .ref (κ.1 38)), (1, .int v1), (2, .int v2)]) [0, 1, 2] rfl ?_
      exact K
    · have h := if_f c11 h
      refine w_iload_n (pc := 14) (q := 2) G dB_shortenBySums_14 rfl rfl ?_
      refine w_iconst (pc := 15) (v := (5 : Int32)) G dB_shortenBySums_15 (by decide) ?_
      refine w_imul (pc := 16) G dB_shortenBySums_16 ?_
      refine w_istore_n (pc := 17) (lv' := [(2, .int (v2 * (5 : Int32))), (0, .ref (κ.1 38)), (1, .int v1), (3, .int v3)]) G dB_shortenBySums_17 rfl (by decide) rfl ?_
      refine w_iinc (pc := 18) (q0 := 3) (v := (v3 + 1)) (lv' := [(3, .int (v3 + 1)), (2, .int (v2 * (5 : Int32))), (0, .ref (κ.1 38)), (1, .int v1)]) G dB_shortenBySums_18 rfl rfl (by decide) rfl ?_
      refine w_goto (pc := 21) (tgt := 6) G dB_shortenBySums_21 (by decide) ?_
      refine w_sub (lv' := [(0, .ref (κ.1 38)), (1, .int v1), (2, .int (v2 * (5 : Int32))), (3, .int (v3 + 1))]) [2, 3, 1, 0] rfl ?_
      exact ih (v2 * (5 : Int32)) (v3 + 1) out h K
noncomputable def lB_shortenBySums_37 (F : Nat) (x_bn : Int32) (v2 : Int32) (v3 : Int32) : Nat → Int32 → Int32 → (Nat → Nat → Int64) → (Nat → Int64) → Option (Int32 × (Nat → Nat → Int64) × (Nat → Int64))
  | 0, _, _, _, _ => none
  | n + 1, v1, v4, x_bR, x_bT => if v2 ≤ v4 then some (v1, x_bR, x_bT) else (B_shortenByChoice F x_bR x_bT x_bn v3 v4).bind (fun r47 => if r47.1 = 0 then lB_shortenBySums_37 F  x_bn v2 v3 n v1 (v4 + 1) r47.2.1 r47.2.2 else lB_shortenBySums_37 F  x_bn v2 v3 n (1 : Int32) (v4 + 1) r47.2.1 r47.2.2)
set_option maxHeartbeats 8000000 in
set_option maxRecDepth 100000 in
theorem lB_shortenBySums_37_ok {g : Gm} {κ : ctx} (G : OK g κ RB cB_shortenBySums 5 (some .boolean) rm_B_shortenBySums) (τ : MS) (F : Nat) {x_added : Nat → Nat → Int64} {x_asked : Nat → Int64} {x_eR : Nat → Nat → Int64} {x_et : Nat → Int64} {x_oR : Nat → Nat → Int64} {x_ot : Nat → Int64} {x_bD : Nat → Nat → Int64} {x_bQ : Nat → Int64} {x_bW : Nat → Int64} {x_bS : Nat → Nat → Int64} {x_bM : Nat → Nat → Int64} {x_bn : Int32} {x_tg : Nat → Int64} {x_tb : Int64} {x_ts : Nat → Int32} {x_fg : Nat → Int64} {x_fb : Int64} {x_fV : Nat → Nat → Int64} {x_fS : Nat → Int64} {x_fn : Int32} {x_cg : Nat → Int64} {x_cb : Int64} {x_cB : Nat → Int64} {x_cq : Int64} {x_vHeld : Int32} {x_vRed : Int32} {x_vTal : Int32} {x_vLis : Int32} (v2 : Int32) (v3 : Int32) : ∀ (n : Nat) (v1 : Int32) (v4 : Int32) (x_bR : Nat → Nat → Int64) (x_bT : Nat → Int64) (out : Int32 × (Nat → Nat → Int64) × (Nat → Int64)), lB_shortenBySums_37 F  x_bn v2 v3 n v1 v4 x_bR x_bT = some out → (J g κ 5 61 [(0, .ref (κ.1 38)), (1, .int out.1), (2, .int v2), (3, .int v3)] [] (LM κ τ (LC κ (x_added, x_asked, x_eR, x_et, x_oR, x_ot, out.2.1, x_bD, x_bQ, x_bW, x_bS, x_bM, out.2.2, x_bn, x_tg, x_tb, x_ts, x_fg, x_fb, x_fV, x_fS, x_fn, x_cg, x_cb, x_cB, x_cq, x_vHeld, x_vRed, x_vTal, x_vLis)))) → J g κ 5 37 [(0, .ref (κ.1 38)), (1, .int v1), (2, .int v2), (3, .int v3), (4, .int v4)] [] (LM κ τ (LC κ (x_added, x_asked, x_eR, x_et, x_oR, x_ot, x_bR, x_bD, x_bQ, x_bW, x_bS, x_bM, x_bT, x_bn, x_tg, x_tb, x_ts, x_fg, x_fb, x_fV, x_fS, x_fn, x_cg, x_cb, x_cB, x_cq, x_vHeld, x_vRed, x_vTal, x_vLis))) := by
  intro n
  induction n with
  | zero =>
    intro v1 v4 x_bR x_bT
    intro out h
    rw [lB_shortenBySums_37] at h
    cases h
  | succ n ih =>
    intro v1 v4 x_bR x_bT out h K
    rw [lB_shortenBySums_37] at h
    refine w_iload (pc := 37) (q := 4) G dB_shortenBySums_37 rfl ?_
    refine w_iload_n (pc := 39) (q := 2) G dB_shortenBySums_39 rfl rfl ?_
    refine w_icmp_ge (pc := 40) (tgt := 61) G dB_shortenBySums_40 (by decide) (fun c40 => ?_) (fun c40 => ?_)
    · have h := if_t c40 h
      obtain rfl := Option.some.inj h
      refine w_sub (lv' := [(0, .ref (κ.1 38)), (1, .int v1), (2, .int v2), (3, .int v3)]) [0, 1, 2, 3] rfl ?_
      exact K
    · have h := if_f c40 h
      refine w_aload_n (pc := 43) (q := 0) G dB_shortenBySums_43 rfl rfl ?_
      refine w_iload_n (pc := 44) (q := 3) G dB_shortenBySums_44 rfl rfl ?_
      refine w_iload (pc := 45) (q := 4) G dB_shortenBySums_45 rfl ?_
      obtain ⟨r47, e47, h⟩ := bd h
      refine w_callV (pc := 47) (av := [.int v3, .int v4]) (rest := []) (v := some (.int r47.1)) (L' := (LM κ τ (LC κ (x_added, x_asked, x_eR, x_et, x_oR, x_ot, r47.2.1, x_bD, x_bQ, x_bW, x_bS, x_bM, r47.2.2, x_bn, x_tg, x_tb, x_ts, x_fg, x_fb, x_fV, x_fS, x_fn, x_cg, x_cb, x_cB, x_cq, x_vHeld, x_vRed, x_vTal, x_vLis)))) (T := TB) (fs := fl_B κ (x_added, x_asked, x_eR, x_et, x_oR, x_ot, x_bR, x_bD, x_bQ, x_bW, x_bS, x_bM, x_bT, x_bn, x_tg, x_tb, x_ts, x_fg, x_fb, x_fV, x_fS, x_fn, x_cg, x_cb, x_cB, x_cq, x_vHeld, x_vRed, x_vTal, x_vLis)) G 38 3 8 (by decide) lb_B rfl cb_B_shortenByChoice_B_shortenBySums wd280 ws10 wd278 (met_B_shortenByChoice κ τ F v3 v4  e47) rfl rfl rfl (Nat.le_of_ble_eq_true rfl) dB_shortenBySums_47 ?_
      refine w_if_eq (pc := 50) (tgt := 55) G dB_shortenBySums_50 (by decide) (fun c50 => ?_) (fun c50 => ?_)
      · have h := if_t c50 h
        refine w_iinc (pc := 55) (q0 := 4) (v := (v4 + 1)) (lv' := [(4, .int (v4 + 1)), (0, .ref (κ.1 38)), (1, .int v1), (2, .int v2), (3, .int v3)]) G dB_shortenBySums_55 rfl rfl (by decide) rfl ?_
        refine w_goto (pc := 58) (tgt := 37) G dB_shortenBySums_58 (by decide) ?_
        refine w_sub (lv' := [(0, .ref (κ.1 38)), (1, .int v1), (2, .int v2), (3, .int v3), (4, .int (v4 + 1))]) [1, 2, 3, 4, 0] rfl ?_
        exact ih v1 (v4 + 1) r47.2.1 r47.2.2 out h K
      · have h := if_f c50 h
        refine w_iconst (pc := 53) (v := (1 : Int32)) G dB_shortenBySums_53 (by decide) ?_
        refine w_istore_n (pc := 54) (lv' := [(1, .int (1 : Int32)), (0, .ref (κ.1 38)), (2, .int v2), (3, .int v3), (4, .int v4)]) G dB_shortenBySums_54 rfl (by decide) rfl ?_
        refine w_iinc (pc := 55) (q0 := 4) (v := (v4 + 1)) (lv' := [(4, .int (v4 + 1)), (1, .int (1 : Int32)), (0, .ref (κ.1 38)), (2, .int v2), (3, .int v3)]) G dB_shortenBySums_55 rfl rfl (by decide) rfl ?_
        refine w_goto (pc := 58) (tgt := 37) G dB_shortenBySums_58 (by decide) ?_
        refine w_sub (lv' := [(0, .ref (κ.1 38)), (1, .int (1 : Int32)), (2, .int v2), (3, .int v3), (4, .int (v4 + 1))]) [2, 1, 3, 4, 0] rfl ?_
        exact ih (1 : Int32) (v4 + 1) r47.2.1 r47.2.2 out h K
noncomputable def lB_shortenBySums_26 (F : Nat) (x_bn : Int32) (v2 : Int32) : Nat → Int32 → Int32 → (Nat → Nat → Int64) → (Nat → Int64) → Option (Int32 × (Nat → Nat → Int64) × (Nat → Int64))
  | 0, _, _, _, _ => none
  | n + 1, v1, v3, x_bR, x_bT => if x_bn ≤ v3 then some (v1, x_bR, x_bT) else (lB_shortenBySums_37 F  x_bn v2 v3 F v1 (0 : Int32) x_bR x_bT).bind (fun o37_28 => lB_shortenBySums_26 F  x_bn v2 n o37_28.1 (v3 + 1) o37_28.2.1 o37_28.2.2)
set_option maxHeartbeats 8000000 in
set_option maxRecDepth 100000 in
theorem lB_shortenBySums_26_ok {g : Gm} {κ : ctx} (G : OK g κ RB cB_shortenBySums 5 (some .boolean) rm_B_shortenBySums) (τ : MS) (F : Nat) {x_added : Nat → Nat → Int64} {x_asked : Nat → Int64} {x_eR : Nat → Nat → Int64} {x_et : Nat → Int64} {x_oR : Nat → Nat → Int64} {x_ot : Nat → Int64} {x_bD : Nat → Nat → Int64} {x_bQ : Nat → Int64} {x_bW : Nat → Int64} {x_bS : Nat → Nat → Int64} {x_bM : Nat → Nat → Int64} {x_bn : Int32} {x_tg : Nat → Int64} {x_tb : Int64} {x_ts : Nat → Int32} {x_fg : Nat → Int64} {x_fb : Int64} {x_fV : Nat → Nat → Int64} {x_fS : Nat → Int64} {x_fn : Int32} {x_cg : Nat → Int64} {x_cb : Int64} {x_cB : Nat → Int64} {x_cq : Int64} {x_vHeld : Int32} {x_vRed : Int32} {x_vTal : Int32} {x_vLis : Int32} (v2 : Int32) : ∀ (n : Nat) (v1 : Int32) (v3 : Int32) (x_bR : Nat → Nat → Int64) (x_bT : Nat → Int64) (out : Int32 × (Nat → Nat → Int64) × (Nat → Int64)), lB_shortenBySums_26 F  x_bn v2 n v1 v3 x_bR x_bT = some out → (J g κ 5 67 [(1, .int out.1)] [] (LM κ τ (LC κ (x_added, x_asked, x_eR, x_et, x_oR, x_ot, out.2.1, x_bD, x_bQ, x_bW, x_bS, x_bM, out.2.2, x_bn, x_tg, x_tb, x_ts, x_fg, x_fb, x_fV, x_fS, x_fn, x_cg, x_cb, x_cB, x_cq, x_vHeld, x_vRed, x_vTal, x_vLis)))) → J g κ 5 26 [(0, .ref (κ.1 38)), (1, .int v1), (2, .int v2), (3, .int v3)] [] (LM κ τ (LC κ (x_added, x_asked, x_eR, x_et, x_oR, x_ot, x_bR, x_bD, x_bQ, x_bW, x_bS, x_bM, x_bT, x_bn, x_tg, x_tb, x_ts, x_fg, x_fb, x_fV, x_fS, x_fn, x_cg, x_cb, x_cB, x_cq, x_vHeld, x_vRed, x_vTal, x_vLis))) := by
  intro n
  induction n with
  | zero =>
    intro v1 v3 x_bR x_bT
    intro out h
    rw [lB_shortenBySums_26] at h
    cases h
  | succ n ih =>
    intro v1 v3 x_bR x_bT out h K
    rw [lB_shortenBySums_26] at h
    refine w_iload_n (pc := 26) (q := 3) G dB_shortenBySums_26 rfl rfl ?_
    refine w_aload_n (pc := 27) (q := 0) G dB_shortenBySums_27 rfl rfl ?_
    refine w_get (pc := 28) (v := .int x_bn) (fs := fl_B κ (x_added, x_asked, x_eR, x_et, x_oR, x_ot, x_bR, x_bD, x_bQ, x_bW, x_bS, x_bM, x_bT, x_bn, x_tg, x_tb, x_ts, x_fg, x_fb, x_fV, x_fS, x_fn, x_cg, x_cb, x_cB, x_cq, x_vHeld, x_vRed, x_vTal, x_vLis)) G 38 (by decide) lb_B rfl wsB_ok 7 (by decide) wd51 gf_B_7 dB_shortenBySums_28 ?_
    refine w_icmp_ge (pc := 31) (tgt := 67) G dB_shortenBySums_31 (by decide) (fun c31 => ?_) (fun c31 => ?_)
    · have h := if_t c31 h
      obtain rfl := Option.some.inj h
      refine w_sub (lv' := [(1, .int v1)]) [1] rfl ?_
      exact K
    · have h := if_f c31 h
      refine w_iconst (pc := 34) (v := (0 : Int32)) G dB_shortenBySums_34 (by decide) ?_
      refine w_istore (pc := 35) (lv' := [(4, .int (0 : Int32)), (0, .ref (κ.1 38)), (1, .int v1), (2, .int v2), (3, .int v3)]) G dB_shortenBySums_35 (by decide) rfl ?_
      refine w_sub (lv' := [(0, .ref (κ.1 38)), (1, .int v1), (2, .int v2), (3, .int v3), (4, .int (0 : Int32))]) [1, 2, 3, 4, 0] rfl ?_
      obtain ⟨o37_28, eo37_28, h⟩ := bd h
      refine lB_shortenBySums_37_ok G τ F  v2 v3 F v1 (0 : Int32) x_bR x_bT o37_28 eo37_28 ?_
      refine w_iinc (pc := 61) (q0 := 3) (v := (v3 + 1)) (lv' := [(3, .int (v3 + 1)), (0, .ref (κ.1 38)), (1, .int o37_28.1), (2, .int v2)]) G dB_shortenBySums_61 rfl rfl (by decide) rfl ?_
      refine w_goto (pc := 64) (tgt := 26) G dB_shortenBySums_64 (by decide) ?_
      refine w_sub (lv' := [(0, .ref (κ.1 38)), (1, .int o37_28.1), (2, .int v2), (3, .int (v3 + 1))]) [1, 2, 3, 0] rfl ?_
      exact ih o37_28.1 (v3 + 1) o37_28.2.1 o37_28.2.2 out h K
noncomputable def B_shortenBySums (F : Nat)  (x_bR : Nat → Nat → Int64) (x_bT : Nat → Int64) (x_bn : Int32)  : Option (Int32 × (Nat → Nat → Int64) × (Nat → Int64)) := (lB_shortenBySums_6 F  x_bn (0 : Int32) F (1 : Int32) (1 : Int32)).bind (fun o6_7 => (lB_shortenBySums_26 F  x_bn o6_7 F (0 : Int32) (0 : Int32) x_bR x_bT).bind (fun o26_28 => gd (narrow .boolean (.int o26_28.1) = .int o26_28.1) (some (o26_28.1, o26_28.2.1, o26_28.2.2))))
set_option maxHeartbeats 8000000 in
set_option maxRecDepth 100000 in
theorem met_B_shortenBySums (κ : ctx) (τ : MS) (F : Nat) {x_added : Nat → Nat → Int64} {x_asked : Nat → Int64} {x_eR : Nat → Nat → Int64} {x_et : Nat → Int64} {x_oR : Nat → Nat → Int64} {x_ot : Nat → Int64} {x_bR : Nat → Nat → Int64} {x_bD : Nat → Nat → Int64} {x_bQ : Nat → Int64} {x_bW : Nat → Int64} {x_bS : Nat → Nat → Int64} {x_bM : Nat → Nat → Int64} {x_bT : Nat → Int64} {x_bn : Int32} {x_tg : Nat → Int64} {x_tb : Int64} {x_ts : Nat → Int32} {x_fg : Nat → Int64} {x_fb : Int64} {x_fV : Nat → Nat → Int64} {x_fS : Nat → Int64} {x_fn : Int32} {x_cg : Nat → Int64} {x_cb : Int64} {x_cB : Nat → Int64} {x_cq : Int64} {x_vHeld : Int32} {x_vRed : Int32} {x_vTal : Int32} {x_vLis : Int32}  {out : Int32 × (Nat → Nat → Int64) × (Nat → Int64)} (h : B_shortenBySums F  x_bR x_bT x_bn  = some out) : Mt yB_shortenBySums cB_shortenBySums 5 (some .boolean) rm_B_shortenBySums κ [.ref (κ.1 38)] (LM κ τ (LC κ (x_added, x_asked, x_eR, x_et, x_oR, x_ot, x_bR, x_bD, x_bQ, x_bW, x_bS, x_bM, x_bT, x_bn, x_tg, x_tb, x_ts, x_fg, x_fb, x_fV, x_fS, x_fn, x_cg, x_cb, x_cB, x_cq, x_vHeld, x_vRed, x_vTal, x_vLis))) (some (.int out.1)) (LM κ τ (LC κ (x_added, x_asked, x_eR, x_et, x_oR, x_ot, out.2.1, x_bD, x_bQ, x_bW, x_bS, x_bM, out.2.2, x_bn, x_tg, x_tb, x_ts, x_fg, x_fb, x_fV, x_fS, x_fn, x_cg, x_cb, x_cB, x_cq, x_vHeld, x_vRed, x_vTal, x_vLis))) := by
  refine Mt.of (by decide) (Nat.le_of_ble_eq_true rfl) ?_
  intro g G Fh
  unfold B_shortenBySums at h
  show J g κ 5 0 [(0, .ref (κ.1 38))] [] (LM κ τ (LC κ (x_added, x_asked, x_eR, x_et, x_oR, x_ot, x_bR, x_bD, x_bQ, x_bW, x_bS, x_bM, x_bT, x_bn, x_tg, x_tb, x_ts, x_fg, x_fb, x_fV, x_fS, x_fn, x_cg, x_cb, x_cB, x_cq, x_vHeld, x_vRed, x_vTal, x_vLis)))
  refine w_iconst (pc := 0) (v := (0 : Int32)) G dB_shortenBySums_0 (by decide) ?_
  refine w_istore_n (pc := 1) (lv' := [(1, .int (0 : Int32)), (0, .ref (κ.1 38))]) G dB_shortenBySums_1 rfl (by decide) rfl ?_
  refine w_iconst (pc := 2) (v := (1 : Int32)) G dB_shortenBySums_2 (by decide) ?_
  refine w_istore_n (pc := 3) (lv' := [(2, .int (1 : Int32)), (1, .int (0 : Int32)), (0, .ref (κ.1 38))]) G dB_shortenBySums_3 rfl (by decide) rfl ?_
  refine w_iconst (pc := 4) (v := (1 : Int32)) G dB_shortenBySums_4 (by decide) ?_
  refine w_istore_n (pc := 5) (lv' := [(3, .int (1 : Int32)), (2, .int (1 : Int32)), (1, .int (0 : Int32)), (0, .ref (κ.1 38))]) G dB_shortenBySums_5 rfl (by decide) rfl ?_
  refine w_sub (lv' := [(0, .ref (κ.1 38)), (1, .int (0 : Int32)), (2, .int (1 : Int32)), (3, .int (1 : Int32))]) [3, 2, 1, 0] rfl ?_
  obtain ⟨o6_7, eo6_7, h⟩ := bd h
  refine lB_shortenBySums_6_ok G τ F  (0 : Int32) F (1 : Int32) (1 : Int32) o6_7 eo6_7 ?_
  refine w_iconst (pc := 24) (v := (0 : Int32)) G dB_shortenBySums_24 (by decide) ?_
  refine w_istore_n (pc := 25) (lv' := [(3, .int (0 : Int32)), (0, .ref (κ.1 38)), (1, .int (0 : Int32)), (2, .int o6_7)]) G dB_shortenBySums_25 rfl (by decide) rfl ?_
  refine w_sub (lv' := [(0, .ref (κ.1 38)), (1, .int (0 : Int32)), (2, .int o6_7), (3, .int (0 : Int32))]) [1, 2, 3, 0] rfl ?_
  obtain ⟨o26_28, eo26_28, h⟩ := bd h
  refine lB_shortenBySums_26_ok G τ F  o6_7 F (0 : Int32) (0 : Int32) x_bR x_bT o26_28 eo26_28 ?_
  refine w_iload_n (pc := 67) (q := 0) G dB_shortenBySums_67 rfl rfl ?_
  obtain ⟨n68, h⟩ := gd_some h
  obtain rfl := Option.some.inj h
  exact w_zret (pc := 68) G n68 dB_shortenBySums_68 Fh
def rm_B_reduce : Room := { frames := 4, cells := 0, slots := 0, locals := 139 }
theorem dB_reduce_0 : decode cB_reduce 0 = .ok (.iconst 1, 1) := by decide +kernel
theorem dB_reduce_1 : decode cB_reduce 1 = .ok (.istore_n 1, 1) := by decide +kernel
theorem dB_reduce_2 : decode cB_reduce 2 = .ok (.iconst 0, 1) := by decide +kernel
theorem dB_reduce_3 : decode cB_reduce 3 = .ok (.istore_n 2, 1) := by decide +kernel
theorem dB_reduce_4 : decode cB_reduce 4 = .ok (.iload_n 2, 1) := by decide +kernel
theorem dB_reduce_5 : decode cB_reduce 5 = .ok (.ldc 71, 2) := by decide +kernel
theorem dB_reduce_7 : decode cB_reduce 7 = .ok (.if_icmp .ge 33, 3) := by decide +kernel
theorem dB_reduce_10 : decode cB_reduce 10 = .ok (.iload_n 1, 1) := by decide +kernel
theorem dB_reduce_11 : decode cB_reduce 11 = .ok (.ifCond .eq 29, 3) := by decide +kernel
theorem dB_reduce_14 : decode cB_reduce 14 = .ok (.aload_n 0, 1) := by decide +kernel
theorem dB_reduce_15 : decode cB_reduce 15 = .ok (.invokevirtual 72, 3) := by decide +kernel
theorem dB_reduce_18 : decode cB_reduce 18 = .ok (.ifCond .ne 10, 3) := by decide +kernel
theorem dB_reduce_21 : decode cB_reduce 21 = .ok (.aload_n 0, 1) := by decide +kernel
theorem dB_reduce_22 : decode cB_reduce 22 = .ok (.invokevirtual 76, 3) := by decide +kernel
theorem dB_reduce_25 : decode cB_reduce 25 = .ok (.ifCond .eq 7, 3) := by decide +kernel
theorem dB_reduce_28 : decode cB_reduce 28 = .ok (.iconst 1, 1) := by decide +kernel
theorem dB_reduce_29 : decode cB_reduce 29 = .ok (.goto 4, 3) := by decide +kernel
theorem dB_reduce_32 : decode cB_reduce 32 = .ok (.iconst 0, 1) := by decide +kernel
theorem dB_reduce_33 : decode cB_reduce 33 = .ok (.istore_n 1, 1) := by decide +kernel
theorem dB_reduce_34 : decode cB_reduce 34 = .ok (.iinc 2 1, 3) := by decide +kernel
theorem dB_reduce_37 : decode cB_reduce 37 = .ok (.goto (-33), 3) := by decide +kernel
theorem dB_reduce_40 : decode cB_reduce 40 = .ok (.return_, 1) := by decide +kernel
theorem cb_B_shortenByPairs_B_reduce : CB yB_shortenByPairs cB_shortenByPairs 4 (some .boolean) rm_B_shortenByPairs rm_B_reduce 0 := ⟨wd256, wd3, by decide +kernel, rfl, rfl, by decide⟩
theorem cb_B_shortenBySums_B_reduce : CB yB_shortenBySums cB_shortenBySums 5 (some .boolean) rm_B_shortenBySums rm_B_reduce 0 := ⟨wd277, wd3, by decide +kernel, rfl, rfl, by decide⟩
noncomputable def lB_reduce_4 (F : Nat) (x_bn : Int32) : Nat → Int32 → Int32 → (Nat → Nat → Int64) → (Nat → Int64) → Option ((Nat → Nat → Int64) × (Nat → Int64))
  | 0, _, _, _, _ => none
  | n + 1, v1, v2, x_bR, x_bT => if (1000000 : Int32) ≤ v2 then some (x_bR, x_bT) else if v1 = 0 then some (x_bR, x_bT) else (B_shortenByPairs F x_bR x_bn ).bind (fun r15 => if r15.1 = 0 then (B_shortenBySums F r15.2 x_bT x_bn ).bind (fun r22 => if r22.1 = 0 then lB_reduce_4 F  x_bn n (0 : Int32) (v2 + 1) r22.2.1 r22.2.2 else lB_reduce_4 F  x_bn n (1 : Int32) (v2 + 1) r22.2.1 r22.2.2) else lB_reduce_4 F  x_bn n (1 : Int32) (v2 + 1) r15.2 x_bT)
set_option maxHeartbeats 8000000 in
set_option maxRecDepth 100000 in
theorem lB_reduce_4_ok {g : Gm} {κ : ctx} (G : OK g κ RB cB_reduce 3 none rm_B_reduce) (τ : MS) (F : Nat) {x_added : Nat → Nat → Int64} {x_asked : Nat → Int64} {x_eR : Nat → Nat → Int64} {x_et : Nat → Int64} {x_oR : Nat → Nat → Int64} {x_ot : Nat → Int64} {x_bD : Nat → Nat → Int64} {x_bQ : Nat → Int64} {x_bW : Nat → Int64} {x_bS : Nat → Nat → Int64} {x_bM : Nat → Nat → Int64} {x_bn : Int32} {x_tg : Nat → Int64} {x_tb : Int64} {x_ts : Nat → Int32} {x_fg : Nat → Int64} {x_fb : Int64} {x_fV : Nat → Nat → Int64} {x_fS : Nat → Int64} {x_fn : Int32} {x_cg : Nat → Int64} {x_cb : Int64} {x_cB : Nat → Int64} {x_cq : Int64} {x_vHeld : Int32} {x_vRed : Int32} {x_vTal : Int32} {x_vLis : Int32} : ∀ (n : Nat) (v1 : Int32) (v2 : Int32) (x_bR : Nat → Nat → Int64) (x_bT : Nat → Int64) (out : (Nat → Nat → Int64) × (Nat → Int64)), lB_reduce_4 F  x_bn  n v1 v2 x_bR x_bT = some out → (J g κ 3 40 [] [] (LM κ τ (LC κ (x_added, x_asked, x_eR, x_et, x_oR, x_ot, out.1, x_bD, x_bQ, x_bW, x_bS, x_bM, out.2, x_bn, x_tg, x_tb, x_ts, x_fg, x_fb, x_fV, x_fS, x_fn, x_cg, x_cb, x_cB, x_cq, x_vHeld, x_vRed, x_vTal, x_vLis)))) → J g κ 3 4 [(0, .ref (κ.1 38)), (1, .int v1), (2, .int v2)] [] (LM κ τ (LC κ (x_added, x_asked, x_eR, x_et, x_oR, x_ot, x_bR, x_bD, x_bQ, x_bW, x_bS, x_bM, x_bT, x_bn, x_tg, x_tb, x_ts, x_fg, x_fb, x_fV, x_fS, x_fn, x_cg, x_cb, x_cB, x_cq, x_vHeld, x_vRed, x_vTal, x_vLis))) := by
  intro n
  induction n with
  | zero =>
    intro v1 v2 x_bR x_bT
    intro out h
    rw [lB_reduce_4] at h
    cases h
  | succ n ih =>
    intro v1 v2 x_bR x_bT out h K
    rw [lB_reduce_4] at h
    refine w_iload_n (pc := 4) (q := 2) G dB_reduce_4 rfl rfl ?_
    refine w_ldc (pc := 5) (v := (1000000 : Int32)) G wd252 dB_reduce_5 ?_
    refine w_icmp_ge (pc := 7) (tgt := 40) G dB_reduce_7 (by decide) (fun c7 => ?_) (fun c7 => ?_)
    · have h := if_t c7 h
      obtain rfl := Option.some.inj h
      refine w_sub (lv' := []) [] rfl ?_
      exact K
    · have h := if_f c7 h
      refine w_iload_n (pc := 10) (q := 1) G dB_reduce_10 rfl rfl ?_
      refine w_if_eq (pc := 11) (tgt := 40) G dB_reduce_11 (by decide) (fun c11 => ?_) (fun c11 => ?_)
      · have h := if_t c11 h
        obtain rfl := Option.some.inj h
        refine w_sub (lv' := []) [] rfl ?_
        exact K
      · have h := if_f c11 h
        refine w_aload_n (pc := 14) (q := 0) G dB_reduce_14 rfl rfl ?_
        obtain ⟨r15, e15, h⟩ := bd h
        refine w_callV (pc := 15) (av := []) (rest := []) (v := some (.int r15.1)) (L' := (LM κ τ (LC κ (x_added, x_asked, x_eR, x_et, x_oR, x_ot, r15.2, x_bD, x_bQ, x_bW, x_bS, x_bM, x_bT, x_bn, x_tg, x_tb, x_ts, x_fg, x_fb, x_fV, x_fS, x_fn, x_cg, x_cb, x_cB, x_cq, x_vHeld, x_vRed, x_vTal, x_vLis)))) (T := TB) (fs := fl_B κ (x_added, x_asked, x_eR, x_et, x_oR, x_ot, x_bR, x_bD, x_bQ, x_bW, x_bS, x_bM, x_bT, x_bn, x_tg, x_tb, x_ts, x_fg, x_fb, x_fV, x_fS, x_fn, x_cg, x_cb, x_cB, x_cq, x_vHeld, x_vRed, x_vTal, x_vLis)) G 38 3 8 (by decide) lb_B rfl cb_B_shortenByPairs_B_reduce wd255 ws7 wd253 (met_B_shortenByPairs κ τ F   e15) rfl rfl rfl (Nat.le_of_ble_eq_true rfl) dB_reduce_15 ?_
        refine w_if_ne (pc := 18) (tgt := 28) G dB_reduce_18 (by decide) (fun c18 => ?_) (fun c18 => ?_)
        · have h := if_t c18 h
          refine w_aload_n (pc := 21) (q := 0) G dB_reduce_21 rfl rfl ?_
          obtain ⟨r22, e22, h⟩ := bd h
          refine w_callV (pc := 22) (av := []) (rest := []) (v := some (.int r22.1)) (L' := (LM κ τ (LC κ (x_added, x_asked, x_eR, x_et, x_oR, x_ot, r22.2.1, x_bD, x_bQ, x_bW, x_bS, x_bM, r22.2.2, x_bn, x_tg, x_tb, x_ts, x_fg, x_fb, x_fV, x_fS, x_fn, x_cg, x_cb, x_cB, x_cq, x_vHeld, x_vRed, x_vTal, x_vLis)))) (T := TB) (fs := fl_B κ (x_added, x_asked, x_eR, x_et, x_oR, x_ot, r15.2, x_bD, x_bQ, x_bW, x_bS, x_bM, x_bT, x_bn, x_tg, x_tb, x_ts, x_fg, x_fb, x_fV, x_fS, x_fn, x_cg, x_cb, x_cB, x_cq, x_vHeld, x_vRed, x_vTal, x_vLis)) G 38 3 8 (by decide) lb_B rfl cb_B_shortenBySums_B_reduce wd276 ws9 wd274 (met_B_shortenBySums κ τ F   e22) rfl rfl rfl (Nat.le_of_ble_eq_true rfl) dB_reduce_22 ?_
          refine w_if_eq (pc := 25) (tgt := 32) G dB_reduce_25 (by decide) (fun c25 => ?_) (fun c25 => ?_)
          · have h := if_t c25 h
            refine w_iconst (pc := 32) (v := (0 : Int32)) G dB_reduce_32 (by decide) ?_
            refine w_istore_n (pc := 33) (lv' := [(1, .int (0 : Int32)), (0, .ref (κ.1 38)), (2, .int v2)]) G dB_reduce_33 rfl (by decide) rfl ?_
            refine w_iinc (pc := 34) (q0 := 2) (v := (v2 + 1)) (lv' := [(2, .int (v2 + 1)), (1, .int (0 : Int32)), (0, .ref (κ.1 38))]) G dB_reduce_34 rfl rfl (by decide) rfl ?_
            refine w_goto (pc := 37) (tgt := 4) G dB_reduce_37 (by decide) ?_
            refine w_sub (lv' := [(0, .ref (κ.1 38)), (1, .int (0 : Int32)), (2, .int (v2 + 1))]) [2, 1, 0] rfl ?_
            exact ih (0 : Int32) (v2 + 1) r22.2.1 r22.2.2 out h K
          · have h := if_f c25 h
            refine w_iconst (pc := 28) (v := (1 : Int32)) G dB_reduce_28 (by decide) ?_
            refine w_goto (pc := 29) (tgt := 33) G dB_reduce_29 (by decide) ?_
            refine w_istore_n (pc := 33) (lv' := [(1, .int (1 : Int32)), (0, .ref (κ.1 38)), (2, .int v2)]) G dB_reduce_33 rfl (by decide) rfl ?_
            refine w_iinc (pc := 34) (q0 := 2) (v := (v2 + 1)) (lv' := [(2, .int (v2 + 1)), (1, .int (1 : Int32)), (0, .ref (κ.1 38))]) G dB_reduce_34 rfl rfl (by decide) rfl ?_
            refine w_goto (pc := 37) (tgt := 4) G dB_reduce_37 (by decide) ?_
            refine w_sub (lv' := [(0, .ref (κ.1 38)), (1, .int (1 : Int32)), (2, .int (v2 + 1))]) [2, 1, 0] rfl ?_
            exact ih (1 : Int32) (v2 + 1) r22.2.1 r22.2.2 out h K
        · have h := if_f c18 h
          refine w_iconst (pc := 28) (v := (1 : Int32)) G dB_reduce_28 (by decide) ?_
          refine w_goto (pc := 29) (tgt := 33) G dB_reduce_29 (by decide) ?_
          refine w_istore_n (pc := 33) (lv' := [(1, .int (1 : Int32)), (0, .ref (κ.1 38)), (2, .int v2)]) G dB_reduce_33 rfl (by decide) rfl ?_
          refine w_iinc (pc := 34) (q0 := 2) (v := (v2 + 1)) (lv' := [(2, .int (v2 + 1)), (1, .int (1 : Int32)), (0, .ref (κ.1 38))]) G dB_reduce_34 rfl rfl (by decide) rfl ?_
          refine w_goto (pc := 37) (tgt := 4) G dB_reduce_37 (by decide) ?_
          refine w_sub (lv' := [(0, .ref (κ.1 38)), (1, .int (1 : Int32)), (2, .int (v2 + 1))]) [2, 1, 0] rfl ?_
          exact ih (1 : Int32) (v2 + 1) r15.2 x_bT out h K
noncomputable def B_reduce (F : Nat)  (x_bR : Nat → Nat → Int64) (x_bT : Nat → Int64) (x_bn : Int32)  : Option ((Nat → Nat → Int64) × (Nat → Int64)) := (lB_reduce_4 F  x_bn F (1 : Int32) (0 : Int32) x_bR x_bT).bind (fun o4_19 => some (o4_19.1, o4_19.2))
set_option maxHeartbeats 8000000 in
set_option maxRecDepth 100000 in
theorem met_B_reduce (κ : ctx) (τ : MS) (F : Nat) {x_added : Nat → Nat → Int64} {x_asked : Nat → Int64} {x_eR : Nat → Nat → Int64} {x_et : Nat → Int64} {x_oR : Nat → Nat → Int64} {x_ot : Nat → Int64} {x_bR : Nat → Nat → Int64} {x_bD : Nat → Nat → Int64} {x_bQ : Nat → Int64} {x_bW : Nat → Int64} {x_bS : Nat → Nat → Int64} {x_bM : Nat → Nat → Int64} {x_bT : Nat → Int64} {x_bn : Int32} {x_tg : Nat → Int64} {x_tb : Int64} {x_ts : Nat → Int32} {x_fg : Nat → Int64} {x_fb : Int64} {x_fV : Nat → Nat → Int64} {x_fS : Nat → Int64} {x_fn : Int32} {x_cg : Nat → Int64} {x_cb : Int64} {x_cB : Nat → Int64} {x_cq : Int64} {x_vHeld : Int32} {x_vRed : Int32} {x_vTal : Int32} {x_vLis : Int32}  {out : (Nat → Nat → Int64) × (Nat → Int64)} (h : B_reduce F  x_bR x_bT x_bn  = some out) : Mt yB_reduce cB_reduce 3 none rm_B_reduce κ [.ref (κ.1 38)] (LM κ τ (LC κ (x_added, x_asked, x_eR, x_et, x_oR, x_ot, x_bR, x_bD, x_bQ, x_bW, x_bS, x_bM, x_bT, x_bn, x_tg, x_tb, x_ts, x_fg, x_fb, x_fV, x_fS, x_fn, x_cg, x_cb, x_cB, x_cq, x_vHeld, x_vRed, x_vTal, x_vLis))) none (LM κ τ (LC κ (x_added, x_asked, x_eR, x_et, x_oR, x_ot, out.1, x_bD, x_bQ, x_bW, x_bS, x_bM, out.2, x_bn, x_tg, x_tb, x_ts, x_fg, x_fb, x_fV, x_fS, x_fn, x_cg, x_cb, x_cB, x_cq, x_vHeld, x_vRed, x_vTal, x_vLis))) := by
  refine Mt.of (by decide) (Nat.le_of_ble_eq_true rfl) ?_
  intro g G Fh
  unfold B_reduce at h
  show J g κ 3 0 [(0, .ref (κ.1 38))] [] (LM κ τ (LC κ (x_added, x_asked, x_eR, x_et, x_oR, x_ot, x_bR, x_bD, x_bQ, x_bW, x_bS, x_bM, x_bT, x_bn, x_tg, x_tb, x_ts, x_fg, x_fb, x_fV, x_fS, x_fn, x_cg, x_cb, x_cB, x_cq, x_vHeld, x_vRed, x_vTal, x_vLis)))
  refine w_iconst (pc := 0) (v := (1 : Int32)) G dB_reduce_0 (by decide) ?_
  refine w_istore_n (pc := 1) (lv' := [(1, .int (1 : Int32)), (0, .ref (κ.1 38))]) G dB_reduce_1 rfl (by decide) rfl ?_
  refine w_iconst (pc := 2) (v := (0 : Int32)) G dB_reduce_2 (by decide) ?_
  refine w_istore_n (pc := 3) (lv' := [(2, .int (0 : Int32)), (1, .int (1 : Int32)), (0, .ref (κ.1 38))]) G dB_reduce_3 rfl (by decide) rfl ?_
  refine w_sub (lv' := [(0, .ref (κ.1 38)), (1, .int (1 : Int32)), (2, .int (0 : Int32))]) [2, 1, 0] rfl ?_
  obtain ⟨o4_19, eo4_19, h⟩ := bd h
  refine lB_reduce_4_ok G τ F  F (1 : Int32) (0 : Int32) x_bR x_bT o4_19 eo4_19 ?_
  obtain rfl := Option.some.inj h
  exact w_vret (pc := 40) G dB_reduce_40 Fh
def rm_B_sort : Room := { frames := 2, cells := 0, slots := 0, locals := 91 }
theorem dB_sort_0 : decode cB_sort 0 = .ok (.aload_n 0, 1) := by decide +kernel
theorem dB_sort_1 : decode cB_sort 1 = .ok (.getfield 35, 3) := by decide +kernel
theorem dB_sort_4 : decode cB_sort 4 = .ok (.iconst 1, 1) := by decide +kernel
theorem dB_sort_5 : decode cB_sort 5 = .ok (.isub, 1) := by decide +kernel
theorem dB_sort_6 : decode cB_sort 6 = .ok (.istore_n 1, 1) := by decide +kernel
theorem dB_sort_7 : decode cB_sort 7 = .ok (.iload_n 1, 1) := by decide +kernel
theorem dB_sort_8 : decode cB_sort 8 = .ok (.ifCond .le 83, 3) := by decide +kernel
theorem dB_sort_11 : decode cB_sort 11 = .ok (.iconst 0, 1) := by decide +kernel
theorem dB_sort_12 : decode cB_sort 12 = .ok (.istore_n 2, 1) := by decide +kernel
theorem dB_sort_13 : decode cB_sort 13 = .ok (.iload_n 2, 1) := by decide +kernel
theorem dB_sort_14 : decode cB_sort 14 = .ok (.iload_n 1, 1) := by decide +kernel
theorem dB_sort_15 : decode cB_sort 15 = .ok (.if_icmp .ge 70, 3) := by decide +kernel
theorem dB_sort_18 : decode cB_sort 18 = .ok (.aload_n 0, 1) := by decide +kernel
theorem dB_sort_19 : decode cB_sort 19 = .ok (.iload_n 2, 1) := by decide +kernel
theorem dB_sort_20 : decode cB_sort 20 = .ok (.iconst 1, 1) := by decide +kernel
theorem dB_sort_21 : decode cB_sort 21 = .ok (.iadd, 1) := by decide +kernel
theorem dB_sort_22 : decode cB_sort 22 = .ok (.invokevirtual 67, 3) := by decide +kernel
theorem dB_sort_25 : decode cB_sort 25 = .ok (.aload_n 0, 1) := by decide +kernel
theorem dB_sort_26 : decode cB_sort 26 = .ok (.iload_n 2, 1) := by decide +kernel
theorem dB_sort_27 : decode cB_sort 27 = .ok (.invokevirtual 67, 3) := by decide +kernel
theorem dB_sort_30 : decode cB_sort 30 = .ok (.lcmp, 1) := by decide +kernel
theorem dB_sort_31 : decode cB_sort 31 = .ok (.ifCond .ge 48, 3) := by decide +kernel
theorem dB_sort_34 : decode cB_sort 34 = .ok (.aload_n 0, 1) := by decide +kernel
theorem dB_sort_35 : decode cB_sort 35 = .ok (.getfield 13, 3) := by decide +kernel
theorem dB_sort_38 : decode cB_sort 38 = .ok (.iload_n 2, 1) := by decide +kernel
theorem dB_sort_39 : decode cB_sort 39 = .ok (.aaload, 1) := by decide +kernel
theorem dB_sort_40 : decode cB_sort 40 = .ok (.aload_n 0, 1) := by decide +kernel
theorem dB_sort_41 : decode cB_sort 41 = .ok (.getfield 32, 3) := by decide +kernel
theorem dB_sort_44 : decode cB_sort 44 = .ok (.invokestatic 49, 3) := by decide +kernel
theorem dB_sort_47 : decode cB_sort 47 = .ok (.aload_n 0, 1) := by decide +kernel
theorem dB_sort_48 : decode cB_sort 48 = .ok (.getfield 13, 3) := by decide +kernel
theorem dB_sort_51 : decode cB_sort 51 = .ok (.iload_n 2, 1) := by decide +kernel
theorem dB_sort_52 : decode cB_sort 52 = .ok (.iconst 1, 1) := by decide +kernel
theorem dB_sort_53 : decode cB_sort 53 = .ok (.iadd, 1) := by decide +kernel
theorem dB_sort_54 : decode cB_sort 54 = .ok (.aaload, 1) := by decide +kernel
theorem dB_sort_55 : decode cB_sort 55 = .ok (.aload_n 0, 1) := by decide +kernel
theorem dB_sort_56 : decode cB_sort 56 = .ok (.getfield 13, 3) := by decide +kernel
theorem dB_sort_59 : decode cB_sort 59 = .ok (.iload_n 2, 1) := by decide +kernel
theorem dB_sort_60 : decode cB_sort 60 = .ok (.aaload, 1) := by decide +kernel
theorem dB_sort_61 : decode cB_sort 61 = .ok (.invokestatic 49, 3) := by decide +kernel
theorem dB_sort_64 : decode cB_sort 64 = .ok (.aload_n 0, 1) := by decide +kernel
theorem dB_sort_65 : decode cB_sort 65 = .ok (.getfield 32, 3) := by decide +kernel
theorem dB_sort_68 : decode cB_sort 68 = .ok (.aload_n 0, 1) := by decide +kernel
theorem dB_sort_69 : decode cB_sort 69 = .ok (.getfield 13, 3) := by decide +kernel
theorem dB_sort_72 : decode cB_sort 72 = .ok (.iload_n 2, 1) := by decide +kernel
theorem dB_sort_73 : decode cB_sort 73 = .ok (.iconst 1, 1) := by decide +kernel
theorem dB_sort_74 : decode cB_sort 74 = .ok (.iadd, 1) := by decide +kernel
theorem dB_sort_75 : decode cB_sort 75 = .ok (.aaload, 1) := by decide +kernel
theorem dB_sort_76 : decode cB_sort 76 = .ok (.invokestatic 49, 3) := by decide +kernel
theorem dB_sort_79 : decode cB_sort 79 = .ok (.iinc 2 1, 3) := by decide +kernel
theorem dB_sort_82 : decode cB_sort 82 = .ok (.goto (-69), 3) := by decide +kernel
theorem dB_sort_85 : decode cB_sort 85 = .ok (.iinc 1 (-1), 3) := by decide +kernel
theorem dB_sort_88 : decode cB_sort 88 = .ok (.goto (-81), 3) := by decide +kernel
theorem dB_sort_91 : decode cB_sort 91 = .ok (.return_, 1) := by decide +kernel
theorem cb_V_copy_B_sort : CB yV_copy cV_copy 2 none rm_V_copy rm_B_sort 2 := ⟨wd170, wd1, by decide +kernel, rfl, rfl, by decide⟩
theorem cb_B_squareOf_B_sort : CB yB_squareOf cB_squareOf 2 (some .long) rm_B_squareOf rm_B_sort 1 := ⟨wd289, wd3, by decide +kernel, rfl, rfl, by decide⟩
noncomputable def lB_sort_13 (F : Nat) (v1 : Int32) : Nat → Int32 → (Nat → Nat → Int64) → (Nat → Int64) → Option ((Nat → Nat → Int64) × (Nat → Int64))
  | 0, _, _, _ => none
  | n + 1, v2, x_bR, x_bT => if v1 ≤ v2 then some (x_bR, x_bT) else (B_squareOf F x_bR (v2 + (1 : Int32))).bind (fun r22 => (B_squareOf F x_bR v2).bind (fun r27 => if r27 ≤ r22 then lB_sort_13 F  v1 n (v2 + 1) x_bR x_bT else gd (vp_in v2 4) ((V_copy F (x_bR v2.toNatClampNeg) x_bT ).bind (fun r44 => gd (vp_in (v2 + (1 : Int32)) 4) (gd (vp_in v2 4) (gd (¬ ((v2 + (1 : Int32)).toNatClampNeg) = v2.toNatClampNeg) ((V_copy F (x_bR (v2 + (1 : Int32)).toNatClampNeg) (x_bR v2.toNatClampNeg) ).bind (fun r61 => gd (vp_in (v2 + (1 : Int32)) 4) ((V_copy F r44 ((va_up x_bR v2.toNatClampNeg r61) (v2 + (1 : Int32)).toNatClampNeg) ).bind (fun r76 => lB_sort_13 F  v1 n (v2 + 1) (va_up (va_up x_bR v2.toNatClampNeg r61) (v2 + (1 : Int32)).toNatClampNeg r76) r44))))))))))
set_option maxHeartbeats 8000000 in
set_option maxRecDepth 100000 in
theorem lB_sort_13_ok {g : Gm} {κ : ctx} (G : OK g κ RB cB_sort 3 none rm_B_sort) (τ : MS) (F : Nat) {x_added : Nat → Nat → Int64} {x_asked : Nat → Int64} {x_eR : Nat → Nat → Int64} {x_et : Nat → Int64} {x_oR : Nat → Nat → Int64} {x_ot : Nat → Int64} {x_bD : Nat → Nat → Int64} {x_bQ : Nat → Int64} {x_bW : Nat → Int64} {x_bS : Nat → Nat → Int64} {x_bM : Nat → Nat → Int64} {x_bn : Int32} {x_tg : Nat → Int64} {x_tb : Int64} {x_ts : Nat → Int32} {x_fg : Nat → Int64} {x_fb : Int64} {x_fV : Nat → Nat → Int64} {x_fS : Nat → Int64} {x_fn : Int32} {x_cg : Nat → Int64} {x_cb : Int64} {x_cB : Nat → Int64} {x_cq : Int64} {x_vHeld : Int32} {x_vRed : Int32} {x_vTal : Int32} {x_vLis : Int32} (v1 : Int32) : ∀ (n : Nat) (v2 : Int32) (x_bR : Nat → Nat → Int64) (x_bT : Nat → Int64) (out : (Nat → Nat → Int64) × (Nat → Int64)), lB_sort_13 F   v1 n v2 x_bR x_bT = some out → (J g κ 3 85 [(0, .ref (κ.1 38)), (1, .int v1)] [] (LM κ τ (LC κ (x_added, x_asked, x_eR, x_et, x_oR, x_ot, out.1, x_bD, x_bQ, x_bW, x_bS, x_bM, out.2, x_bn, x_tg, x_tb, x_ts, x_fg, x_fb, x_fV, x_fS, x_fn, x_cg, x_cb, x_cB, x_cq, x_vHeld, x_vRed, x_vTal, x_vLis)))) → J g κ 3 13 [(0, .ref (κ.1 38)), (1, .int v1), (2, .int v2)] [] (LM κ τ (LC κ (x_added, x_asked, x_eR, x_et, x_oR, x_ot, x_bR, x_bD, x_bQ, x_bW, x_bS, x_bM, x_bT, x_bn, x_tg, x_tb, x_ts, x_fg, x_fb, x_fV, x_fS, x_fn, x_cg, x_cb, x_cB, x_cq, x_vHeld, x_vRed, x_vTal, x_vLis))) := by
  intro n
  induction n with
  | zero =>
    intro v2 x_bR x_bT
    intro out h
    rw [lB_sort_13] at h
    cases h
  | succ n ih =>
    intro v2 x_bR x_bT out h K
    rw [lB_sort_13] at h
    refine w_iload_n (pc := 13) (q := 2) G dB_sort_13 rfl rfl ?_
    refine w_iload_n (pc := 14) (q := 1) G dB_sort_14 rfl rfl ?_
    refine w_icmp_ge (pc := 15) (tgt := 85) G dB_sort_15 (by decide) (fun c15 => ?_) (fun c15 => ?_)
    · have h := if_t c15 h
      obtain rfl := Option.some.inj h
      refine w_sub (lv' := [(0, .ref (κ.1 38)), (1, .int v1)]) [0, 1] rfl ?_
      exact K
    · have h := if_f c15 h
      refine w_aload_n (pc := 18) (q := 0) G dB_sort_18 rfl rfl ?_
      refine w_iload_n (pc := 19) (q := 2) G dB_sort_19 rfl rfl ?_
      refine w_iconst (pc := 20) (v := (1 : Int32)) G dB_sort_20 (by decide) ?_
      refine w_iadd (pc := 21) G dB_sort_21 ?_
      obtain ⟨r22, e22, h⟩ := bd h
      refine w_callV (pc := 22) (av := [.int (v2 + (1 : Int32))]) (rest := []) (v := some (.long r22)) (L' := (LM κ τ (LC κ (x_added, x_asked, x_eR, x_et, x_oR, x_ot, x_bR, x_bD, x_bQ, x_bW, x_bS, x_bM, x_bT, x_bn, x_tg, x_tb, x_ts, x_fg, x_fb, x_fV, x_fS, x_fn, x_cg, x_cb, x_cB, x_cq, x_vHeld, x_vRed, x_vTal, x_vLis)))) (T := TB) (fs := fl_B κ (x_added, x_asked, x_eR, x_et, x_oR, x_ot, x_bR, x_bD, x_bQ, x_bW, x_bS, x_bM, x_bT, x_bn, x_tg, x_tb, x_ts, x_fg, x_fb, x_fV, x_fS, x_fn, x_cg, x_cb, x_cB, x_cq, x_vHeld, x_vRed, x_vTal, x_vLis)) G 38 3 8 (by decide) lb_B rfl cb_B_squareOf_B_sort wd287 wd288 wd286 (met_B_squareOf κ τ F (v2 + (1 : Int32))  e22) rfl rfl rfl (Nat.le_of_ble_eq_true rfl) dB_sort_22 ?_
      refine w_aload_n (pc := 25) (q := 0) G dB_sort_25 rfl rfl ?_
      refine w_iload_n (pc := 26) (q := 2) G dB_sort_26 rfl rfl ?_
      obtain ⟨r27, e27, h⟩ := bd h
      refine w_callV (pc := 27) (av := [.int v2]) (rest := [.long r22]) (v := some (.long r27)) (L' := (LM κ τ (LC κ (x_added, x_asked, x_eR, x_et, x_oR, x_ot, x_bR, x_bD, x_bQ, x_bW, x_bS, x_bM, x_bT, x_bn, x_tg, x_tb, x_ts, x_fg, x_fb, x_fV, x_fS, x_fn, x_cg, x_cb, x_cB, x_cq, x_vHeld, x_vRed, x_vTal, x_vLis)))) (T := TB) (fs := fl_B κ (x_added, x_asked, x_eR, x_et, x_oR, x_ot, x_bR, x_bD, x_bQ, x_bW, x_bS, x_bM, x_bT, x_bn, x_tg, x_tb, x_ts, x_fg, x_fb, x_fV, x_fS, x_fn, x_cg, x_cb, x_cB, x_cq, x_vHeld, x_vRed, x_vTal, x_vLis)) G 38 3 8 (by decide) lb_B rfl cb_B_squareOf_B_sort wd287 wd288 wd286 (met_B_squareOf κ τ F v2  e27) rfl rfl rfl (Nat.le_of_ble_eq_true rfl) dB_sort_27 ?_
      refine w_lc_ge (pc := 30) (tgt := 79) G dB_sort_30 dB_sort_31 (by decide) (fun c30 => ?_) (fun c30 => ?_)
      · have h := if_t c30 h
        refine w_iinc (pc := 79) (q0 := 2) (v := (v2 + 1)) (lv' := [(2, .int (v2 + 1)), (0, .ref (κ.1 38)), (1, .int v1)]) G dB_sort_79 rfl rfl (by decide) rfl ?_
        refine w_goto (pc := 82) (tgt := 13) G dB_sort_82 (by decide) ?_
        refine w_sub (lv' := [(0, .ref (κ.1 38)), (1, .int v1), (2, .int (v2 + 1))]) [1, 2, 0] rfl ?_
        exact ih (v2 + 1) x_bR x_bT out h K
      · have h := if_f c30 h
        refine w_aload_n (pc := 34) (q := 0) G dB_sort_34 rfl rfl ?_
        refine w_get (pc := 35) (v := .ref (κ.1 39)) (fs := fl_B κ (x_added, x_asked, x_eR, x_et, x_oR, x_ot, x_bR, x_bD, x_bQ, x_bW, x_bS, x_bM, x_bT, x_bn, x_tg, x_tb, x_ts, x_fg, x_fb, x_fV, x_fS, x_fn, x_cg, x_cb, x_cB, x_cq, x_vHeld, x_vRed, x_vTal, x_vLis)) G 38 (by decide) lb_B rfl wsB_ok 0 (by decide) wd44 gf_B_0 dB_sort_35 ?_
        refine w_iload_n (pc := 38) (q := 2) G dB_sort_38 rfl rfl ?_
        obtain ⟨i39, h⟩ := gd_some h
        refine w_aald (pc := 39) (n := 4) (f := og κ 40 4) (b := κ.1 (40 + v2.toNatClampNeg)) G 39 (by decide) lo_bR i39 (og_at (ixlt i39)) dB_sort_39 ?_
        refine w_aload_n (pc := 40) (q := 0) G dB_sort_40 rfl rfl ?_
        refine w_get (pc := 41) (v := .ref (κ.1 62)) (fs := fl_B κ (x_added, x_asked, x_eR, x_et, x_oR, x_ot, x_bR, x_bD, x_bQ, x_bW, x_bS, x_bM, x_bT, x_bn, x_tg, x_tb, x_ts, x_fg, x_fb, x_fV, x_fS, x_fn, x_cg, x_cb, x_cB, x_cq, x_vHeld, x_vRed, x_vTal, x_vLis)) G 38 (by decide) lb_B rfl wsB_ok 6 (by decide) wd50 gf_B_6 dB_sort_41 ?_
        obtain ⟨r44, e44, h⟩ := bd h
        refine w_callSN (pc := 44) (av := [.ref (κ.1 (40 + v2.toNatClampNeg)), .ref (κ.1 62)]) (rest := []) (v := none) (L' := (LM κ τ (LC κ (x_added, x_asked, x_eR, x_et, x_oR, x_ot, x_bR, x_bD, x_bQ, x_bW, x_bS, x_bM, r44, x_bn, x_tg, x_tb, x_ts, x_fg, x_fb, x_fV, x_fS, x_fn, x_cg, x_cb, x_cB, x_cq, x_vHeld, x_vRed, x_vTal, x_vLis)))) G cb_V_copy_B_sort wd169 wd247 (Mt.eqw up_bT (met_V_copy κ (LM κ τ (LC κ (x_added, x_asked, x_eR, x_et, x_oR, x_ot, x_bR, x_bD, x_bQ, x_bW, x_bS, x_bM, x_bT, x_bn, x_tg, x_tb, x_ts, x_fg, x_fb, x_fV, x_fS, x_fn, x_cg, x_cb, x_cB, x_cq, x_vHeld, x_vRed, x_vTal, x_vLis))) F  (40 + v2.toNatClampNeg) (nw_bR (ixlt i39)) (x_bR v2.toNatClampNeg) (lk_bR (ixlt i39)) 62 (by decide) x_bT lk_bT (by have := (ixlt i39); omega) e44)) rfl rfl rfl (Nat.le_of_ble_eq_true rfl) dB_sort_44 ?_
        refine w_aload_n (pc := 47) (q := 0) G dB_sort_47 rfl rfl ?_
        refine w_get (pc := 48) (v := .ref (κ.1 39)) (fs := fl_B κ (x_added, x_asked, x_eR, x_et, x_oR, x_ot, x_bR, x_bD, x_bQ, x_bW, x_bS, x_bM, r44, x_bn, x_tg, x_tb, x_ts, x_fg, x_fb, x_fV, x_fS, x_fn, x_cg, x_cb, x_cB, x_cq, x_vHeld, x_vRed, x_vTal, x_vLis)) G 38 (by decide) lb_B rfl wsB_ok 0 (by decide) wd44 gf_B_0 dB_sort_48 ?_
        refine w_iload_n (pc := 51) (q := 2) G dB_sort_51 rfl rfl ?_
        refine w_iconst (pc := 52) (v := (1 : Int32)) G dB_sort_52 (by decide) ?_
        refine w_iadd (pc := 53) G dB_sort_53 ?_
        obtain ⟨i54, h⟩ := gd_some h
        refine w_aald (pc := 54) (n := 4) (f := og κ 40 4) (b := κ.1 (40 + (v2 + (1 : Int32)).toNatClampNeg)) G 39 (by decide) lo_bR i54 (og_at (ixlt i54)) dB_sort_54 ?_
        refine w_aload_n (pc := 55) (q := 0) G dB_sort_55 rfl rfl ?_
        refine w_get (pc := 56) (v := .ref (κ.1 39)) (fs := fl_B κ (x_added, x_asked, x_eR, x_et, x_oR, x_ot, x_bR, x_bD, x_bQ, x_bW, x_bS, x_bM, r44, x_bn, x_tg, x_tb, x_ts, x_fg, x_fb, x_fV, x_fS, x_fn, x_cg, x_cb, x_cB, x_cq, x_vHeld, x_vRed, x_vTal, x_vLis)) G 38 (by decide) lb_B rfl wsB_ok 0 (by decide) wd44 gf_B_0 dB_sort_56 ?_
        refine w_iload_n (pc := 59) (q := 2) G dB_sort_59 rfl rfl ?_
        obtain ⟨i60, h⟩ := gd_some h
        refine w_aald (pc := 60) (n := 4) (f := og κ 40 4) (b := κ.1 (40 + v2.toNatClampNeg)) G 39 (by decide) lo_bR i60 (og_at (ixlt i60)) dB_sort_60 ?_
        obtain ⟨ne61, h⟩ := gd_some h
        obtain ⟨r61, e61, h⟩ := bd h
        refine w_callSN (pc := 61) (av := [.ref (κ.1 (40 + (v2 + (1 : Int32)).toNatClampNeg)), .ref (κ.1 (40 + v2.toNatClampNeg))]) (rest := []) (v := none) (L' := (LM κ τ (LC κ (x_added, x_asked, x_eR, x_et, x_oR, x_ot, va_up x_bR v2.toNatClampNeg r61, x_bD, x_bQ, x_bW, x_bS, x_bM, r44, x_bn, x_tg, x_tb, x_ts, x_fg, x_fb, x_fV, x_fS, x_fn, x_cg, x_cb, x_cB, x_cq, x_vHeld, x_vRed, x_vTal, x_vLis)))) G cb_V_copy_B_sort wd169 wd247 (Mt.eqw (up_bR (ixlt i60)) (met_V_copy κ (LM κ τ (LC κ (x_added, x_asked, x_eR, x_et, x_oR, x_ot, x_bR, x_bD, x_bQ, x_bW, x_bS, x_bM, r44, x_bn, x_tg, x_tb, x_ts, x_fg, x_fb, x_fV, x_fS, x_fn, x_cg, x_cb, x_cB, x_cq, x_vHeld, x_vRed, x_vTal, x_vLis))) F  (40 + (v2 + (1 : Int32)).toNatClampNeg) (nw_bR (ixlt i54)) (x_bR (v2 + (1 : Int32)).toNatClampNeg) (lk_bR (ixlt i54)) (40 + v2.toNatClampNeg) (nw_bR (ixlt i60)) (x_bR v2.toNatClampNeg) (lk_bR (ixlt i60)) (fun q => ne61 (by omega)) e61)) rfl rfl rfl (Nat.le_of_ble_eq_true rfl) dB_sort_61 ?_
        refine w_aload_n (pc := 64) (q := 0) G dB_sort_64 rfl rfl ?_
        refine w_get (pc := 65) (v := .ref (κ.1 62)) (fs := fl_B κ (x_added, x_asked, x_eR, x_et, x_oR, x_ot, va_up x_bR v2.toNatClampNeg r61, x_bD, x_bQ, x_bW, x_bS, x_bM, r44, x_bn, x_tg, x_tb, x_ts, x_fg, x_fb, x_fV, x_fS, x_fn, x_cg, x_cb, x_cB, x_cq, x_vHeld, x_vRed, x_vTal, x_vLis)) G 38 (by decide) lb_B rfl wsB_ok 6 (by decide) wd50 gf_B_6 dB_sort_65 ?_
        refine w_aload_n (pc := 68) (q := 0) G dB_sort_68 rfl rfl ?_
        refine w_get (pc := 69) (v := .ref (κ.1 39)) (fs := fl_B κ (x_added, x_asked, x_eR, x_et, x_oR, x_ot, va_up x_bR v2.toNatClampNeg r61, x_bD, x_bQ, x_bW, x_bS, x_bM, r44, x_bn, x_tg, x_tb, x_ts, x_fg, x_fb, x_fV, x_fS, x_fn, x_cg, x_cb, x_cB, x_cq, x_vHeld, x_vRed, x_vTal, x_vLis)) G 38 (by decide) lb_B rfl wsB_ok 0 (by decide) wd44 gf_B_0 dB_sort_69 ?_
        refine w_iload_n (pc := 72) (q := 2) G dB_sort_72 rfl rfl ?_
        refine w_iconst (pc := 73) (v := (1 : Int32)) G dB_sort_73 (by decide) ?_
        refine w_iadd (pc := 74) G dB_sort_74 ?_
        obtain ⟨i75, h⟩ := gd_some h
        refine w_aald (pc := 75) (n := 4) (f := og κ 40 4) (b := κ.1 (40 + (v2 + (1 : Int32)).toNatClampNeg)) G 39 (by decide) lo_bR i75 (og_at (ixlt i75)) dB_sort_75 ?_
        obtain ⟨r76, e76, h⟩ := bd h
        refine w_callSN (pc := 76) (av := [.ref (κ.1 62), .ref (κ.1 (40 + (v2 + (1 : Int32)).toNatClampNeg))]) (rest := []) (v := none) (L' := (LM κ τ (LC κ (x_added, x_asked, x_eR, x_et, x_oR, x_ot, va_up (va_up x_bR v2.toNatClampNeg r61) (v2 + (1 : Int32)).toNatClampNeg r76, x_bD, x_bQ, x_bW, x_bS, x_bM, r44, x_bn, x_tg, x_tb, x_ts, x_fg, x_fb, x_fV, x_fS, x_fn, x_cg, x_cb, x_cB, x_cq, x_vHeld, x_vRed, x_vTal, x_vLis)))) G cb_V_copy_B_sort wd169 wd247 (Mt.eqw (up_bR (ixlt i75)) (met_V_copy κ (LM κ τ (LC κ (x_added, x_asked, x_eR, x_et, x_oR, x_ot, va_up x_bR v2.toNatClampNeg r61, x_bD, x_bQ, x_bW, x_bS, x_bM, r44, x_bn, x_tg, x_tb, x_ts, x_fg, x_fb, x_fV, x_fS, x_fn, x_cg, x_cb, x_cB, x_cq, x_vHeld, x_vRed, x_vTal, x_vLis))) F  62 (by decide) r44 lk_bT (40 + (v2 + (1 : Int32)).toNatClampNeg) (nw_bR (ixlt i75)) ((va_up x_bR v2.toNatClampNeg r61) (v2 + (1 : Int32)).toNatClampNeg) (lk_bR (ixlt i75)) (by have := (ixlt i75); omega) e76)) rfl rfl rfl (Nat.le_of_ble_eq_true rfl) dB_sort_76 ?_
        refine w_iinc (pc := 79) (q0 := 2) (v := (v2 + 1)) (lv' := [(2, .int (v2 + 1)), (0, .ref (κ.1 38)), (1, .int v1)]) G dB_sort_79 rfl rfl (by decide) rfl ?_
        refine w_goto (pc := 82) (tgt := 13) G dB_sort_82 (by decide) ?_
        refine w_sub (lv' := [(0, .ref (κ.1 38)), (1, .int v1), (2, .int (v2 + 1))]) [1, 2, 0] rfl ?_
        exact ih (v2 + 1) (va_up (va_up x_bR v2.toNatClampNeg r61) (v2 + (1 : Int32)).toNatClampNeg r76) r44 out h K
noncomputable def lB_sort_7 (F : Nat) : Nat → Int32 → (Nat → Nat → Int64) → (Nat → Int64) → Option ((Nat → Nat → Int64) × (Nat → Int64))
  | 0, _, _, _ => none
  | n + 1, v1, x_bR, x_bT => if v1 ≤ 0 then some (x_bR, x_bT) else (lB_sort_13 F  v1 F (0 : Int32) x_bR x_bT).bind (fun o13_22 => lB_sort_7 F   n (v1 + (-1)) o13_22.1 o13_22.2)
set_option maxHeartbeats 8000000 in
set_option maxRecDepth 100000 in
theorem lB_sort_7_ok {g : Gm} {κ : ctx} (G : OK g κ RB cB_sort 3 none rm_B_sort) (τ : MS) (F : Nat) {x_added : Nat → Nat → Int64} {x_asked : Nat → Int64} {x_eR : Nat → Nat → Int64} {x_et : Nat → Int64} {x_oR : Nat → Nat → Int64} {x_ot : Nat → Int64} {x_bD : Nat → Nat → Int64} {x_bQ : Nat → Int64} {x_bW : Nat → Int64} {x_bS : Nat → Nat → Int64} {x_bM : Nat → Nat → Int64} {x_bn : Int32} {x_tg : Nat → Int64} {x_tb : Int64} {x_ts : Nat → Int32} {x_fg : Nat → Int64} {x_fb : Int64} {x_fV : Nat → Nat → Int64} {x_fS : Nat → Int64} {x_fn : Int32} {x_cg : Nat → Int64} {x_cb : Int64} {x_cB : Nat → Int64} {x_cq : Int64} {x_vHeld : Int32} {x_vRed : Int32} {x_vTal : Int32} {x_vLis : Int32} : ∀ (n : Nat) (v1 : Int32) (x_bR : Nat → Nat → Int64) (x_bT : Nat → Int64) (out : (Nat → Nat → Int64) × (Nat → Int64)), lB_sort_7 F    n v1 x_bR x_bT = some out → (J g κ 3 91 [] [] (LM κ τ (LC κ (x_added, x_asked, x_eR, x_et, x_oR, x_ot, out.1, x_bD, x_bQ, x_bW, x_bS, x_bM, out.2, x_bn, x_tg, x_tb, x_ts, x_fg, x_fb, x_fV, x_fS, x_fn, x_cg, x_cb, x_cB, x_cq, x_vHeld, x_vRed, x_vTal, x_vLis)))) → J g κ 3 7 [(0, .ref (κ.1 38)), (1, .int v1)] [] (LM κ τ (LC κ (x_added, x_asked, x_eR, x_et, x_oR, x_ot, x_bR, x_bD, x_bQ, x_bW, x_bS, x_bM, x_bT, x_bn, x_tg, x_tb, x_ts, x_fg, x_fb, x_fV, x_fS, x_fn, x_cg, x_cb, x_cB, x_cq, x_vHeld, x_vRed, x_vTal, x_vLis))) := by
  intro n
  induction n with
  | zero =>
    intro v1 x_bR x_bT
    intro out h
    rw [lB_sort_7] at h
    cases h
  | succ n ih =>
    intro v1 x_bR x_bT out h K
    rw [lB_sort_7] at h
    refine w_iload_n (pc := 7) (q := 1) G dB_sort_7 rfl rfl ?_
    refine w_if_le (pc := 8) (tgt := 91) G dB_sort_8 (by decide) (fun c8 => ?_) (fun c8 => ?_)
    · have h := if_t c8 h
      obtain rfl := Option.some.inj h
      refine w_sub (lv' := []) [] rfl ?_
      exact K
    · have h := if_f c8 h
      refine w_iconst (pc := 11) (v := (0 : Int32)) G dB_sort_11 (by decide) ?_
      refine w_istore_n (pc := 12) (lv' := [(2, .int (0 : Int32)), (0, .ref (κ.1 38)), (1, .int v1)]) G dB_sort_12 rfl (by decide) rfl ?_
      refine w_sub (lv' := [(0, .ref (κ.1 38)), (1, .int v1), (2, .int (0 : Int32))]) [1, 2, 0] rfl ?_
      obtain ⟨o13_22, eo13_22, h⟩ := bd h
      refine lB_sort_13_ok G τ F  v1 F (0 : Int32) x_bR x_bT o13_22 eo13_22 ?_
      refine w_iinc (pc := 85) (q0 := 1) (v := (v1 + (-1))) (lv' := [(1, .int (v1 + (-1))), (0, .ref (κ.1 38))]) G dB_sort_85 rfl rfl (by decide) rfl ?_
      refine w_goto (pc := 88) (tgt := 7) G dB_sort_88 (by decide) ?_
      refine w_sub (lv' := [(0, .ref (κ.1 38)), (1, .int (v1 + (-1)))]) [1, 0] rfl ?_
      exact ih (v1 + (-1)) o13_22.1 o13_22.2 out h K
noncomputable def B_sort (F : Nat)  (x_bR : Nat → Nat → Int64) (x_bT : Nat → Int64) (x_bn : Int32)  : Option ((Nat → Nat → Int64) × (Nat → Int64)) := (lB_sort_7 F   F (x_bn - (1 : Int32)) x_bR x_bT).bind (fun o7_22 => some (o7_22.1, o7_22.2))
set_option maxHeartbeats 8000000 in
set_option maxRecDepth 100000 in
theorem met_B_sort (κ : ctx) (τ : MS) (F : Nat) {x_added : Nat → Nat → Int64} {x_asked : Nat → Int64} {x_eR : Nat → Nat → Int64} {x_et : Nat → Int64} {x_oR : Nat → Nat → Int64} {x_ot : Nat → Int64} {x_bR : Nat → Nat → Int64} {x_bD : Nat → Nat → Int64} {x_bQ : Nat → Int64} {x_bW : Nat → Int64} {x_bS : Nat → Nat → Int64} {x_bM : Nat → Nat → Int64} {x_bT : Nat → Int64} {x_bn : Int32} {x_tg : Nat → Int64} {x_tb : Int64} {x_ts : Nat → Int32} {x_fg : Nat → Int64} {x_fb : Int64} {x_fV : Nat → Nat → Int64} {x_fS : Nat → Int64} {x_fn : Int32} {x_cg : Nat → Int64} {x_cb : Int64} {x_cB : Nat → Int64} {x_cq : Int64} {x_vHeld : Int32} {x_vRed : Int32} {x_vTal : Int32} {x_vLis : Int32}  {out : (Nat → Nat → Int64) × (Nat → Int64)} (h : B_sort F  x_bR x_bT x_bn  = some out) : Mt yB_sort cB_sort 3 none rm_B_sort κ [.ref (κ.1 38)] (LM κ τ (LC κ (x_added, x_asked, x_eR, x_et, x_oR, x_ot, x_bR, x_bD, x_bQ, x_bW, x_bS, x_bM, x_bT, x_bn, x_tg, x_tb, x_ts, x_fg, x_fb, x_fV, x_fS, x_fn, x_cg, x_cb, x_cB, x_cq, x_vHeld, x_vRed, x_vTal, x_vLis))) none (LM κ τ (LC κ (x_added, x_asked, x_eR, x_et, x_oR, x_ot, out.1, x_bD, x_bQ, x_bW, x_bS, x_bM, out.2, x_bn, x_tg, x_tb, x_ts, x_fg, x_fb, x_fV, x_fS, x_fn, x_cg, x_cb, x_cB, x_cq, x_vHeld, x_vRed, x_vTal, x_vLis))) := by
  refine Mt.of (by decide) (Nat.le_of_ble_eq_true rfl) ?_
  intro g G Fh
  unfold B_sort at h
  show J g κ 3 0 [(0, .ref (κ.1 38))] [] (LM κ τ (LC κ (x_added, x_asked, x_eR, x_et, x_oR, x_ot, x_bR, x_bD, x_bQ, x_bW, x_bS, x_bM, x_bT, x_bn, x_tg, x_tb, x_ts, x_fg, x_fb, x_fV, x_fS, x_fn, x_cg, x_cb, x_cB, x_cq, x_vHeld, x_vRed, x_vTal, x_vLis)))
  refine w_aload_n (pc := 0) (q := 0) G dB_sort_0 rfl rfl ?_
  refine w_get (pc := 1) (v := .int x_bn) (fs := fl_B κ (x_added, x_asked, x_eR, x_et, x_oR, x_ot, x_bR, x_bD, x_bQ, x_bW, x_bS, x_bM, x_bT, x_bn, x_tg, x_tb, x_ts, x_fg, x_fb, x_fV, x_fS, x_fn, x_cg, x_cb, x_cB, x_cq, x_vHeld, x_vRed, x_vTal, x_vLis)) G 38 (by decide) lb_B rfl wsB_ok 7 (by decide) wd51 gf_B_7 dB_sort_1 ?_
  refine w_iconst (pc := 4) (v := (1 : Int32)) G dB_sort_4 (by decide) ?_
  refine w_isub (pc := 5) G dB_sort_5 ?_
  refine w_istore_n (pc := 6) (lv' := [(1, .int (x_bn - (1 : Int32))), (0, .ref (κ.1 38))]) G dB_sort_6 rfl (by decide) rfl ?_
  refine w_sub (lv' := [(0, .ref (κ.1 38)), (1, .int (x_bn - (1 : Int32)))]) [1, 0] rfl ?_
  obtain ⟨o7_22, eo7_22, h⟩ := bd h
  refine lB_sort_7_ok G τ F  F (x_bn - (1 : Int32)) x_bR x_bT o7_22 eo7_22 ?_
  obtain rfl := Option.some.inj h
  exact w_vret (pc := 91) G dB_sort_91 Fh
def rm_B_direct : Room := { frames := 3, cells := 0, slots := 0, locals := 130 }
theorem dB_direct_0 : decode cB_direct 0 = .ok (.aload_n 0, 1) := by decide +kernel
theorem dB_direct_1 : decode cB_direct 1 = .ok (.getfield 16, 3) := by decide +kernel
theorem dB_direct_4 : decode cB_direct 4 = .ok (.iload_n 1, 1) := by decide +kernel
theorem dB_direct_5 : decode cB_direct 5 = .ok (.aaload, 1) := by decide +kernel
theorem dB_direct_6 : decode cB_direct 6 = .ok (.astore_n 2, 1) := by decide +kernel
theorem dB_direct_7 : decode cB_direct 7 = .ok (.aload_n 0, 1) := by decide +kernel
theorem dB_direct_8 : decode cB_direct 8 = .ok (.getfield 13, 3) := by decide +kernel
theorem dB_direct_11 : decode cB_direct 11 = .ok (.iload_n 1, 1) := by decide +kernel
theorem dB_direct_12 : decode cB_direct 12 = .ok (.aaload, 1) := by decide +kernel
theorem dB_direct_13 : decode cB_direct 13 = .ok (.aload_n 2, 1) := by decide +kernel
theorem dB_direct_14 : decode cB_direct 14 = .ok (.invokestatic 49, 3) := by decide +kernel
theorem dB_direct_17 : decode cB_direct 17 = .ok (.iconst 0, 1) := by decide +kernel
theorem dB_direct_18 : decode cB_direct 18 = .ok (.istore_n 3, 1) := by decide +kernel
theorem dB_direct_19 : decode cB_direct 19 = .ok (.iload_n 3, 1) := by decide +kernel
theorem dB_direct_20 : decode cB_direct 20 = .ok (.iload_n 1, 1) := by decide +kernel
theorem dB_direct_21 : decode cB_direct 21 = .ok (.if_icmp .ge 25, 3) := by decide +kernel
theorem dB_direct_24 : decode cB_direct 24 = .ok (.aload_n 2, 1) := by decide +kernel
theorem dB_direct_25 : decode cB_direct 25 = .ok (.aload_n 0, 1) := by decide +kernel
theorem dB_direct_26 : decode cB_direct 26 = .ok (.getfield 16, 3) := by decide +kernel
theorem dB_direct_29 : decode cB_direct 29 = .ok (.iload_n 3, 1) := by decide +kernel
theorem dB_direct_30 : decode cB_direct 30 = .ok (.aaload, 1) := by decide +kernel
theorem dB_direct_31 : decode cB_direct 31 = .ok (.aload_n 0, 1) := by decide +kernel
theorem dB_direct_32 : decode cB_direct 32 = .ok (.getfield 19, 3) := by decide +kernel
theorem dB_direct_35 : decode cB_direct 35 = .ok (.iload_n 3, 1) := by decide +kernel
theorem dB_direct_36 : decode cB_direct 36 = .ok (.laload, 1) := by decide +kernel
theorem dB_direct_37 : decode cB_direct 37 = .ok (.invokestatic 102, 3) := by decide +kernel
theorem dB_direct_40 : decode cB_direct 40 = .ok (.iinc 3 1, 3) := by decide +kernel
theorem dB_direct_43 : decode cB_direct 43 = .ok (.goto (-24), 3) := by decide +kernel
theorem dB_direct_46 : decode cB_direct 46 = .ok (.aload_n 0, 1) := by decide +kernel
theorem dB_direct_47 : decode cB_direct 47 = .ok (.getfield 19, 3) := by decide +kernel
theorem dB_direct_50 : decode cB_direct 50 = .ok (.iload_n 1, 1) := by decide +kernel
theorem dB_direct_51 : decode cB_direct 51 = .ok (.lconst 1, 1) := by decide +kernel
theorem dB_direct_52 : decode cB_direct 52 = .ok (.aload_n 2, 1) := by decide +kernel
theorem dB_direct_53 : decode cB_direct 53 = .ok (.aload_n 2, 1) := by decide +kernel
theorem dB_direct_54 : decode cB_direct 54 = .ok (.invokestatic 63, 3) := by decide +kernel
theorem dB_direct_57 : decode cB_direct 57 = .ok (.invokestatic 105, 3) := by decide +kernel
theorem dB_direct_60 : decode cB_direct 60 = .ok (.lastore, 1) := by decide +kernel
theorem dB_direct_61 : decode cB_direct 61 = .ok (.aload_n 0, 1) := by decide +kernel
theorem dB_direct_62 : decode cB_direct 62 = .ok (.getfield 23, 3) := by decide +kernel
theorem dB_direct_65 : decode cB_direct 65 = .ok (.iload_n 1, 1) := by decide +kernel
theorem dB_direct_66 : decode cB_direct 66 = .ok (.lconst 1, 1) := by decide +kernel
theorem dB_direct_67 : decode cB_direct 67 = .ok (.aload_n 2, 1) := by decide +kernel
theorem dB_direct_68 : decode cB_direct 68 = .ok (.aload_n 0, 1) := by decide +kernel
theorem dB_direct_69 : decode cB_direct 69 = .ok (.getfield 13, 3) := by decide +kernel
theorem dB_direct_72 : decode cB_direct 72 = .ok (.iload_n 1, 1) := by decide +kernel
theorem dB_direct_73 : decode cB_direct 73 = .ok (.aaload, 1) := by decide +kernel
theorem dB_direct_74 : decode cB_direct 74 = .ok (.invokestatic 63, 3) := by decide +kernel
theorem dB_direct_77 : decode cB_direct 77 = .ok (.invokestatic 105, 3) := by decide +kernel
theorem dB_direct_80 : decode cB_direct 80 = .ok (.lastore, 1) := by decide +kernel
theorem dB_direct_81 : decode cB_direct 81 = .ok (.return_, 1) := by decide +kernel
theorem cb_V_copy_B_direct : CB yV_copy cV_copy 2 none rm_V_copy rm_B_direct 2 := ⟨wd170, wd1, by decide +kernel, rfl, rfl, by decide⟩
theorem cb_V_product_B_direct : CB yV_product cV_product 5 (some .long) rm_V_product rm_B_direct 2 := ⟨wd263, wd1, by decide +kernel, rfl, rfl, by decide⟩
theorem cb_B_turnAway_B_direct : CB yB_turnAway cB_turnAway 11 none rm_B_turnAway rm_B_direct 3 := ⟨wd296, wd3, by decide +kernel, rfl, rfl, by decide⟩
noncomputable def lB_direct_19 (F : Nat) (x_bQ : Nat → Int64) (v1 : Int32) (j2 : Nat) : Nat → Int32 → (Nat → Nat → Int64) → Option ((Nat → Nat → Int64))
  | 0, _, _ => none
  | n + 1, v3, x_bD => if v1 ≤ v3 then some (x_bD) else gd (vp_in v3 4) (gd (vp_in v3 4) (gd (¬ v3.toNatClampNeg = j2) ((B_turnAway F (x_bD j2) (x_bD v3.toNatClampNeg) (x_bQ v3.toNatClampNeg)).bind (fun r37 => lB_direct_19 F  x_bQ v1 j2 n (v3 + 1) (va_up x_bD j2 r37)))))
set_option maxHeartbeats 8000000 in
set_option maxRecDepth 100000 in
theorem lB_direct_19_ok {g : Gm} {κ : ctx} (G : OK g κ RB cB_direct 4 none rm_B_direct) (τ : MS) (F : Nat) {x_added : Nat → Nat → Int64} {x_asked : Nat → Int64} {x_eR : Nat → Nat → Int64} {x_et : Nat → Int64} {x_oR : Nat → Nat → Int64} {x_ot : Nat → Int64} {x_bR : Nat → Nat → Int64} {x_bQ : Nat → Int64} {x_bW : Nat → Int64} {x_bS : Nat → Nat → Int64} {x_bM : Nat → Nat → Int64} {x_bT : Nat → Int64} {x_bn : Int32} {x_tg : Nat → Int64} {x_tb : Int64} {x_ts : Nat → Int32} {x_fg : Nat → Int64} {x_fb : Int64} {x_fV : Nat → Nat → Int64} {x_fS : Nat → Int64} {x_fn : Int32} {x_cg : Nat → Int64} {x_cb : Int64} {x_cB : Nat → Int64} {x_cq : Int64} {x_vHeld : Int32} {x_vRed : Int32} {x_vTal : Int32} {x_vLis : Int32} (v1 : Int32) (j2 : Nat) (p2 : j2 < 4) : ∀ (n : Nat) (v3 : Int32) (x_bD : Nat → Nat → Int64) (out : (Nat → Nat → Int64)), lB_direct_19 F  x_bQ v1 j2 n v3 x_bD = some out → (J g κ 4 46 [(0, .ref (κ.1 38)), (1, .int v1), (2, .ref (κ.1 (45 + j2)))] [] (LM κ τ (LC κ (x_added, x_asked, x_eR, x_et, x_oR, x_ot, x_bR, out, x_bQ, x_bW, x_bS, x_bM, x_bT, x_bn, x_tg, x_tb, x_ts, x_fg, x_fb, x_fV, x_fS, x_fn, x_cg, x_cb, x_cB, x_cq, x_vHeld, x_vRed, x_vTal, x_vLis)))) → J g κ 4 19 [(0, .ref (κ.1 38)), (1, .int v1), (2, .ref (κ.1 (45 + j2))), (3, .int v3)] [] (LM κ τ (LC κ (x_added, x_asked, x_eR, x_et, x_oR, x_ot, x_bR, x_bD, x_bQ, x_bW, x_bS, x_bM, x_bT, x_bn, x_tg, x_tb, x_ts, x_fg, x_fb, x_fV, x_fS, x_fn, x_cg, x_cb, x_cB, x_cq, x_vHeld, x_vRed, x_vTal, x_vLis))) := by
  intro n
  induction n with
  | zero =>
    intro v3 x_bD
    intro out h
    rw [lB_direct_19] at h
    cases h
  | succ n ih =>
    intro v3 x_bD out h K
    rw [lB_direct_19] at h
    refine w_iload_n (pc := 19) (q := 3) G dB_direct_19 rfl rfl ?_
    refine w_iload_n (pc := 20) (q := 1) G dB_direct_20 rfl rfl ?_
    refine w_icmp_ge (pc := 21) (tgt := 46) G dB_direct_21 (by decide) (fun c21 => ?_) (fun c21 => ?_)
    · have h := if_t c21 h
      obtain rfl := Option.some.inj h
      refine w_sub (lv' := [(0, .ref (κ.1 38)), (1, .int v1), (2, .ref (κ.1 (45 + j2)))]) [0, 1, 2] rfl ?_
      exact K
    · have h := if_f c21 h
      refine w_aload_n (pc := 24) (q := 2) G dB_direct_24 rfl rfl ?_
      refine w_aload_n (pc := 25) (q := 0) G dB_direct_25 rfl rfl ?_
      refine w_get (pc := 26) (v := .ref (κ.1 44)) (fs := fl_B κ (x_added, x_asked, x_eR, x_et, x_oR, x_ot, x_bR, x_bD, x_bQ, x_bW, x_bS, x_bM, x_bT, x_bn, x_tg, x_tb, x_ts, x_fg, x_fb, x_fV, x_fS, x_fn, x_cg, x_cb, x_cB, x_cq, x_vHeld, x_vRed, x_vTal, x_vLis)) G 38 (by decide) lb_B rfl wsB_ok 1 (by decide) wd45 gf_B_1 dB_direct_26 ?_
      refine w_iload_n (pc := 29) (q := 3) G dB_direct_29 rfl rfl ?_
      obtain ⟨i30, h⟩ := gd_some h
      refine w_aald (pc := 30) (n := 4) (f := og κ 45 4) (b := κ.1 (45 + v3.toNatClampNeg)) G 44 (by decide) lo_bD i30 (og_at (ixlt i30)) dB_direct_30 ?_
      refine w_aload_n (pc := 31) (q := 0) G dB_direct_31 rfl rfl ?_
      refine w_get (pc := 32) (v := .ref (κ.1 49)) (fs := fl_B κ (x_added, x_asked, x_eR, x_et, x_oR, x_ot, x_bR, x_bD, x_bQ, x_bW, x_bS, x_bM, x_bT, x_bn, x_tg, x_tb, x_ts, x_fg, x_fb, x_fV, x_fS, x_fn, x_cg, x_cb, x_cB, x_cq, x_vHeld, x_vRed, x_vTal, x_vLis)) G 38 (by decide) lb_B rfl wsB_ok 2 (by decide) wd46 gf_B_2 dB_direct_32 ?_
      refine w_iload_n (pc := 35) (q := 3) G dB_direct_35 rfl rfl ?_
      obtain ⟨i36, h⟩ := gd_some h
      refine w_lald (pc := 36) (n := 4) (f := x_bQ) G 49 (by decide) lk_bQ i36 dB_direct_36 ?_
      obtain ⟨ne37, h⟩ := gd_some h
      obtain ⟨r37, e37, h⟩ := bd h
      refine w_callS (pc := 37) (av := [.ref (κ.1 (45 + j2)), .ref (κ.1 (45 + v3.toNatClampNeg)), .long (x_bQ v3.toNatClampNeg)]) (rest := []) (v := none) (L' := (LM κ τ (LC κ (x_added, x_asked, x_eR, x_et, x_oR, x_ot, x_bR, va_up x_bD j2 r37, x_bQ, x_bW, x_bS, x_bM, x_bT, x_bn, x_tg, x_tb, x_ts, x_fg, x_fb, x_fV, x_fS, x_fn, x_cg, x_cb, x_cB, x_cq, x_vHeld, x_vRed, x_vTal, x_vLis)))) G cb_B_turnAway_B_direct wd295 wd294 (Mt.eqw (up_bD p2) (met_B_turnAway κ (LM κ τ (LC κ (x_added, x_asked, x_eR, x_et, x_oR, x_ot, x_bR, x_bD, x_bQ, x_bW, x_bS, x_bM, x_bT, x_bn, x_tg, x_tb, x_ts, x_fg, x_fb, x_fV, x_fS, x_fn, x_cg, x_cb, x_cB, x_cq, x_vHeld, x_vRed, x_vTal, x_vLis))) F (x_bQ v3.toNatClampNeg) (45 + j2) (nw_bD p2) (x_bD j2) (lk_bD p2) (45 + v3.toNatClampNeg) (nw_bD (ixlt i30)) (x_bD v3.toNatClampNeg) (lk_bD (ixlt i30)) (fun q => ne37 (by omega)) e37)) rfl rfl rfl (Nat.le_of_ble_eq_true rfl) dB_direct_37 ?_
      refine w_iinc (pc := 40) (q0 := 3) (v := (v3 + 1)) (lv' := [(3, .int (v3 + 1)), (0, .ref (κ.1 38)), (1, .int v1), (2, .ref (κ.1 (45 + j2)))]) G dB_direct_40 rfl rfl (by decide) rfl ?_
      refine w_goto (pc := 43) (tgt := 19) G dB_direct_43 (by decide) ?_
      refine w_sub (lv' := [(0, .ref (κ.1 38)), (1, .int v1), (2, .ref (κ.1 (45 + j2))), (3, .int (v3 + 1))]) [1, 2, 3, 0] rfl ?_
      exact ih (v3 + 1) (va_up x_bD j2 r37) out h K
noncomputable def B_direct (F : Nat)  (x_bR : Nat → Nat → Int64) (x_bD : Nat → Nat → Int64) (x_bQ : Nat → Int64) (x_bW : Nat → Int64) (v1 : Int32) : Option ((Nat → Nat → Int64) × (Nat → Int64) × (Nat → Int64)) := gd (vp_in v1 4) (gd (vp_in v1 4) ((V_copy F (x_bR v1.toNatClampNeg) (x_bD v1.toNatClampNeg) ).bind (fun r14 => (lB_direct_19 F  x_bQ v1 v1.toNatClampNeg F (0 : Int32) (va_up x_bD v1.toNatClampNeg r14)).bind (fun o19_7 => (V_product F (o19_7 v1.toNatClampNeg) (o19_7 v1.toNatClampNeg) ).bind (fun r54 => gd (vp_in v1 4) (gd (vp_in v1 4) ((V_product F (o19_7 v1.toNatClampNeg) (x_bR v1.toNatClampNeg) ).bind (fun r74 => gd (vp_in v1 4) (some (o19_7, vp_updL x_bQ v1.toNatClampNeg (if r54 < (1 : Int64) then (1 : Int64) else r54), vp_updL x_bW v1.toNatClampNeg (if r74 < (1 : Int64) then (1 : Int64) else r74)))))))))))
set_option maxHeartbeats 8000000 in
set_option maxRecDepth 100000 in
theorem met_B_direct (κ : ctx) (τ : MS) (F : Nat) {x_added : Nat → Nat → Int64} {x_asked : Nat → Int64} {x_eR : Nat → Nat → Int64} {x_et : Nat → Int64} {x_oR : Nat → Nat → Int64} {x_ot : Nat → Int64} {x_bR : Nat → Nat → Int64} {x_bD : Nat → Nat → Int64} {x_bQ : Nat → Int64} {x_bW : Nat → Int64} {x_bS : Nat → Nat → Int64} {x_bM : Nat → Nat → Int64} {x_bT : Nat → Int64} {x_bn : Int32} {x_tg : Nat → Int64} {x_tb : Int64} {x_ts : Nat → Int32} {x_fg : Nat → Int64} {x_fb : Int64} {x_fV : Nat → Nat → Int64} {x_fS : Nat → Int64} {x_fn : Int32} {x_cg : Nat → Int64} {x_cb : Int64} {x_cB : Nat → Int64} {x_cq : Int64} {x_vHeld : Int32} {x_vRed : Int32} {x_vTal : Int32} {x_vLis : Int32} (v1 : Int32) {out : (Nat → Nat → Int64) × (Nat → Int64) × (Nat → Int64)} (h : B_direct F  x_bR x_bD x_bQ x_bW v1 = some out) : Mt yB_direct cB_direct 4 none rm_B_direct κ [.ref (κ.1 38), .int v1] (LM κ τ (LC κ (x_added, x_asked, x_eR, x_et, x_oR, x_ot, x_bR, x_bD, x_bQ, x_bW, x_bS, x_bM, x_bT, x_bn, x_tg, x_tb, x_ts, x_fg, x_fb, x_fV, x_fS, x_fn, x_cg, x_cb, x_cB, x_cq, x_vHeld, x_vRed, x_vTal, x_vLis))) none (LM κ τ (LC κ (x_added, x_asked, x_eR, x_et, x_oR, x_ot, x_bR, out.1, out.2.1, out.2.2, x_bS, x_bM, x_bT, x_bn, x_tg, x_tb, x_ts, x_fg, x_fb, x_fV, x_fS, x_fn, x_cg, x_cb, x_cB, x_cq, x_vHeld, x_vRed, x_vTal, x_vLis))) := by
  refine Mt.of (by decide) (Nat.le_of_ble_eq_true rfl) ?_
  intro g G Fh
  unfold B_direct at h
  show J g κ 4 0 [(0, .ref (κ.1 38)), (1, .int v1)] [] (LM κ τ (LC κ (x_added, x_asked, x_eR, x_et, x_oR, x_ot, x_bR, x_bD, x_bQ, x_bW, x_bS, x_bM, x_bT, x_bn, x_tg, x_tb, x_ts, x_fg, x_fb, x_fV, x_fS, x_fn, x_cg, x_cb, x_cB, x_cq, x_vHeld, x_vRed, x_vTal, x_vLis)))
  refine w_aload_n (pc := 0) (q := 0) G dB_direct_0 rfl rfl ?_
  refine w_get (pc := 1) (v := .ref (κ.1 44)) (fs := fl_B κ (x_added, x_asked, x_eR, x_et, x_oR, x_ot, x_bR, x_bD, x_bQ, x_bW, x_bS, x_bM, x_bT, x_bn, x_tg, x_tb, x_ts, x_fg, x_fb, x_fV, x_fS, x_fn, x_cg, x_cb, x_cB, x_cq, x_vHeld, x_vRed, x_vTal, x_vLis)) G 38 (by decide) lb_B rfl wsB_ok 1 (by decide) wd45 gf_B_1 dB_direct_1 ?_
  refine w_iload_n (pc := 4) (q := 1) G dB_direct_4 rfl rfl ?_
  obtain ⟨i5, h⟩ := gd_some h
  refine w_aald (pc := 5) (n := 4) (f := og κ 45 4) (b := κ.1 (45 + v1.toNatClampNeg)) G 44 (by decide) lo_bD i5 (og_at (ixlt i5)) dB_direct_5 ?_
  refine w_astore_n (pc := 6) (lv' := [(2, .ref (κ.1 (45 + v1.toNatClampNeg))), (0, .ref (κ.1 38)), (1, .int v1)]) G dB_direct_6 rfl (by decide) rfl ?_
  refine w_aload_n (pc := 7) (q := 1) G dB_direct_7 rfl rfl ?_
  refine w_get (pc := 8) (v := .ref (κ.1 39)) (fs := fl_B κ (x_added, x_asked, x_eR, x_et, x_oR, x_ot, x_bR, x_bD, x_bQ, x_bW, x_bS, x_bM, x_bT, x_bn, x_tg, x_tb, x_ts, x_fg, x_fb, x_fV, x_fS, x_fn, x_cg, x_cb, x_cB, x_cq, x_vHeld, x_vRed, x_vTal, x_vLis)) G 38 (by decide) lb_B rfl wsB_ok 0 (by decide) wd44 gf_B_0 dB_direct_8 ?_
  refine w_iload_n (pc := 11) (q := 2) G dB_direct_11 rfl rfl ?_
  obtain ⟨i12, h⟩ := gd_some h
  refine w_aald (pc := 12) (n := 4) (f := og κ 40 4) (b := κ.1 (40 + v1.toNatClampNeg)) G 39 (by decide) lo_bR i12 (og_at (ixlt i12)) dB_direct_12 ?_
  refine w_aload_n (pc := 13) (q := 0) G dB_direct_13 rfl rfl ?_
  obtain ⟨r14, e14, h⟩ := bd h
  refine w_callSN (pc := 14) (av := [.ref (κ.1 (40 + v1.toNatClampNeg)), .ref (κ.1 (45 + v1.toNatClampNeg))]) (rest := []) (v := none) (L' := (LM κ τ (LC κ (x_added, x_asked, x_eR, x_et, x_oR, x_ot, x_bR, va_up x_bD v1.toNatClampNeg r14, x_bQ, x_bW, x_bS, x_bM, x_bT, x_bn, x_tg, x_tb, x_ts, x_fg, x_fb, x_fV, x_fS, x_fn, x_cg, x_cb, x_cB, x_cq, x_vHeld, x_vRed, x_vTal, x_vLis)))) G cb_V_copy_B_direct wd169 wd247 (Mt.eqw (up_bD (ixlt i5)) (met_V_copy κ (LM κ τ (LC κ (x_added, x_asked, x_eR, x_et, x_oR, x_ot, x_bR, x_bD, x_bQ, x_bW, x_bS, x_bM, x_bT, x_bn, x_tg, x_tb, x_ts, x_fg, x_fb, x_fV, x_fS, x_fn, x_cg, x_cb, x_cB, x_cq, x_vHeld, x_vRed, x_vTal, x_vLis))) F  (40 + v1.toNatClampNeg) (nw_bR (ixlt i12)) (x_bR v1.toNatClampNeg) (lk_bR (ixlt i12)) (45 + v1.toNatClampNeg) (nw_bD (ixlt i5)) (x_bD v1.toNatClampNeg) (lk_bD (ixlt i5)) (by have := (ixlt i12); have := (ixlt i5); omega) e14)) rfl rfl rfl (Nat.le_of_ble_eq_true rfl) dB_direct_14 ?_
  refine w_iconst (pc := 17) (v := (0 : Int32)) G dB_direct_17 (by decide) ?_
  refine w_istore_n (pc := 18) (lv' := [(3, .int (0 : Int32)), (2, .ref (κ.1 (45 + v1.toNatClampNeg))), (0, .ref (κ.1 38)), (1, .int v1)]) G dB_direct_18 rfl (by decide) rfl ?_
  refine w_sub (lv' := [(0, .ref (κ.1 38)), (1, .int v1), (2, .ref (κ.1 (45 + v1.toNatClampNeg))), (3, .int (0 : Int32))]) [2, 3, 1, 0] rfl ?_
  obtain ⟨o19_7, eo19_7, h⟩ := bd h
  refine lB_direct_19_ok G τ F  v1 v1.toNatClampNeg (ixlt i5) F (0 : Int32) (va_up x_bD v1.toNatClampNeg r14) o19_7 eo19_7 ?_
  refine w_aload_n (pc := 46) (q := 0) G dB_direct_46 rfl rfl ?_
  refine w_get (pc := 47) (v := .ref (κ.1 49)) (fs := fl_B κ (x_added, x_asked, x_eR, x_et, x_oR, x_ot, x_bR, o19_7, x_bQ, x_bW, x_bS, x_bM, x_bT, x_bn, x_tg, x_tb, x_ts, x_fg, x_fb, x_fV, x_fS, x_fn, x_cg, x_cb, x_cB, x_cq, x_vHeld, x_vRed, x_vTal, x_vLis)) G 38 (by decide) lb_B rfl wsB_ok 2 (by decide) wd46 gf_B_2 dB_direct_47 ?_
  refine w_iload_n (pc := 50) (q := 1) G dB_direct_50 rfl rfl ?_
  refine w_lconst (pc := 51) (v := (1 : Int64)) G dB_direct_51 (by decide) ?_
  refine w_aload_n (pc := 52) (q := 2) G dB_direct_52 rfl rfl ?_
  refine w_aload_n (pc := 53) (q := 2) G dB_direct_53 rfl rfl ?_
  obtain ⟨r54, e54, h⟩ := bd h
  refine w_callSN (pc := 54) (av := [.ref (κ.1 (45 + v1.toNatClampNeg)), .ref (κ.1 (45 + v1.toNatClampNeg))]) (rest := [.long (1 : Int64), .int v1, .ref (κ.1 49)]) (v := some (.long r54)) (L' := (LM κ τ (LC κ (x_added, x_asked, x_eR, x_et, x_oR, x_ot, x_bR, o19_7, x_bQ, x_bW, x_bS, x_bM, x_bT, x_bn, x_tg, x_tb, x_ts, x_fg, x_fb, x_fV, x_fS, x_fn, x_cg, x_cb, x_cB, x_cq, x_vHeld, x_vRed, x_vTal, x_vLis)))) G cb_V_product_B_direct wd262 wd261 (met_V_product κ (LM κ τ (LC κ (x_added, x_asked, x_eR, x_et, x_oR, x_ot, x_bR, o19_7, x_bQ, x_bW, x_bS, x_bM, x_bT, x_bn, x_tg, x_tb, x_ts, x_fg, x_fb, x_fV, x_fS, x_fn, x_cg, x_cb, x_cB, x_cq, x_vHeld, x_vRed, x_vTal, x_vLis))) F  (45 + v1.toNatClampNeg) (nw_bD (ixlt i5)) (o19_7 v1.toNatClampNeg) (lk_bD (ixlt i5)) (45 + v1.toNatClampNeg) (nw_bD (ixlt i5)) (o19_7 v1.toNatClampNeg) (lk_bD (ixlt i5)) e54) rfl rfl rfl (Nat.le_of_ble_eq_true rfl) dB_direct_54 ?_
  refine w_max (pc := 57) G wd302 wd303 wd10 wd304 (by decide) (Nat.le_of_ble_eq_true rfl) dB_direct_57 ?_
  obtain ⟨i60, h⟩ := gd_some h
  refine w_last (pc := 60) (n := 4) (f := x_bQ) (L1 := (LM κ τ (LC κ (x_added, x_asked, x_eR, x_et, x_oR, x_ot, x_bR, o19_7, vp_updL x_bQ v1.toNatClampNeg (if r54 < (1 : Int64) then (1 : Int64) else r54), x_bW, x_bS, x_bM, x_bT, x_bn, x_tg, x_tb, x_ts, x_fg, x_fb, x_fV, x_fS, x_fn, x_cg, x_cb, x_cB, x_cq, x_vHeld, x_vRed, x_vTal, x_vLis)))) G 49 (by decide) lk_bQ i60 dB_direct_60 up_bQ ?_
  refine w_aload_n (pc := 61) (q := 0) G dB_direct_61 rfl rfl ?_
  refine w_get (pc := 62) (v := .ref (κ.1 50)) (fs := fl_B κ (x_added, x_asked, x_eR, x_et, x_oR, x_ot, x_bR, o19_7, vp_updL x_bQ v1.toNatClampNeg (if r54 < (1 : Int64) then (1 : Int64) else r54), x_bW, x_bS, x_bM, x_bT, x_bn, x_tg, x_tb, x_ts, x_fg, x_fb, x_fV, x_fS, x_fn, x_cg, x_cb, x_cB, x_cq, x_vHeld, x_vRed, x_vTal, x_vLis)) G 38 (by decide) lb_B rfl wsB_ok 3 (by decide) wd47 gf_B_3 dB_direct_62 ?_
  refine w_iload_n (pc := 65) (q := 1) G dB_direct_65 rfl rfl ?_
  refine w_lconst (pc := 66) (v := (1 : Int64)) G dB_direct_66 (by decide) ?_
  refine w_aload_n (pc := 67) (q := 2) G dB_direct_67 rfl rfl ?_
  refine w_aload_n (pc := 68) (q := 0) G dB_direct_68 rfl rfl ?_
  refine w_get (pc := 69) (v := .ref (κ.1 39)) (fs := fl_B κ (x_added, x_asked, x_eR, x_et, x_oR, x_ot, x_bR, o19_7, vp_updL x_bQ v1.toNatClampNeg (if r54 < (1 : Int64) then (1 : Int64) else r54), x_bW, x_bS, x_bM, x_bT, x_bn, x_tg, x_tb, x_ts, x_fg, x_fb, x_fV, x_fS, x_fn, x_cg, x_cb, x_cB, x_cq, x_vHeld, x_vRed, x_vTal, x_vLis)) G 38 (by decide) lb_B rfl wsB_ok 0 (by decide) wd44 gf_B_0 dB_direct_69 ?_
  refine w_iload_n (pc := 72) (q := 1) G dB_direct_72 rfl rfl ?_
  obtain ⟨i73, h⟩ := gd_some h
  refine w_aald (pc := 73) (n := 4) (f := og κ 40 4) (b := κ.1 (40 + v1.toNatClampNeg)) G 39 (by decide) lo_bR i73 (og_at (ixlt i73)) dB_direct_73 ?_
  obtain ⟨r74, e74, h⟩ := bd h
  refine w_callSN (pc := 74) (av := [.ref (κ.1 (45 + v1.toNatClampNeg)), .ref (κ.1 (40 + v1.toNatClampNeg))]) (rest := [.long (1 : Int64), .int v1, .ref (κ.1 50)]) (v := some (.long r74)) (L' := (LM κ τ (LC κ (x_added, x_asked, x_eR, x_et, x_oR, x_ot, x_bR, o19_7, vp_updL x_bQ v1.toNatClampNeg (if r54 < (1 : Int64) then (1 : Int64) else r54), x_bW, x_bS, x_bM, x_bT, x_bn, x_tg, x_tb, x_ts, x_fg, x_fb, x_fV, x_fS, x_fn, x_cg, x_cb, x_cB, x_cq, x_vHeld, x_vRed, x_vTal, x_vLis)))) G cb_V_product_B_direct wd262 wd261 (met_V_product κ (LM κ τ (LC κ (x_added, x_asked, x_eR, x_et, x_oR, x_ot, x_bR, o19_7, vp_updL x_bQ v1.toNatClampNeg (if r54 < (1 : Int64) then (1 : Int64) else r54), x_bW, x_bS, x_bM, x_bT, x_bn, x_tg, x_tb, x_ts, x_fg, x_fb, x_fV, x_fS, x_fn, x_cg, x_cb, x_cB, x_cq, x_vHeld, x_vRed, x_vTal, x_vLis))) F  (45 + v1.toNatClampNeg) (nw_bD (ixlt i5)) (o19_7 v1.toNatClampNeg) (lk_bD (ixlt i5)) (40 + v1.toNatClampNeg) (nw_bR (ixlt i73)) (x_bR v1.toNatClampNeg) (lk_bR (ixlt i73)) e74) rfl rfl rfl (Nat.le_of_ble_eq_true rfl) dB_direct_74 ?_
  refine w_max (pc := 77) G wd302 wd303 wd10 wd304 (by decide) (Nat.le_of_ble_eq_true rfl) dB_direct_77 ?_
  obtain ⟨i80, h⟩ := gd_some h
  refine w_last (pc := 80) (n := 4) (f := x_bW) (L1 := (LM κ τ (LC κ (x_added, x_asked, x_eR, x_et, x_oR, x_ot, x_bR, o19_7, vp_updL x_bQ v1.toNatClampNeg (if r54 < (1 : Int64) then (1 : Int64) else r54), vp_updL x_bW v1.toNatClampNeg (if r74 < (1 : Int64) then (1 : Int64) else r74), x_bS, x_bM, x_bT, x_bn, x_tg, x_tb, x_ts, x_fg, x_fb, x_fV, x_fS, x_fn, x_cg, x_cb, x_cB, x_cq, x_vHeld, x_vRed, x_vTal, x_vLis)))) G 50 (by decide) lk_bW i80 dB_direct_80 up_bW ?_
  obtain rfl := Option.some.inj h
  exact w_vret (pc := 81) G dB_direct_81 Fh
def rm_B_take : Room := { frames := 5, cells := 0, slots := 0, locals := 161 }
theorem dB_take_0 : decode cB_take 0 = .ok (.aload_n 0, 1) := by decide +kernel
theorem dB_take_1 : decode cB_take 1 = .ok (.iconst 0, 1) := by decide +kernel
theorem dB_take_2 : decode cB_take 2 = .ok (.putfield 35, 3) := by decide +kernel
theorem dB_take_5 : decode cB_take 5 = .ok (.iconst 0, 1) := by decide +kernel
theorem dB_take_6 : decode cB_take 6 = .ok (.istore_n 2, 1) := by decide +kernel
theorem dB_take_7 : decode cB_take 7 = .ok (.iload_n 2, 1) := by decide +kernel
theorem dB_take_8 : decode cB_take 8 = .ok (.iconst 4, 1) := by decide +kernel
theorem dB_take_9 : decode cB_take 9 = .ok (.if_icmp .ge 44, 3) := by decide +kernel
theorem dB_take_12 : decode cB_take 12 = .ok (.aload_n 1, 1) := by decide +kernel
theorem dB_take_13 : decode cB_take 13 = .ok (.iload_n 2, 1) := by decide +kernel
theorem dB_take_14 : decode cB_take 14 = .ok (.invokevirtual 39, 3) := by decide +kernel
theorem dB_take_17 : decode cB_take 17 = .ok (.ifCond .eq 30, 3) := by decide +kernel
theorem dB_take_20 : decode cB_take 20 = .ok (.aload_n 1, 1) := by decide +kernel
theorem dB_take_21 : decode cB_take 21 = .ok (.iload_n 2, 1) := by decide +kernel
theorem dB_take_22 : decode cB_take 22 = .ok (.invokevirtual 45, 3) := by decide +kernel
theorem dB_take_25 : decode cB_take 25 = .ok (.aload_n 0, 1) := by decide +kernel
theorem dB_take_26 : decode cB_take 26 = .ok (.getfield 13, 3) := by decide +kernel
theorem dB_take_29 : decode cB_take 29 = .ok (.aload_n 0, 1) := by decide +kernel
theorem dB_take_30 : decode cB_take 30 = .ok (.getfield 35, 3) := by decide +kernel
theorem dB_take_33 : decode cB_take 33 = .ok (.aaload, 1) := by decide +kernel
theorem dB_take_34 : decode cB_take 34 = .ok (.invokestatic 49, 3) := by decide +kernel
theorem dB_take_37 : decode cB_take 37 = .ok (.aload_n 0, 1) := by decide +kernel
theorem dB_take_38 : decode cB_take 38 = .ok (.dup, 1) := by decide +kernel
theorem dB_take_39 : decode cB_take 39 = .ok (.getfield 35, 3) := by decide +kernel
theorem dB_take_42 : decode cB_take 42 = .ok (.iconst 1, 1) := by decide +kernel
theorem dB_take_43 : decode cB_take 43 = .ok (.iadd, 1) := by decide +kernel
theorem dB_take_44 : decode cB_take 44 = .ok (.putfield 35, 3) := by decide +kernel
theorem dB_take_47 : decode cB_take 47 = .ok (.iinc 2 1, 3) := by decide +kernel
theorem dB_take_50 : decode cB_take 50 = .ok (.goto (-43), 3) := by decide +kernel
theorem dB_take_53 : decode cB_take 53 = .ok (.aload_n 0, 1) := by decide +kernel
theorem dB_take_54 : decode cB_take 54 = .ok (.invokevirtual 53, 3) := by decide +kernel
theorem dB_take_57 : decode cB_take 57 = .ok (.aload_n 0, 1) := by decide +kernel
theorem dB_take_58 : decode cB_take 58 = .ok (.invokevirtual 56, 3) := by decide +kernel
theorem dB_take_61 : decode cB_take 61 = .ok (.iconst 0, 1) := by decide +kernel
theorem dB_take_62 : decode cB_take 62 = .ok (.istore_n 2, 1) := by decide +kernel
theorem dB_take_63 : decode cB_take 63 = .ok (.iload_n 2, 1) := by decide +kernel
theorem dB_take_64 : decode cB_take 64 = .ok (.aload_n 0, 1) := by decide +kernel
theorem dB_take_65 : decode cB_take 65 = .ok (.getfield 35, 3) := by decide +kernel
theorem dB_take_68 : decode cB_take 68 = .ok (.if_icmp .ge 14, 3) := by decide +kernel
theorem dB_take_71 : decode cB_take 71 = .ok (.aload_n 0, 1) := by decide +kernel
theorem dB_take_72 : decode cB_take 72 = .ok (.iload_n 2, 1) := by decide +kernel
theorem dB_take_73 : decode cB_take 73 = .ok (.invokevirtual 59, 3) := by decide +kernel
theorem dB_take_76 : decode cB_take 76 = .ok (.iinc 2 1, 3) := by decide +kernel
theorem dB_take_79 : decode cB_take 79 = .ok (.goto (-16), 3) := by decide +kernel
theorem dB_take_82 : decode cB_take 82 = .ok (.return_, 1) := by decide +kernel
theorem cb_V_copy_B_take : CB yV_copy cV_copy 2 none rm_V_copy rm_B_take 2 := ⟨wd170, wd1, by decide +kernel, rfl, rfl, by decide⟩
theorem cb_B_direct_B_take : CB yB_direct cB_direct 4 none rm_B_direct rm_B_take 1 := ⟨wd293, wd3, by decide +kernel, rfl, rfl, by decide⟩
theorem cb_B_reduce_B_take : CB yB_reduce cB_reduce 3 none rm_B_reduce rm_B_take 0 := ⟨wd251, wd3, by decide +kernel, rfl, rfl, by decide⟩
theorem cb_B_sort_B_take : CB yB_sort cB_sort 3 none rm_B_sort rm_B_take 0 := ⟨wd285, wd3, by decide +kernel, rfl, rfl, by decide⟩
theorem cb_E_isHeld_B_take : CB yE_isHeld cE_isHeld 2 (some .boolean) rm_E_isHeld rm_B_take 1 := ⟨wd195, wd2, by decide +kernel, rfl, rfl, by decide⟩
theorem cb_E_row_B_take : CB yE_row cE_row 2 (some (.array .long)) rm_E_row rm_B_take 1 := ⟨wd246, wd2, by decide +kernel, rfl, rfl, by decide⟩
noncomputable def lB_take_7 (F : Nat) (x_eR : Nat → Nat → Int64) : Nat → Int32 → (Nat → Nat → Int64) → Int32 → Option ((Nat → Nat → Int64) × Int32)
  | 0, _, _, _ => none
  | n + 1, v2, x_bR, x_bn => if (4 : Int32) ≤ v2 then some (x_bR, x_bn) else (E_isHeld F x_eR v2).bind (fun r14 => if r14 = 0 then lB_take_7 F  x_eR n (v2 + 1) x_bR x_bn else (E_row F  v2).bind (fun r22 => gd (vp_in x_bn 4) ((V_copy F (x_eR v2.toNatClampNeg) (x_bR x_bn.toNatClampNeg) ).bind (fun r34 => lB_take_7 F  x_eR n (v2 + 1) (va_up x_bR x_bn.toNatClampNeg r34) (x_bn + (1 : Int32))))))
set_option maxHeartbeats 8000000 in
set_option maxRecDepth 100000 in
theorem lB_take_7_ok {g : Gm} {κ : ctx} (G : OK g κ RB cB_take 3 none rm_B_take) (τ : MS) (F : Nat) {x_added : Nat → Nat → Int64} {x_asked : Nat → Int64} {x_eR : Nat → Nat → Int64} {x_et : Nat → Int64} {x_oR : Nat → Nat → Int64} {x_ot : Nat → Int64} {x_bD : Nat → Nat → Int64} {x_bQ : Nat → Int64} {x_bW : Nat → Int64} {x_bS : Nat → Nat → Int64} {x_bM : Nat → Nat → Int64} {x_bT : Nat → Int64} {x_tg : Nat → Int64} {x_tb : Int64} {x_ts : Nat → Int32} {x_fg : Nat → Int64} {x_fb : Int64} {x_fV : Nat → Nat → Int64} {x_fS : Nat → Int64} {x_fn : Int32} {x_cg : Nat → Int64} {x_cb : Int64} {x_cB : Nat → Int64} {x_cq : Int64} {x_vHeld : Int32} {x_vRed : Int32} {x_vTal : Int32} {x_vLis : Int32} : ∀ (n : Nat) (v2 : Int32) (x_bR : Nat → Nat → Int64) (x_bn : Int32) (out : (Nat → Nat → Int64) × Int32), lB_take_7 F  x_eR  n v2 x_bR x_bn = some out → (J g κ 3 53 [(0, .ref (κ.1 38))] [] (LM κ τ (LC κ (x_added, x_asked, x_eR, x_et, x_oR, x_ot, out.1, x_bD, x_bQ, x_bW, x_bS, x_bM, x_bT, out.2, x_tg, x_tb, x_ts, x_fg, x_fb, x_fV, x_fS, x_fn, x_cg, x_cb, x_cB, x_cq, x_vHeld, x_vRed, x_vTal, x_vLis)))) → J g κ 3 7 [(0, .ref (κ.1 38)), (1, .ref (κ.1 24)), (2, .int v2)] [] (LM κ τ (LC κ (x_added, x_asked, x_eR, x_et, x_oR, x_ot, x_bR, x_bD, x_bQ, x_bW, x_bS, x_bM, x_bT, x_bn, x_tg, x_tb, x_ts, x_fg, x_fb, x_fV, x_fS, x_fn, x_cg, x_cb, x_cB, x_cq, x_vHeld, x_vRed, x_vTal, x_vLis))) := by
  intro n
  induction n with
  | zero =>
    intro v2 x_bR x_bn
    intro out h
    rw [lB_take_7] at h
    cases h
  | succ n ih =>
    intro v2 x_bR x_bn out h K
    rw [lB_take_7] at h
    refine w_iload_n (pc := 7) (q := 2) G dB_take_7 rfl rfl ?_
    refine w_iconst (pc := 8) (v := (4 : Int32)) G dB_take_8 (by decide) ?_
    refine w_icmp_ge (pc := 9) (tgt := 53) G dB_take_9 (by decide) (fun c9 => ?_) (fun c9 => ?_)
    · have h := if_t c9 h
      obtain rfl := Option.some.inj h
      refine w_sub (lv' := [(0, .ref (κ.1 38))]) [0] rfl ?_
      exact K
    · have h := if_f c9 h
      refine w_aload_n (pc := 12) (q := 1) G dB_take_12 rfl rfl ?_
      refine w_iload_n (pc := 13) (q := 2) G dB_take_13 rfl rfl ?_
      obtain ⟨r14, e14, h⟩ := bd h
      refine w_callV (pc := 14) (av := [.int v2]) (rest := []) (v := some (.int r14)) (L' := (LM κ τ (LC κ (x_added, x_asked, x_eR, x_et, x_oR, x_ot, x_bR, x_bD, x_bQ, x_bW, x_bS, x_bM, x_bT, x_bn, x_tg, x_tb, x_ts, x_fg, x_fb, x_fV, x_fS, x_fn, x_cg, x_cb, x_cB, x_cq, x_vHeld, x_vRed, x_vTal, x_vLis)))) (T := TE) (fs := fl_E κ (x_added, x_asked, x_eR, x_et, x_oR, x_ot, x_bR, x_bD, x_bQ, x_bW, x_bS, x_bM, x_bT, x_bn, x_tg, x_tb, x_ts, x_fg, x_fb, x_fV, x_fS, x_fn, x_cg, x_cb, x_cB, x_cq, x_vHeld, x_vRed, x_vTal, x_vLis)) G 24 2 2 (by decide) lb_E rfl cb_E_isHeld_B_take wd193 wd194 wd242 (met_E_isHeld κ τ F v2  e14) rfl rfl rfl (Nat.le_of_ble_eq_true rfl) dB_take_14 ?_
      refine w_if_eq (pc := 17) (tgt := 47) G dB_take_17 (by decide) (fun c17 => ?_) (fun c17 => ?_)
      · have h := if_t c17 h
        refine w_iinc (pc := 47) (q0 := 2) (v := (v2 + 1)) (lv' := [(2, .int (v2 + 1)), (0, .ref (κ.1 38)), (1, .ref (κ.1 24))]) G dB_take_47 rfl rfl (by decide) rfl ?_
        refine w_goto (pc := 50) (tgt := 7) G dB_take_50 (by decide) ?_
        refine w_sub (lv' := [(0, .ref (κ.1 38)), (1, .ref (κ.1 24)), (2, .int (v2 + 1))]) [1, 2, 0] rfl ?_
        exact ih (v2 + 1) x_bR x_bn out h K
      · have h := if_f c17 h
        refine w_aload_n (pc := 20) (q := 1) G dB_take_20 rfl rfl ?_
        refine w_iload_n (pc := 21) (q := 2) G dB_take_21 rfl rfl ?_
        obtain ⟨r22, e22, h⟩ := bd h
        refine w_callV (pc := 22) (av := [.int v2]) (rest := []) (v := some (.ref (κ.1 (26 + v2.toNatClampNeg)))) (L' := (LM κ τ (LC κ (x_added, x_asked, x_eR, x_et, x_oR, x_ot, x_bR, x_bD, x_bQ, x_bW, x_bS, x_bM, x_bT, x_bn, x_tg, x_tb, x_ts, x_fg, x_fb, x_fV, x_fS, x_fn, x_cg, x_cb, x_cB, x_cq, x_vHeld, x_vRed, x_vTal, x_vLis)))) (T := TE) (fs := fl_E κ (x_added, x_asked, x_eR, x_et, x_oR, x_ot, x_bR, x_bD, x_bQ, x_bW, x_bS, x_bM, x_bT, x_bn, x_tg, x_tb, x_ts, x_fg, x_fb, x_fV, x_fS, x_fn, x_cg, x_cb, x_cB, x_cq, x_vHeld, x_vRed, x_vTal, x_vLis)) G 24 2 2 (by decide) lb_E rfl cb_E_row_B_take wd244 wd245 wd243 (met_E_row κ τ F v2  e22) rfl rfl rfl (Nat.le_of_ble_eq_true rfl) dB_take_22 ?_
        refine w_aload_n (pc := 25) (q := 0) G dB_take_25 rfl rfl ?_
        refine w_get (pc := 26) (v := .ref (κ.1 39)) (fs := fl_B κ (x_added, x_asked, x_eR, x_et, x_oR, x_ot, x_bR, x_bD, x_bQ, x_bW, x_bS, x_bM, x_bT, x_bn, x_tg, x_tb, x_ts, x_fg, x_fb, x_fV, x_fS, x_fn, x_cg, x_cb, x_cB, x_cq, x_vHeld, x_vRed, x_vTal, x_vLis)) G 38 (by decide) lb_B rfl wsB_ok 0 (by decide) wd44 gf_B_0 dB_take_26 ?_
        refine w_aload_n (pc := 29) (q := 0) G dB_take_29 rfl rfl ?_
        refine w_get (pc := 30) (v := .int x_bn) (fs := fl_B κ (x_added, x_asked, x_eR, x_et, x_oR, x_ot, x_bR, x_bD, x_bQ, x_bW, x_bS, x_bM, x_bT, x_bn, x_tg, x_tb, x_ts, x_fg, x_fb, x_fV, x_fS, x_fn, x_cg, x_cb, x_cB, x_cq, x_vHeld, x_vRed, x_vTal, x_vLis)) G 38 (by decide) lb_B rfl wsB_ok 7 (by decide) wd51 gf_B_7 dB_take_30 ?_
        obtain ⟨i33, h⟩ := gd_some h
        refine w_aald (pc := 33) (n := 4) (f := og κ 40 4) (b := κ.1 (40 + x_bn.toNatClampNeg)) G 39 (by decide) lo_bR i33 (og_at (ixlt i33)) dB_take_33 ?_
        obtain ⟨r34, e34, h⟩ := bd h
        refine w_callSN (pc := 34) (av := [.ref (κ.1 (26 + v2.toNatClampNeg)), .ref (κ.1 (40 + x_bn.toNatClampNeg))]) (rest := []) (v := none) (L' := (LM κ τ (LC κ (x_added, x_asked, x_eR, x_et, x_oR, x_ot, va_up x_bR x_bn.toNatClampNeg r34, x_bD, x_bQ, x_bW, x_bS, x_bM, x_bT, x_bn, x_tg, x_tb, x_ts, x_fg, x_fb, x_fV, x_fS, x_fn, x_cg, x_cb, x_cB, x_cq, x_vHeld, x_vRed, x_vTal, x_vLis)))) G cb_V_copy_B_take wd169 wd247 (Mt.eqw (up_bR (ixlt i33)) (met_V_copy κ (LM κ τ (LC κ (x_added, x_asked, x_eR, x_et, x_oR, x_ot, x_bR, x_bD, x_bQ, x_bW, x_bS, x_bM, x_bT, x_bn, x_tg, x_tb, x_ts, x_fg, x_fb, x_fV, x_fS, x_fn, x_cg, x_cb, x_cB, x_cq, x_vHeld, x_vRed, x_vTal, x_vLis))) F  (26 + v2.toNatClampNeg) (nw_eR (ixlt (gd_some (show gd (vp_in _ 4) _ = some _ from e22)).1)) (x_eR v2.toNatClampNeg) (lk_eR (ixlt (gd_some (show gd (vp_in _ 4) _ = some _ from e22)).1)) (40 + x_bn.toNatClampNeg) (nw_bR (ixlt i33)) (x_bR x_bn.toNatClampNeg) (lk_bR (ixlt i33)) (by have := (ixlt (gd_some (show gd (vp_in _ 4) _ = some _ from e22)).1); have := (ixlt i33); omega) e34)) rfl rfl rfl (Nat.le_of_ble_eq_true rfl) dB_take_34 ?_
        refine w_aload_n (pc := 37) (q := 0) G dB_take_37 rfl rfl ?_
        refine w_dup (pc := 38) G dB_take_38 rfl ?_
        refine w_get (pc := 39) (v := .int x_bn) (fs := fl_B κ (x_added, x_asked, x_eR, x_et, x_oR, x_ot, va_up x_bR x_bn.toNatClampNeg r34, x_bD, x_bQ, x_bW, x_bS, x_bM, x_bT, x_bn, x_tg, x_tb, x_ts, x_fg, x_fb, x_fV, x_fS, x_fn, x_cg, x_cb, x_cB, x_cq, x_vHeld, x_vRed, x_vTal, x_vLis)) G 38 (by decide) lb_B rfl wsB_ok 7 (by decide) wd51 gf_B_7 dB_take_39 ?_
        refine w_iconst (pc := 42) (v := (1 : Int32)) G dB_take_42 (by decide) ?_
        refine w_iadd (pc := 43) G dB_take_43 ?_
        refine w_put (pc := 44) (fs := fl_B κ (x_added, x_asked, x_eR, x_et, x_oR, x_ot, va_up x_bR x_bn.toNatClampNeg r34, x_bD, x_bQ, x_bW, x_bS, x_bM, x_bT, x_bn, x_tg, x_tb, x_ts, x_fg, x_fb, x_fV, x_fS, x_fn, x_cg, x_cb, x_cB, x_cq, x_vHeld, x_vRed, x_vTal, x_vLis)) (L1 := (LM κ τ (LC κ (x_added, x_asked, x_eR, x_et, x_oR, x_ot, va_up x_bR x_bn.toNatClampNeg r34, x_bD, x_bQ, x_bW, x_bS, x_bM, x_bT, (x_bn + (1 : Int32)), x_tg, x_tb, x_ts, x_fg, x_fb, x_fV, x_fS, x_fn, x_cg, x_cb, x_cB, x_cq, x_vHeld, x_vRed, x_vTal, x_vLis)))) G 38 (by decide) lb_B rfl wsB_ok tyB tyB_ok nmB 7 (by decide) wd51 rfl rfl rfl (Nat.le_of_ble_eq_true rfl) dB_take_44 upf_bn ?_
        refine w_iinc (pc := 47) (q0 := 2) (v := (v2 + 1)) (lv' := [(2, .int (v2 + 1)), (0, .ref (κ.1 38)), (1, .ref (κ.1 24))]) G dB_take_47 rfl rfl (by decide) rfl ?_
        refine w_goto (pc := 50) (tgt := 7) G dB_take_50 (by decide) ?_
        refine w_sub (lv' := [(0, .ref (κ.1 38)), (1, .ref (κ.1 24)), (2, .int (v2 + 1))]) [1, 2, 0] rfl ?_
        exact ih (v2 + 1) (va_up x_bR x_bn.toNatClampNeg r34) (x_bn + (1 : Int32)) out h K
noncomputable def lB_take_63 (F : Nat) (x_bR : Nat → Nat → Int64) (x_bn : Int32) : Nat → Int32 → (Nat → Nat → Int64) → (Nat → Int64) → (Nat → Int64) → Option ((Nat → Nat → Int64) × (Nat → Int64) × (Nat → Int64))
  | 0, _, _, _, _ => none
  | n + 1, v2, x_bD, x_bQ, x_bW => if x_bn ≤ v2 then some (x_bD, x_bQ, x_bW) else (B_direct F x_bR x_bD x_bQ x_bW v2).bind (fun r73 => lB_take_63 F  x_bR x_bn n (v2 + 1) r73.1 r73.2.1 r73.2.2)
set_option maxHeartbeats 8000000 in
set_option maxRecDepth 100000 in
theorem lB_take_63_ok {g : Gm} {κ : ctx} (G : OK g κ RB cB_take 3 none rm_B_take) (τ : MS) (F : Nat) {x_added : Nat → Nat → Int64} {x_asked : Nat → Int64} {x_eR : Nat → Nat → Int64} {x_et : Nat → Int64} {x_oR : Nat → Nat → Int64} {x_ot : Nat → Int64} {x_bR : Nat → Nat → Int64} {x_bS : Nat → Nat → Int64} {x_bM : Nat → Nat → Int64} {x_bT : Nat → Int64} {x_bn : Int32} {x_tg : Nat → Int64} {x_tb : Int64} {x_ts : Nat → Int32} {x_fg : Nat → Int64} {x_fb : Int64} {x_fV : Nat → Nat → Int64} {x_fS : Nat → Int64} {x_fn : Int32} {x_cg : Nat → Int64} {x_cb : Int64} {x_cB : Nat → Int64} {x_cq : Int64} {x_vHeld : Int32} {x_vRed : Int32} {x_vTal : Int32} {x_vLis : Int32} : ∀ (n : Nat) (v2 : Int32) (x_bD : Nat → Nat → Int64) (x_bQ : Nat → Int64) (x_bW : Nat → Int64) (out : (Nat → Nat → Int64) × (Nat → Int64) × (Nat → Int64)), lB_take_63 F  x_bR x_bn  n v2 x_bD x_bQ x_bW = some out → (J g κ 3 82 [] [] (LM κ τ (LC κ (x_added, x_asked, x_eR, x_et, x_oR, x_ot, x_bR, out.1, out.2.1, out.2.2, x_bS, x_bM, x_bT, x_bn, x_tg, x_tb, x_ts, x_fg, x_fb, x_fV, x_fS, x_fn, x_cg, x_cb, x_cB, x_cq, x_vHeld, x_vRed, x_vTal, x_vLis)))) → J g κ 3 63 [(0, .ref (κ.1 38)), (2, .int v2)] [] (LM κ τ (LC κ (x_added, x_asked, x_eR, x_et, x_oR, x_ot, x_bR, x_bD, x_bQ, x_bW, x_bS, x_bM, x_bT, x_bn, x_tg, x_tb, x_ts, x_fg, x_fb, x_fV, x_fS, x_fn, x_cg, x_cb, x_cB, x_cq, x_vHeld, x_vRed, x_vTal, x_vLis))) := by
  intro n
  induction n with
  | zero =>
    intro v2 x_bD x_bQ x_bW
    intro out h
    rw [lB_take_63] at h
    cases h
  | succ n ih =>
    intro v2 x_bD x_bQ x_bW out h K
    rw [lB_take_63] at h
    refine w_iload_n (pc := 63) (q := 1) G dB_take_63 rfl rfl ?_
    refine w_aload_n (pc := 64) (q := 0) G dB_take_64 rfl rfl ?_
    refine w_get (pc := 65) (v := .int x_bn) (fs := fl_B κ (x_added, x_asked, x_eR, x_et, x_oR, x_ot, x_bR, x_bD, x_bQ, x_bW, x_bS, x_bM, x_bT, x_bn, x_tg, x_tb, x_ts, x_fg, x_fb, x_fV, x_fS, x_fn, x_cg, x_cb, x_cB, x_cq, x_vHeld, x_vRed, x_vTal, x_vLis)) G 38 (by decide) lb_B rfl wsB_ok 7 (by decide) wd51 gf_B_7 dB_take_65 ?_
    refine w_icmp_ge (pc := 68) (tgt := 82) G dB_take_68 (by decide) (fun c68 => ?_) (fun c68 => ?_)
    · have h := if_t c68 h
      obtain rfl := Option.some.inj h
      refine w_sub (lv' := []) [] rfl ?_
      exact K
    · have h := if_f c68 h
      refine w_aload_n (pc := 71) (q := 0) G dB_take_71 rfl rfl ?_
      refine w_iload_n (pc := 72) (q := 1) G dB_take_72 rfl rfl ?_
      obtain ⟨r73, e73, h⟩ := bd h
      refine w_callV (pc := 73) (av := [.int v2]) (rest := []) (v := none) (L' := (LM κ τ (LC κ (x_added, x_asked, x_eR, x_et, x_oR, x_ot, x_bR, r73.1, r73.2.1, r73.2.2, x_bS, x_bM, x_bT, x_bn, x_tg, x_tb, x_ts, x_fg, x_fb, x_fV, x_fS, x_fn, x_cg, x_cb, x_cB, x_cq, x_vHeld, x_vRed, x_vTal, x_vLis)))) (T := TB) (fs := fl_B κ (x_added, x_asked, x_eR, x_et, x_oR, x_ot, x_bR, x_bD, x_bQ, x_bW, x_bS, x_bM, x_bT, x_bn, x_tg, x_tb, x_ts, x_fg, x_fb, x_fV, x_fS, x_fn, x_cg, x_cb, x_cB, x_cq, x_vHeld, x_vRed, x_vTal, x_vLis)) G 38 3 8 (by decide) lb_B rfl cb_B_direct_B_take wd292 ws12 wd290 (met_B_direct κ τ F v2  e73) rfl rfl rfl (Nat.le_of_ble_eq_true rfl) dB_take_73 ?_
      refine w_iinc (pc := 76) (q0 := 1) (v := (v2 + 1)) (lv' := [(2, .int (v2 + 1)), (0, .ref (κ.1 38))]) G dB_take_76 rfl rfl (by decide) rfl ?_
      refine w_goto (pc := 79) (tgt := 63) G dB_take_79 (by decide) ?_
      refine w_sub (lv' := [(0, .ref (κ.1 38)), (2, .int (v2 + 1))]) [1, 0] rfl ?_
      exact ih (v2 + 1) r73.1 r73.2.1 r73.2.2 out h K
noncomputable def B_take (F : Nat)  (x_eR : Nat → Nat → Int64) (x_bR : Nat → Nat → Int64) (x_bD : Nat → Nat → Int64) (x_bQ : Nat → Int64) (x_bW : Nat → Int64) (x_bT : Nat → Int64) (x_bn : Int32)  : Option ((Nat → Nat → Int64) × (Nat → Nat → Int64) × (Nat → Int64) × (Nat → Int64) × (Nat → Int64) × Int32) := (lB_take_7 F  x_eR F (0 : Int32) x_bR (0 : Int32)).bind (fun o7_11 => (B_reduce F o7_11.1 x_bT o7_11.2 ).bind (fun r54 => (B_sort F r54.1 r54.2 o7_11.2 ).bind (fun r58 => (lB_take_63 F  r58.1 o7_11.2 F (0 : Int32) x_bD x_bQ x_bW).bind (fun o63_17 => some (r58.1, o63_17.1, o63_17.2.1, o63_17.2.2, r58.2, o7_11.2)))))
set_option maxHeartbeats 8000000 in
set_option maxRecDepth 100000 in
theorem met_B_take (κ : ctx) (τ : MS) (F : Nat) {x_added : Nat → Nat → Int64} {x_asked : Nat → Int64} {x_eR : Nat → Nat → Int64} {x_et : Nat → Int64} {x_oR : Nat → Nat → Int64} {x_ot : Nat → Int64} {x_bR : Nat → Nat → Int64} {x_bD : Nat → Nat → Int64} {x_bQ : Nat → Int64} {x_bW : Nat → Int64} {x_bS : Nat → Nat → Int64} {x_bM : Nat → Nat → Int64} {x_bT : Nat → Int64} {x_bn : Int32} {x_tg : Nat → Int64} {x_tb : Int64} {x_ts : Nat → Int32} {x_fg : Nat → Int64} {x_fb : Int64} {x_fV : Nat → Nat → Int64} {x_fS : Nat → Int64} {x_fn : Int32} {x_cg : Nat → Int64} {x_cb : Int64} {x_cB : Nat → Int64} {x_cq : Int64} {x_vHeld : Int32} {x_vRed : Int32} {x_vTal : Int32} {x_vLis : Int32}  {out : (Nat → Nat → Int64) × (Nat → Nat → Int64) × (Nat → Int64) × (Nat → Int64) × (Nat → Int64) × Int32} (h : B_take F  x_eR x_bR x_bD x_bQ x_bW x_bT x_bn  = some out) : Mt yB_take cB_take 3 none rm_B_take κ [.ref (κ.1 38), .ref (κ.1 24)] (LM κ τ (LC κ (x_added, x_asked, x_eR, x_et, x_oR, x_ot, x_bR, x_bD, x_bQ, x_bW, x_bS, x_bM, x_bT, x_bn, x_tg, x_tb, x_ts, x_fg, x_fb, x_fV, x_fS, x_fn, x_cg, x_cb, x_cB, x_cq, x_vHeld, x_vRed, x_vTal, x_vLis))) none (LM κ τ (LC κ (x_added, x_asked, x_eR, x_et, x_oR, x_ot, out.1, out.2.1, out.2.2.1, out.2.2.2.1, x_bS, x_bM, out.2.2.2.2.1, out.2.2.2.2.2, x_tg, x_tb, x_ts, x_fg, x_fb, x_fV, x_fS, x_fn, x_cg, x_cb, x_cB, x_cq, x_vHeld, x_vRed, x_vTal, x_vLis))) := by
  refine Mt.of (by decide) (Nat.le_of_ble_eq_true rfl) ?_
  intro g G Fh
  unfold B_take at h
  show J g κ 3 0 [(0, .ref (κ.1 38)), (1, .ref (κ.1 24))] [] (LM κ τ (LC κ (x_added, x_asked, x_eR, x_et, x_oR, x_ot, x_bR, x_bD, x_bQ, x_bW, x_bS, x_bM, x_bT, x_bn, x_tg, x_tb, x_ts, x_fg, x_fb, x_fV, x_fS, x_fn, x_cg, x_cb, x_cB, x_cq, x_vHeld, x_vRed, x_vTal, x_vLis)))
  refine w_aload_n (pc := 0) (q := 0) G dB_take_0 rfl rfl ?_
  refine w_iconst (pc := 1) (v := (0 : Int32)) G dB_take_1 (by decide) ?_
  refine w_put (pc := 2) (fs := fl_B κ (x_added, x_asked, x_eR, x_et, x_oR, x_ot, x_bR, x_bD, x_bQ, x_bW, x_bS, x_bM, x_bT, x_bn, x_tg, x_tb, x_ts, x_fg, x_fb, x_fV, x_fS, x_fn, x_cg, x_cb, x_cB, x_cq, x_vHeld, x_vRed, x_vTal, x_vLis)) (L1 := (LM κ τ (LC κ (x_added, x_asked, x_eR, x_et, x_oR, x_ot, x_bR, x_bD, x_bQ, x_bW, x_bS, x_bM, x_bT, (0 : Int32), x_tg, x_tb, x_ts, x_fg, x_fb, x_fV, x_fS, x_fn, x_cg, x_cb, x_cB, x_cq, x_vHeld, x_vRed, x_vTal, x_vLis)))) G 38 (by decide) lb_B rfl wsB_ok tyB tyB_ok nmB 7 (by decide) wd51 rfl rfl rfl (Nat.le_of_ble_eq_true rfl) dB_take_2 upf_bn ?_
  refine w_iconst (pc := 5) (v := (0 : Int32)) G dB_take_5 (by decide) ?_
  refine w_istore_n (pc := 6) (lv' := [(2, .int (0 : Int32)), (0, .ref (κ.1 38)), (1, .ref (κ.1 24))]) G dB_take_6 rfl (by decide) rfl ?_
  refine w_sub (lv' := [(0, .ref (κ.1 38)), (1, .ref (κ.1 24)), (2, .int (0 : Int32))]) [1, 2, 0] rfl ?_
  obtain ⟨o7_11, eo7_11, h⟩ := bd h
  refine lB_take_7_ok G τ F  F (0 : Int32) x_bR (0 : Int32) o7_11 eo7_11 ?_
  refine w_aload_n (pc := 53) (q := 0) G dB_take_53 rfl rfl ?_
  obtain ⟨r54, e54, h⟩ := bd h
  refine w_callV (pc := 54) (av := []) (rest := []) (v := none) (L' := (LM κ τ (LC κ (x_added, x_asked, x_eR, x_et, x_oR, x_ot, r54.1, x_bD, x_bQ, x_bW, x_bS, x_bM, r54.2, o7_11.2, x_tg, x_tb, x_ts, x_fg, x_fb, x_fV, x_fS, x_fn, x_cg, x_cb, x_cB, x_cq, x_vHeld, x_vRed, x_vTal, x_vLis)))) (T := TB) (fs := fl_B κ (x_added, x_asked, x_eR, x_et, x_oR, x_ot, o7_11.1, x_bD, x_bQ, x_bW, x_bS, x_bM, x_bT, o7_11.2, x_tg, x_tb, x_ts, x_fg, x_fb, x_fV, x_fS, x_fn, x_cg, x_cb, x_cB, x_cq, x_vHeld, x_vRed, x_vTal, x_vLis)) G 38 3 8 (by decide) lb_B rfl cb_B_reduce_B_take wd250 ws6 wd248 (met_B_reduce κ τ F   e54) rfl rfl rfl (Nat.le_of_ble_eq_true rfl) dB_take_54 ?_
  refine w_aload_n (pc := 57) (q := 0) G dB_take_57 rfl rfl ?_
  obtain ⟨r58, e58, h⟩ := bd h
  refine w_callV (pc := 58) (av := []) (rest := []) (v := none) (L' := (LM κ τ (LC κ (x_added, x_asked, x_eR, x_et, x_oR, x_ot, r58.1, x_bD, x_bQ, x_bW, x_bS, x_bM, r58.2, o7_11.2, x_tg, x_tb, x_ts, x_fg, x_fb, x_fV, x_fS, x_fn, x_cg, x_cb, x_cB, x_cq, x_vHeld, x_vRed, x_vTal, x_vLis)))) (T := TB) (fs := fl_B κ (x_added, x_asked, x_eR, x_et, x_oR, x_ot, r54.1, x_bD, x_bQ, x_bW, x_bS, x_bM, r54.2, o7_11.2, x_tg, x_tb, x_ts, x_fg, x_fb, x_fV, x_fS, x_fn, x_cg, x_cb, x_cB, x_cq, x_vHeld, x_vRed, x_vTal, x_vLis)) G 38 3 8 (by decide) lb_B rfl cb_B_sort_B_take wd284 ws11 wd282 (met_B_sort κ τ F   e58) rfl rfl rfl (Nat.le_of_ble_eq_true rfl) dB_take_58 ?_
  refine w_iconst (pc := 61) (v := (0 : Int32)) G dB_take_61 (by decide) ?_
  refine w_istore_n (pc := 62) (lv' := [(2, .int (0 : Int32)), (0, .ref (κ.1 38))]) G dB_take_62 rfl (by decide) rfl ?_
  refine w_sub (lv' := [(0, .ref (κ.1 38)), (2, .int (0 : Int32))]) [1, 0] rfl ?_
  obtain ⟨o63_17, eo63_17, h⟩ := bd h
  refine lB_take_63_ok G τ F  F (0 : Int32) x_bD x_bQ x_bW o63_17 eo63_17 ?_
  obtain rfl := Option.some.inj h
  exact w_vret (pc := 82) G dB_take_82 Fh
def rm_B_eliminate : Room := { frames := 0, cells := 0, slots := 0, locals := 0 }
theorem dB_eliminate_0 : decode cB_eliminate 0 = .ok (.lload_n 2, 1) := by decide +kernel
theorem dB_eliminate_1 : decode cB_eliminate 1 = .ok (.lconst 0, 1) := by decide +kernel
theorem dB_eliminate_2 : decode cB_eliminate 2 = .ok (.lcmp, 1) := by decide +kernel
theorem dB_eliminate_3 : decode cB_eliminate 3 = .ok (.ifCond .ne 4, 3) := by decide +kernel
theorem dB_eliminate_6 : decode cB_eliminate 6 = .ok (.return_, 1) := by decide +kernel
theorem dB_eliminate_7 : decode cB_eliminate 7 = .ok (.iload_n 1, 1) := by decide +kernel
theorem dB_eliminate_8 : decode cB_eliminate 8 = .ok (.iconst 1, 1) := by decide +kernel
theorem dB_eliminate_9 : decode cB_eliminate 9 = .ok (.iadd, 1) := by decide +kernel
theorem dB_eliminate_10 : decode cB_eliminate 10 = .ok (.istore 4, 2) := by decide +kernel
theorem dB_eliminate_12 : decode cB_eliminate 12 = .ok (.iload 4, 2) := by decide +kernel
theorem dB_eliminate_14 : decode cB_eliminate 14 = .ok (.aload_n 0, 1) := by decide +kernel
theorem dB_eliminate_15 : decode cB_eliminate 15 = .ok (.getfield 35, 3) := by decide +kernel
theorem dB_eliminate_18 : decode cB_eliminate 18 = .ok (.if_icmp .ge 84, 3) := by decide +kernel
theorem dB_eliminate_21 : decode cB_eliminate 21 = .ok (.iload_n 1, 1) := by decide +kernel
theorem dB_eliminate_22 : decode cB_eliminate 22 = .ok (.iconst 1, 1) := by decide +kernel
theorem dB_eliminate_23 : decode cB_eliminate 23 = .ok (.iadd, 1) := by decide +kernel
theorem dB_eliminate_24 : decode cB_eliminate 24 = .ok (.istore 5, 2) := by decide +kernel
theorem dB_eliminate_26 : decode cB_eliminate 26 = .ok (.iload 5, 2) := by decide +kernel
theorem dB_eliminate_28 : decode cB_eliminate 28 = .ok (.aload_n 0, 1) := by decide +kernel
theorem dB_eliminate_29 : decode cB_eliminate 29 = .ok (.getfield 35, 3) := by decide +kernel
theorem dB_eliminate_32 : decode cB_eliminate 32 = .ok (.if_icmp .ge 64, 3) := by decide +kernel
theorem dB_eliminate_35 : decode cB_eliminate 35 = .ok (.aload_n 0, 1) := by decide +kernel
theorem dB_eliminate_36 : decode cB_eliminate 36 = .ok (.getfield 29, 3) := by decide +kernel
theorem dB_eliminate_39 : decode cB_eliminate 39 = .ok (.iload 4, 2) := by decide +kernel
theorem dB_eliminate_41 : decode cB_eliminate 41 = .ok (.aaload, 1) := by decide +kernel
theorem dB_eliminate_42 : decode cB_eliminate 42 = .ok (.iload_n 1, 1) := by decide +kernel
theorem dB_eliminate_43 : decode cB_eliminate 43 = .ok (.laload, 1) := by decide +kernel
theorem dB_eliminate_44 : decode cB_eliminate 44 = .ok (.aload_n 0, 1) := by decide +kernel
theorem dB_eliminate_45 : decode cB_eliminate 45 = .ok (.getfield 29, 3) := by decide +kernel
theorem dB_eliminate_48 : decode cB_eliminate 48 = .ok (.iload_n 1, 1) := by decide +kernel
theorem dB_eliminate_49 : decode cB_eliminate 49 = .ok (.aaload, 1) := by decide +kernel
theorem dB_eliminate_50 : decode cB_eliminate 50 = .ok (.iload 5, 2) := by decide +kernel
theorem dB_eliminate_52 : decode cB_eliminate 52 = .ok (.laload, 1) := by decide +kernel
theorem dB_eliminate_53 : decode cB_eliminate 53 = .ok (.lmul, 1) := by decide +kernel
theorem dB_eliminate_54 : decode cB_eliminate 54 = .ok (.lstore 6, 2) := by decide +kernel
theorem dB_eliminate_56 : decode cB_eliminate 56 = .ok (.aload_n 0, 1) := by decide +kernel
theorem dB_eliminate_57 : decode cB_eliminate 57 = .ok (.getfield 29, 3) := by decide +kernel
theorem dB_eliminate_60 : decode cB_eliminate 60 = .ok (.iload 4, 2) := by decide +kernel
theorem dB_eliminate_62 : decode cB_eliminate 62 = .ok (.aaload, 1) := by decide +kernel
theorem dB_eliminate_63 : decode cB_eliminate 63 = .ok (.iload 5, 2) := by decide +kernel
theorem dB_eliminate_65 : decode cB_eliminate 65 = .ok (.aload_n 0, 1) := by decide +kernel
theorem dB_eliminate_66 : decode cB_eliminate 66 = .ok (.getfield 29, 3) := by decide +kernel
theorem dB_eliminate_69 : decode cB_eliminate 69 = .ok (.iload 4, 2) := by decide +kernel
theorem dB_eliminate_71 : decode cB_eliminate 71 = .ok (.aaload, 1) := by decide +kernel
theorem dB_eliminate_72 : decode cB_eliminate 72 = .ok (.iload 5, 2) := by decide +kernel
theorem dB_eliminate_74 : decode cB_eliminate 74 = .ok (.laload, 1) := by decide +kernel
theorem dB_eliminate_75 : decode cB_eliminate 75 = .ok (.aload_n 0, 1) := by decide +kernel
theorem dB_eliminate_76 : decode cB_eliminate 76 = .ok (.getfield 29, 3) := by decide +kernel
theorem dB_eliminate_79 : decode cB_eliminate 79 = .ok (.iload_n 1, 1) := by decide +kernel
theorem dB_eliminate_80 : decode cB_eliminate 80 = .ok (.aaload, 1) := by decide +kernel
theorem dB_eliminate_81 : decode cB_eliminate 81 = .ok (.iload_n 1, 1) := by decide +kernel
theorem dB_eliminate_82 : decode cB_eliminate 82 = .ok (.laload, 1) := by decide +kernel
theorem dB_eliminate_83 : decode cB_eliminate 83 = .ok (.lmul, 1) := by decide +kernel
theorem dB_eliminate_84 : decode cB_eliminate 84 = .ok (.lload 6, 2) := by decide +kernel
theorem dB_eliminate_86 : decode cB_eliminate 86 = .ok (.lsub, 1) := by decide +kernel
theorem dB_eliminate_87 : decode cB_eliminate 87 = .ok (.lload_n 2, 1) := by decide +kernel
theorem dB_eliminate_88 : decode cB_eliminate 88 = .ok (.ldiv, 1) := by decide +kernel
theorem dB_eliminate_89 : decode cB_eliminate 89 = .ok (.lastore, 1) := by decide +kernel
theorem dB_eliminate_90 : decode cB_eliminate 90 = .ok (.iinc 5 1, 3) := by decide +kernel
theorem dB_eliminate_93 : decode cB_eliminate 93 = .ok (.goto (-67), 3) := by decide +kernel
theorem dB_eliminate_96 : decode cB_eliminate 96 = .ok (.iinc 4 1, 3) := by decide +kernel
theorem dB_eliminate_99 : decode cB_eliminate 99 = .ok (.goto (-87), 3) := by decide +kernel
theorem dB_eliminate_102 : decode cB_eliminate 102 = .ok (.return_, 1) := by decide +kernel
noncomputable def lB_eliminate_26 (F : Nat) (x_bn : Int32) (v1 : Int32) (v2 : Int64) (v4 : Int32) : Nat → Int32 → (Nat → Nat → Int64) → Option ((Nat → Nat → Int64))
  | 0, _, _ => none
  | n + 1, v5, x_bM => if x_bn ≤ v5 then some (x_bM) else gd (vp_in v4 4) (gd (vp_in v1 4) (gd (vp_in v1 4) (gd (vp_in v5 4) (gd (vp_in v4 4) (gd (vp_in v4 4) (gd (vp_in v5 4) (gd (vp_in v1 4) (gd (vp_in v1 4) (gd (¬ v2 = 0) (gd (vp_in v5 4) (lB_eliminate_26 F  x_bn v1 v2 v4 n (v5 + 1) (va_up x_bM v4.toNatClampNeg (vp_updL (x_bM v4.toNatClampNeg) v5.toNatClampNeg (((((x_bM v4.toNatClampNeg) v5.toNatClampNeg) * ((x_bM v1.toNatClampNeg) v1.toNatClampNeg)) - (((x_bM v4.toNatClampNeg) v1.toNatClampNeg) * ((x_bM v1.toNatClampNeg) v5.toNatClampNeg))) / v2))))))))))))))
set_option maxHeartbeats 8000000 in
set_option maxRecDepth 100000 in
theorem lB_eliminate_26_ok {g : Gm} {κ : ctx} (G : OK g κ RB cB_eliminate 8 none rm_B_eliminate) (τ : MS) (F : Nat) {x_added : Nat → Nat → Int64} {x_asked : Nat → Int64} {x_eR : Nat → Nat → Int64} {x_et : Nat → Int64} {x_oR : Nat → Nat → Int64} {x_ot : Nat → Int64} {x_bR : Nat → Nat → Int64} {x_bD : Nat → Nat → Int64} {x_bQ : Nat → Int64} {x_bW : Nat → Int64} {x_bS : Nat → Nat → Int64} {x_bT : Nat → Int64} {x_bn : Int32} {x_tg : Nat → Int64} {x_tb : Int64} {x_ts : Nat → Int32} {x_fg : Nat → Int64} {x_fb : Int64} {x_fV : Nat → Nat → Int64} {x_fS : Nat → Int64} {x_fn : Int32} {x_cg : Nat → Int64} {x_cb : Int64} {x_cB : Nat → Int64} {x_cq : Int64} {x_vHeld : Int32} {x_vRed : Int32} {x_vTal : Int32} {x_vLis : Int32} (v1 : Int32) (v2 : Int64) (v4 : Int32) : ∀ (n : Nat) (v5 : Int32) (x_bM : Nat → Nat → Int64) (out : (Nat → Nat → Int64)), lB_eliminate_26 F  x_bn v1 v2 v4 n v5 x_bM = some out → (J g κ 8 96 [(0, .ref (κ.1 38)), (1, .int v1), (2, .long v2), (4, .int v4)] [] (LM κ τ (LC κ (x_added, x_asked, x_eR, x_et, x_oR, x_ot, x_bR, x_bD, x_bQ, x_bW, x_bS, out, x_bT, x_bn, x_tg, x_tb, x_ts, x_fg, x_fb, x_fV, x_fS, x_fn, x_cg, x_cb, x_cB, x_cq, x_vHeld, x_vRed, x_vTal, x_vLis)))) → J g κ 8 26 [(0, .ref (κ.1 38)), (1, .int v1), (2, .long v2), (4, .int v4), (5, .int v5)] [] (LM κ τ (LC κ (x_added, x_asked, x_eR, x_et, x_oR, x_ot, x_bR, x_bD, x_bQ, x_bW, x_bS, x_bM, x_bT, x_bn, x_tg, x_tb, x_ts, x_fg, x_fb, x_fV, x_fS, x_fn, x_cg, x_cb, x_cB, x_cq, x_vHeld, x_vRed, x_vTal, x_vLis))) := by
  intro n
  induction n with
  | zero =>
    intro v5 x_bM
    intro out h
    rw [lB_eliminate_26] at h
    cases h
  | succ n ih =>
    intro v5 x_bM out h K
    rw [lB_eliminate_26] at h
    refine w_iload (pc := 26) (q := 4) G dB_eliminate_26 rfl ?_
    refine w_aload_n (pc := 28) (q := 0) G dB_eliminate_28 rfl rfl ?_
    refine w_get (pc := 29) (v := .int x_bn) (fs := fl_B κ (x_added, x_asked, x_eR, x_et, x_oR, x_ot, x_bR, x_bD, x_bQ, x_bW, x_bS, x_bM, x_bT, x_bn, x_tg, x_tb, x_ts, x_fg, x_fb, x_fV, x_fS, x_fn, x_cg, x_cb, x_cB, x_cq, x_vHeld, x_vRed, x_vTal, x_vLis)) G 38 (by decide) lb_B rfl wsB_ok 7 (by decide) wd51 gf_B_7 dB_eliminate_29 ?_
    refine w_icmp_ge (pc := 32) (tgt := 96) G dB_eliminate_32 (by decide) (fun c32 => ?_) (fun c32 => ?_)
    · have h := if_t c32 h
      obtain rfl := Option.some.inj h
      refine w_sub (lv' := [(0, .ref (κ.1 38)), (1, .int v1), (2, .long v2), (4, .int v4)]) [0, 1, 2, 3] rfl ?_
      exact K
    · have h := if_f c32 h
      refine w_aload_n (pc := 35) (q := 0) G dB_eliminate_35 rfl rfl ?_
      refine w_get (pc := 36) (v := .ref (κ.1 57)) (fs := fl_B κ (x_added, x_asked, x_eR, x_et, x_oR, x_ot, x_bR, x_bD, x_bQ, x_bW, x_bS, x_bM, x_bT, x_bn, x_tg, x_tb, x_ts, x_fg, x_fb, x_fV, x_fS, x_fn, x_cg, x_cb, x_cB, x_cq, x_vHeld, x_vRed, x_vTal, x_vLis)) G 38 (by decide) lb_B rfl wsB_ok 5 (by decide) wd49 gf_B_5 dB_eliminate_36 ?_
      refine w_iload (pc := 39) (q := 3) G dB_eliminate_39 rfl ?_
      obtain ⟨i41, h⟩ := gd_some h
      refine w_aald (pc := 41) (n := 4) (f := og κ 58 4) (b := κ.1 (58 + v4.toNatClampNeg)) G 57 (by decide) lo_bM i41 (og_at (ixlt i41)) dB_eliminate_41 ?_
      refine w_iload_n (pc := 42) (q := 1) G dB_eliminate_42 rfl rfl ?_
      obtain ⟨i43, h⟩ := gd_some h
      refine w_lald (pc := 43) (n := 4) (f := (x_bM v4.toNatClampNeg)) G (58 + v4.toNatClampNeg) (nw_bM (ixlt i41)) (lk_bM (ixlt i41)) i43 dB_eliminate_43 ?_
      refine w_aload_n (pc := 44) (q := 0) G dB_eliminate_44 rfl rfl ?_
      refine w_get (pc := 45) (v := .ref (κ.1 57)) (fs := fl_B κ (x_added, x_asked, x_eR, x_et, x_oR, x_ot, x_bR, x_bD, x_bQ, x_bW, x_bS, x_bM, x_bT, x_bn, x_tg, x_tb, x_ts, x_fg, x_fb, x_fV, x_fS, x_fn, x_cg, x_cb, x_cB, x_cq, x_vHeld, x_vRed, x_vTal, x_vLis)) G 38 (by decide) lb_B rfl wsB_ok 5 (by decide) wd49 gf_B_5 dB_eliminate_45 ?_
      refine w_iload_n (pc := 48) (q := 1) G dB_eliminate_48 rfl rfl ?_
      obtain ⟨i49, h⟩ := gd_some h
      refine w_aald (pc := 49) (n := 4) (f := og κ 58 4) (b := κ.1 (58 + v1.toNatClampNeg)) G 57 (by decide) lo_bM i49 (og_at (ixlt i49)) dB_eliminate_49 ?_
      refine w_iload (pc := 50) (q := 4) G dB_eliminate_50 rfl ?_
      obtain ⟨i52, h⟩ := gd_some h
      refine w_lald (pc := 52) (n := 4) (f := (x_bM v1.toNatClampNeg)) G (58 + v1.toNatClampNeg) (nw_bM (ixlt i49)) (lk_bM (ixlt i49)) i52 dB_eliminate_52 ?_
      refine w_lmul (pc := 53) G dB_eliminate_53 ?_
      refine w_lstore (pc := 54) (lv' := [(6, .long (((x_bM v4.toNatClampNeg) v1.toNatClampNeg) * ((x_bM v1.toNatClampNeg) v5.toNatClampNeg))), (0, .ref (κ.1 38)), (1, .int v1), (2, .long v2), (4, .int v4), (5, .int v5)]) G dB_eliminate_54 (by decide) rfl ?_
      refine w_aload_n (pc := 56) (q := 1) G dB_eliminate_56 rfl rfl ?_
      refine w_get (pc := 57) (v := .ref (κ.1 57)) (fs := fl_B κ (x_added, x_asked, x_eR, x_et, x_oR, x_ot, x_bR, x_bD, x_bQ, x_bW, x_bS, x_bM, x_bT, x_bn, x_tg, x_tb, x_ts, x_fg, x_fb, x_fV, x_fS, x_fn, x_cg, x_cb, x_cB, x_cq, x_vHeld, x_vRed, x_vTal, x_vLis)) G 38 (by decide) lb_B rfl wsB_ok 5 (by decide) wd49 gf_B_5 dB_eliminate_57 ?_
      refine w_iload (pc := 60) (q := 4) G dB_eliminate_60 rfl ?_
      obtain ⟨i62, h⟩ := gd_some h
      refine w_aald (pc := 62) (n := 4) (f := og κ 58 4) (b := κ.1 (58 + v4.toNatClampNeg)) G 57 (by decide) lo_bM i62 (og_at (ixlt i62)) dB_eliminate_62 ?_
      refine w_iload (pc := 63) (q := 5) G dB_eliminate_63 rfl ?_
      refine w_aload_n (pc := 65) (q := 1) G dB_eliminate_65 rfl rfl ?_
      refine w_get (pc := 66) (v := .ref (κ.1 57)) (fs := fl_B κ (x_added, x_asked, x_eR, x_et, x_oR, x_ot, x_bR, x_bD, x_bQ, x_bW, x_bS, x_bM, x_bT, x_bn, x_tg, x_tb, x_ts, x_fg, x_fb, x_fV, x_fS, x_fn, x_cg, x_cb, x_cB, x_cq, x_vHeld, x_vRed, x_vTal, x_vLis)) G 38 (by decide) lb_B rfl wsB_ok 5 (by decide) wd49 gf_B_5 dB_eliminate_66 ?_
      refine w_iload (pc := 69) (q := 4) G dB_eliminate_69 rfl ?_
      obtain ⟨i71, h⟩ := gd_some h
      refine w_aald (pc := 71) (n := 4) (f := og κ 58 4) (b := κ.1 (58 + v4.toNatClampNeg)) G 57 (by decide) lo_bM i71 (og_at (ixlt i71)) dB_eliminate_71 ?_
      refine w_iload (pc := 72) (q := 5) G dB_eliminate_72 rfl ?_
      obtain ⟨i74, h⟩ := gd_some h
      refine w_lald (pc := 74) (n := 4) (f := (x_bM v4.toNatClampNeg)) G (58 + v4.toNatClampNeg) (nw_bM (ixlt i71)) (lk_bM (ixlt i71)) i74 dB_eliminate_74 ?_
      refine w_aload_n (pc := 75) (q := 1) G dB_eliminate_75 rfl rfl ?_
      refine w_get (pc := 76) (v := .ref (κ.1 57)) (fs := fl_B κ (x_added, x_asked, x_eR, x_et, x_oR, x_ot, x_bR, x_bD, x_bQ, x_bW, x_bS, x_bM, x_bT, x_bn, x_tg, x_tb, x_ts, x_fg, x_fb, x_fV, x_fS, x_fn, x_cg, x_cb, x_cB, x_cq, x_vHeld, x_vRed, x_vTal, x_vLis)) G 38 (by decide) lb_B rfl wsB_ok 5 (by decide) wd49 gf_B_5 dB_eliminate_76 ?_
      refine w_iload_n (pc := 79) (q := 2) G dB_eliminate_79 rfl rfl ?_
      obtain ⟨i80, h⟩ := gd_some h
      refine w_aald (pc := 80) (n := 4) (f := og κ 58 4) (b := κ.1 (58 + v1.toNatClampNeg)) G 57 (by decide) lo_bM i80 (og_at (ixlt i80)) dB_eliminate_80 ?_
      refine w_iload_n (pc := 81) (q := 2) G dB_eliminate_81 rfl rfl ?_
      obtain ⟨i82, h⟩ := gd_some h
      refine w_lald (pc := 82) (n := 4) (f := (x_bM v1.toNatClampNeg)) G (58 + v1.toNatClampNeg) (nw_bM (ixlt i80)) (lk_bM (ixlt i80)) i82 dB_eliminate_82 ?_
      refine w_lmul (pc := 83) G dB_eliminate_83 ?_
      refine w_lload (pc := 84) (q := 0) G dB_eliminate_84 rfl ?_
      refine w_lsub (pc := 86) G dB_eliminate_86 ?_
      refine w_lload_n (pc := 87) (q := 3) G dB_eliminate_87 rfl rfl ?_
      obtain ⟨z88, h⟩ := gd_some h
      refine w_ldiv (pc := 88) G dB_eliminate_88 z88 ?_
      obtain ⟨i89, h⟩ := gd_some h
      refine w_last (pc := 89) (n := 4) (f := (x_bM v4.toNatClampNeg)) (L1 := (LM κ τ (LC κ (x_added, x_asked, x_eR, x_et, x_oR, x_ot, x_bR, x_bD, x_bQ, x_bW, x_bS, va_up x_bM v4.toNatClampNeg (vp_updL (x_bM v4.toNatClampNeg) v5.toNatClampNeg (((((x_bM v4.toNatClampNeg) v5.toNatClampNeg) * ((x_bM v1.toNatClampNeg) v1.toNatClampNeg)) - (((x_bM v4.toNatClampNeg) v1.toNatClampNeg) * ((x_bM v1.toNatClampNeg) v5.toNatClampNeg))) / v2)), x_bT, x_bn, x_tg, x_tb, x_ts, x_fg, x_fb, x_fV, x_fS, x_fn, x_cg, x_cb, x_cB, x_cq, x_vHeld, x_vRed, x_vTal, x_vLis)))) G (58 + v4.toNatClampNeg) (nw_bM (ixlt i62)) (lk_bM (ixlt i62)) i89 dB_eliminate_89 (up_bM (ixlt i62)) ?_
      refine w_iinc (pc := 90) (q0 := 5) (v := (v5 + 1)) (lv' := [(5, .int (v5 + 1)), (6, .long (((x_bM v4.toNatClampNeg) v1.toNatClampNeg) * ((x_bM v1.toNatClampNeg) v5.toNatClampNeg))), (0, .ref (κ.1 38)), (1, .int v1), (2, .long v2), (4, .int v4)]) G dB_eliminate_90 rfl rfl (by decide) rfl ?_
      refine w_goto (pc := 93) (tgt := 26) G dB_eliminate_93 (by decide) ?_
      refine w_sub (lv' := [(0, .ref (κ.1 38)), (1, .int v1), (2, .long v2), (4, .int v4), (5, .int (v5 + 1))]) [2, 3, 4, 5, 0] rfl ?_
      exact ih (v5 + 1) (va_up x_bM v4.toNatClampNeg (vp_updL (x_bM v4.toNatClampNeg) v5.toNatClampNeg (((((x_bM v4.toNatClampNeg) v5.toNatClampNeg) * ((x_bM v1.toNatClampNeg) v1.toNatClampNeg)) - (((x_bM v4.toNatClampNeg) v1.toNatClampNeg) * ((x_bM v1.toNatClampNeg) v5.toNatClampNeg))) / v2))) out h K
noncomputable def lB_eliminate_12 (F : Nat) (x_bn : Int32) (v1 : Int32) (v2 : Int64) : Nat → Int32 → (Nat → Nat → Int64) → Option ((Nat → Nat → Int64))
  | 0, _, _ => none
  | n + 1, v4, x_bM => if x_bn ≤ v4 then some (x_bM) else (lB_eliminate_26 F  x_bn v1 v2 v4 F (v1 + (1 : Int32)) x_bM).bind (fun o26_18 => lB_eliminate_12 F  x_bn v1 v2 n (v4 + 1) o26_18)
set_option maxHeartbeats 8000000 in
set_option maxRecDepth 100000 in
theorem lB_eliminate_12_ok {g : Gm} {κ : ctx} (G : OK g κ RB cB_eliminate 8 none rm_B_eliminate) (τ : MS) (F : Nat) {x_added : Nat → Nat → Int64} {x_asked : Nat → Int64} {x_eR : Nat → Nat → Int64} {x_et : Nat → Int64} {x_oR : Nat → Nat → Int64} {x_ot : Nat → Int64} {x_bR : Nat → Nat → Int64} {x_bD : Nat → Nat → Int64} {x_bQ : Nat → Int64} {x_bW : Nat → Int64} {x_bS : Nat → Nat → Int64} {x_bT : Nat → Int64} {x_bn : Int32} {x_tg : Nat → Int64} {x_tb : Int64} {x_ts : Nat → Int32} {x_fg : Nat → Int64} {x_fb : Int64} {x_fV : Nat → Nat → Int64} {x_fS : Nat → Int64} {x_fn : Int32} {x_cg : Nat → Int64} {x_cb : Int64} {x_cB : Nat → Int64} {x_cq : Int64} {x_vHeld : Int32} {x_vRed : Int32} {x_vTal : Int32} {x_vLis : Int32} (v1 : Int32) (v2 : Int64) : ∀ (n : Nat) (v4 : Int32) (x_bM : Nat → Nat → Int64) (out : (Nat → Nat → Int64)), lB_eliminate_12 F  x_bn v1 v2 n v4 x_bM = some out → (J g κ 8 102 [] [] (LM κ τ (LC κ (x_added, x_asked, x_eR, x_et, x_oR, x_ot, x_bR, x_bD, x_bQ, x_bW, x_bS, out, x_bT, x_bn, x_tg, x_tb, x_ts, x_fg, x_fb, x_fV, x_fS, x_fn, x_cg, x_cb, x_cB, x_cq, x_vHeld, x_vRed, x_vTal, x_vLis)))) → J g κ 8 12 [(0, .ref (κ.1 38)), (1, .int v1), (2, .long v2), (4, .int v4)] [] (LM κ τ (LC κ (x_added, x_asked, x_eR, x_et, x_oR, x_ot, x_bR, x_bD, x_bQ, x_bW, x_bS, x_bM, x_bT, x_bn, x_tg, x_tb, x_ts, x_fg, x_fb, x_fV, x_fS, x_fn, x_cg, x_cb, x_cB, x_cq, x_vHeld, x_vRed, x_vTal, x_vLis))) := by
  intro n
  induction n with
  | zero =>
    intro v4 x_bM
    intro out h
    rw [lB_eliminate_12] at h
    cases h
  | succ n ih =>
    intro v4 x_bM out h K
    rw [lB_eliminate_12] at h
    refine w_iload (pc := 12) (q := 3) G dB_eliminate_12 rfl ?_
    refine w_aload_n (pc := 14) (q := 0) G dB_eliminate_14 rfl rfl ?_
    refine w_get (pc := 15) (v := .int x_bn) (fs := fl_B κ (x_added, x_asked, x_eR, x_et, x_oR, x_ot, x_bR, x_bD, x_bQ, x_bW, x_bS, x_bM, x_bT, x_bn, x_tg, x_tb, x_ts, x_fg, x_fb, x_fV, x_fS, x_fn, x_cg, x_cb, x_cB, x_cq, x_vHeld, x_vRed, x_vTal, x_vLis)) G 38 (by decide) lb_B rfl wsB_ok 7 (by decide) wd51 gf_B_7 dB_eliminate_15 ?_
    refine w_icmp_ge (pc := 18) (tgt := 102) G dB_eliminate_18 (by decide) (fun c18 => ?_) (fun c18 => ?_)
    · have h := if_t c18 h
      obtain rfl := Option.some.inj h
      refine w_sub (lv' := []) [] rfl ?_
      exact K
    · have h := if_f c18 h
      refine w_iload_n (pc := 21) (q := 1) G dB_eliminate_21 rfl rfl ?_
      refine w_iconst (pc := 22) (v := (1 : Int32)) G dB_eliminate_22 (by decide) ?_
      refine w_iadd (pc := 23) G dB_eliminate_23 ?_
      refine w_istore (pc := 24) (lv' := [(5, .int (v1 + (1 : Int32))), (0, .ref (κ.1 38)), (1, .int v1), (2, .long v2), (4, .int v4)]) G dB_eliminate_24 (by decide) rfl ?_
      refine w_sub (lv' := [(0, .ref (κ.1 38)), (1, .int v1), (2, .long v2), (4, .int v4), (5, .int (v1 + (1 : Int32)))]) [1, 2, 3, 4, 0] rfl ?_
      obtain ⟨o26_18, eo26_18, h⟩ := bd h
      refine lB_eliminate_26_ok G τ F  v1 v2 v4 F (v1 + (1 : Int32)) x_bM o26_18 eo26_18 ?_
      refine w_iinc (pc := 96) (q0 := 3) (v := (v4 + 1)) (lv' := [(4, .int (v4 + 1)), (0, .ref (κ.1 38)), (1, .int v1), (2, .long v2)]) G dB_eliminate_96 rfl rfl (by decide) rfl ?_
      refine w_goto (pc := 99) (tgt := 12) G dB_eliminate_99 (by decide) ?_
      refine w_sub (lv' := [(0, .ref (κ.1 38)), (1, .int v1), (2, .long v2), (4, .int (v4 + 1))]) [1, 2, 3, 0] rfl ?_
      exact ih (v4 + 1) o26_18 out h K
noncomputable def B_eliminate (F : Nat)  (x_bM : Nat → Nat → Int64) (x_bn : Int32) (v1 : Int32) (v2 : Int64) : Option ((Nat → Nat → Int64)) := if v2 = (0 : Int64) then some x_bM else (lB_eliminate_12 F  x_bn v1 v2 F (v1 + (1 : Int32)) x_bM).bind (fun o12_18 => some o12_18)
set_option maxHeartbeats 8000000 in
set_option maxRecDepth 100000 in
theorem met_B_eliminate (κ : ctx) (τ : MS) (F : Nat) {x_added : Nat → Nat → Int64} {x_asked : Nat → Int64} {x_eR : Nat → Nat → Int64} {x_et : Nat → Int64} {x_oR : Nat → Nat → Int64} {x_ot : Nat → Int64} {x_bR : Nat → Nat → Int64} {x_bD : Nat → Nat → Int64} {x_bQ : Nat → Int64} {x_bW : Nat → Int64} {x_bS : Nat → Nat → Int64} {x_bM : Nat → Nat → Int64} {x_bT : Nat → Int64} {x_bn : Int32} {x_tg : Nat → Int64} {x_tb : Int64} {x_ts : Nat → Int32} {x_fg : Nat → Int64} {x_fb : Int64} {x_fV : Nat → Nat → Int64} {x_fS : Nat → Int64} {x_fn : Int32} {x_cg : Nat → Int64} {x_cb : Int64} {x_cB : Nat → Int64} {x_cq : Int64} {x_vHeld : Int32} {x_vRed : Int32} {x_vTal : Int32} {x_vLis : Int32} (v1 : Int32) (v2 : Int64) {out : (Nat → Nat → Int64)} (h : B_eliminate F  x_bM x_bn v1 v2 = some out) : Mt yB_eliminate cB_eliminate 8 none rm_B_eliminate κ [.ref (κ.1 38), .int v1, .long v2] (LM κ τ (LC κ (x_added, x_asked, x_eR, x_et, x_oR, x_ot, x_bR, x_bD, x_bQ, x_bW, x_bS, x_bM, x_bT, x_bn, x_tg, x_tb, x_ts, x_fg, x_fb, x_fV, x_fS, x_fn, x_cg, x_cb, x_cB, x_cq, x_vHeld, x_vRed, x_vTal, x_vLis))) none (LM κ τ (LC κ (x_added, x_asked, x_eR, x_et, x_oR, x_ot, x_bR, x_bD, x_bQ, x_bW, x_bS, out, x_bT, x_bn, x_tg, x_tb, x_ts, x_fg, x_fb, x_fV, x_fS, x_fn, x_cg, x_cb, x_cB, x_cq, x_vHeld, x_vRed, x_vTal, x_vLis))) := by
  refine Mt.of (by decide) (Nat.le_of_ble_eq_true rfl) ?_
  intro g G Fh
  unfold B_eliminate at h
  show J g κ 8 0 [(0, .ref (κ.1 38)), (1, .int v1), (2, .long v2)] [] (LM κ τ (LC κ (x_added, x_asked, x_eR, x_et, x_oR, x_ot, x_bR, x_bD, x_bQ, x_bW, x_bS, x_bM, x_bT, x_bn, x_tg, x_tb, x_ts, x_fg, x_fb, x_fV, x_fS, x_fn, x_cg, x_cb, x_cB, x_cq, x_vHeld, x_vRed, x_vTal, x_vLis)))
  refine w_lload_n (pc := 0) (q := 2) G dB_eliminate_0 rfl rfl ?_
  refine w_lconst (pc := 1) (v := (0 : Int64)) G dB_eliminate_1 (by decide) ?_
  refine w_lc_ne (pc := 2) (tgt := 7) G dB_eliminate_2 dB_eliminate_3 (by decide) (fun c2 => ?_) (fun c2 => ?_)
  · have h := if_t c2 h
    obtain rfl := Option.some.inj h
    exact w_vret (pc := 6) G dB_eliminate_6 Fh
  · have h := if_f c2 h
    refine w_iload_n (pc := 7) (q := 1) G dB_eliminate_7 rfl rfl ?_
    refine w_iconst (pc := 8) (v := (1 : Int32)) G dB_eliminate_8 (by decide) ?_
    refine w_iadd (pc := 9) G dB_eliminate_9 ?_
    refine w_istore (pc := 10) (lv' := [(4, .int (v1 + (1 : Int32))), (0, .ref (κ.1 38)), (1, .int v1), (2, .long v2)]) G dB_eliminate_10 (by decide) rfl ?_
    refine w_sub (lv' := [(0, .ref (κ.1 38)), (1, .int v1), (2, .long v2), (4, .int (v1 + (1 : Int32)))]) [1, 2, 3, 0] rfl ?_
    obtain ⟨o12_18, eo12_18, h⟩ := bd h
    refine lB_eliminate_12_ok G τ F  v1 v2 F (v1 + (1 : Int32)) x_bM o12_18 eo12_18 ?_
    obtain rfl := Option.some.inj h
    exact w_vret (pc := 102) G dB_eliminate_102 Fh
def rm_B_volumeSquared : Room := { frames := 1, cells := 0, slots := 0, locals := 27 }
theorem dB_volumeSquared_0 : decode cB_volumeSquared 0 = .ok (.iconst 0, 1) := by decide +kernel
theorem dB_volumeSquared_1 : decode cB_volumeSquared 1 = .ok (.istore_n 1, 1) := by decide +kernel
theorem dB_volumeSquared_2 : decode cB_volumeSquared 2 = .ok (.iload_n 1, 1) := by decide +kernel
theorem dB_volumeSquared_3 : decode cB_volumeSquared 3 = .ok (.aload_n 0, 1) := by decide +kernel
theorem dB_volumeSquared_4 : decode cB_volumeSquared 4 = .ok (.getfield 35, 3) := by decide +kernel
theorem dB_volumeSquared_7 : decode cB_volumeSquared 7 = .ok (.if_icmp .ge 48, 3) := by decide +kernel
theorem dB_volumeSquared_10 : decode cB_volumeSquared 10 = .ok (.iconst 0, 1) := by decide +kernel
theorem dB_volumeSquared_11 : decode cB_volumeSquared 11 = .ok (.istore_n 2, 1) := by decide +kernel
theorem dB_volumeSquared_12 : decode cB_volumeSquared 12 = .ok (.iload_n 2, 1) := by decide +kernel
theorem dB_volumeSquared_13 : decode cB_volumeSquared 13 = .ok (.aload_n 0, 1) := by decide +kernel
theorem dB_volumeSquared_14 : decode cB_volumeSquared 14 = .ok (.getfield 35, 3) := by decide +kernel
theorem dB_volumeSquared_17 : decode cB_volumeSquared 17 = .ok (.if_icmp .ge 32, 3) := by decide +kernel
theorem dB_volumeSquared_20 : decode cB_volumeSquared 20 = .ok (.aload_n 0, 1) := by decide +kernel
theorem dB_volumeSquared_21 : decode cB_volumeSquared 21 = .ok (.getfield 29, 3) := by decide +kernel
theorem dB_volumeSquared_24 : decode cB_volumeSquared 24 = .ok (.iload_n 1, 1) := by decide +kernel
theorem dB_volumeSquared_25 : decode cB_volumeSquared 25 = .ok (.aaload, 1) := by decide +kernel
theorem dB_volumeSquared_26 : decode cB_volumeSquared 26 = .ok (.iload_n 2, 1) := by decide +kernel
theorem dB_volumeSquared_27 : decode cB_volumeSquared 27 = .ok (.aload_n 0, 1) := by decide +kernel
theorem dB_volumeSquared_28 : decode cB_volumeSquared 28 = .ok (.getfield 13, 3) := by decide +kernel
theorem dB_volumeSquared_31 : decode cB_volumeSquared 31 = .ok (.iload_n 1, 1) := by decide +kernel
theorem dB_volumeSquared_32 : decode cB_volumeSquared 32 = .ok (.aaload, 1) := by decide +kernel
theorem dB_volumeSquared_33 : decode cB_volumeSquared 33 = .ok (.aload_n 0, 1) := by decide +kernel
theorem dB_volumeSquared_34 : decode cB_volumeSquared 34 = .ok (.getfield 13, 3) := by decide +kernel
theorem dB_volumeSquared_37 : decode cB_volumeSquared 37 = .ok (.iload_n 2, 1) := by decide +kernel
theorem dB_volumeSquared_38 : decode cB_volumeSquared 38 = .ok (.aaload, 1) := by decide +kernel
theorem dB_volumeSquared_39 : decode cB_volumeSquared 39 = .ok (.invokestatic 63, 3) := by decide +kernel
theorem dB_volumeSquared_42 : decode cB_volumeSquared 42 = .ok (.lastore, 1) := by decide +kernel
theorem dB_volumeSquared_43 : decode cB_volumeSquared 43 = .ok (.iinc 2 1, 3) := by decide +kernel
theorem dB_volumeSquared_46 : decode cB_volumeSquared 46 = .ok (.goto (-34), 3) := by decide +kernel
theorem dB_volumeSquared_49 : decode cB_volumeSquared 49 = .ok (.iinc 1 1, 3) := by decide +kernel
theorem dB_volumeSquared_52 : decode cB_volumeSquared 52 = .ok (.goto (-50), 3) := by decide +kernel
theorem dB_volumeSquared_55 : decode cB_volumeSquared 55 = .ok (.lconst 1, 1) := by decide +kernel
theorem dB_volumeSquared_56 : decode cB_volumeSquared 56 = .ok (.lstore_n 1, 1) := by decide +kernel
theorem dB_volumeSquared_57 : decode cB_volumeSquared 57 = .ok (.iconst 0, 1) := by decide +kernel
theorem dB_volumeSquared_58 : decode cB_volumeSquared 58 = .ok (.istore_n 3, 1) := by decide +kernel
theorem dB_volumeSquared_59 : decode cB_volumeSquared 59 = .ok (.iload_n 3, 1) := by decide +kernel
theorem dB_volumeSquared_60 : decode cB_volumeSquared 60 = .ok (.aload_n 0, 1) := by decide +kernel
theorem dB_volumeSquared_61 : decode cB_volumeSquared 61 = .ok (.getfield 35, 3) := by decide +kernel
theorem dB_volumeSquared_64 : decode cB_volumeSquared 64 = .ok (.if_icmp .ge 30, 3) := by decide +kernel
theorem dB_volumeSquared_67 : decode cB_volumeSquared 67 = .ok (.lload_n 1, 1) := by decide +kernel
theorem dB_volumeSquared_68 : decode cB_volumeSquared 68 = .ok (.lconst 0, 1) := by decide +kernel
theorem dB_volumeSquared_69 : decode cB_volumeSquared 69 = .ok (.lcmp, 1) := by decide +kernel
theorem dB_volumeSquared_70 : decode cB_volumeSquared 70 = .ok (.ifCond .eq 24, 3) := by decide +kernel
theorem dB_volumeSquared_73 : decode cB_volumeSquared 73 = .ok (.aload_n 0, 1) := by decide +kernel
theorem dB_volumeSquared_74 : decode cB_volumeSquared 74 = .ok (.iload_n 3, 1) := by decide +kernel
theorem dB_volumeSquared_75 : decode cB_volumeSquared 75 = .ok (.lload_n 1, 1) := by decide +kernel
theorem dB_volumeSquared_76 : decode cB_volumeSquared 76 = .ok (.invokevirtual 111, 3) := by decide +kernel
theorem dB_volumeSquared_79 : decode cB_volumeSquared 79 = .ok (.aload_n 0, 1) := by decide +kernel
theorem dB_volumeSquared_80 : decode cB_volumeSquared 80 = .ok (.getfield 29, 3) := by decide +kernel
theorem dB_volumeSquared_83 : decode cB_volumeSquared 83 = .ok (.iload_n 3, 1) := by decide +kernel
theorem dB_volumeSquared_84 : decode cB_volumeSquared 84 = .ok (.aaload, 1) := by decide +kernel
theorem dB_volumeSquared_85 : decode cB_volumeSquared 85 = .ok (.iload_n 3, 1) := by decide +kernel
theorem dB_volumeSquared_86 : decode cB_volumeSquared 86 = .ok (.laload, 1) := by decide +kernel
theorem dB_volumeSquared_87 : decode cB_volumeSquared 87 = .ok (.lstore_n 1, 1) := by decide +kernel
theorem dB_volumeSquared_88 : decode cB_volumeSquared 88 = .ok (.iinc 3 1, 3) := by decide +kernel
theorem dB_volumeSquared_91 : decode cB_volumeSquared 91 = .ok (.goto (-32), 3) := by decide +kernel
theorem dB_volumeSquared_94 : decode cB_volumeSquared 94 = .ok (.lload_n 1, 1) := by decide +kernel
theorem dB_volumeSquared_95 : decode cB_volumeSquared 95 = .ok (.lreturn, 1) := by decide +kernel
theorem cb_V_product_B_volumeSquared : CB yV_product cV_product 5 (some .long) rm_V_product rm_B_volumeSquared 2 := ⟨wd263, wd1, by decide +kernel, rfl, rfl, by decide⟩
theorem cb_B_eliminate_B_volumeSquared : CB yB_eliminate cB_eliminate 8 none rm_B_eliminate rm_B_volumeSquared 2 := ⟨wd312, wd3, by decide +kernel, rfl, rfl, by decide⟩
noncomputable def lB_volumeSquared_12 (F : Nat) (x_bR : Nat → Nat → Int64) (x_bn : Int32) (v1 : Int32) : Nat → Int32 → (Nat → Nat → Int64) → Option ((Nat → Nat → Int64))
  | 0, _, _ => none
  | n + 1, v2, x_bM => if x_bn ≤ v2 then some (x_bM) else gd (vp_in v1 4) (gd (vp_in v1 4) (gd (vp_in v2 4) ((V_product F (x_bR v1.toNatClampNeg) (x_bR v2.toNatClampNeg) ).bind (fun r39 => gd (vp_in v2 4) (lB_volumeSquared_12 F  x_bR x_bn v1 n (v2 + 1) (va_up x_bM v1.toNatClampNeg (vp_updL (x_bM v1.toNatClampNeg) v2.toNatClampNeg r39)))))))
set_option maxHeartbeats 8000000 in
set_option maxRecDepth 100000 in
theorem lB_volumeSquared_12_ok {g : Gm} {κ : ctx} (G : OK g κ RB cB_volumeSquared 4 (some .long) rm_B_volumeSquared) (τ : MS) (F : Nat) {x_added : Nat → Nat → Int64} {x_asked : Nat → Int64} {x_eR : Nat → Nat → Int64} {x_et : Nat → Int64} {x_oR : Nat → Nat → Int64} {x_ot : Nat → Int64} {x_bR : Nat → Nat → Int64} {x_bD : Nat → Nat → Int64} {x_bQ : Nat → Int64} {x_bW : Nat → Int64} {x_bS : Nat → Nat → Int64} {x_bT : Nat → Int64} {x_bn : Int32} {x_tg : Nat → Int64} {x_tb : Int64} {x_ts : Nat → Int32} {x_fg : Nat → Int64} {x_fb : Int64} {x_fV : Nat → Nat → Int64} {x_fS : Nat → Int64} {x_fn : Int32} {x_cg : Nat → Int64} {x_cb : Int64} {x_cB : Nat → Int64} {x_cq : Int64} {x_vHeld : Int32} {x_vRed : Int32} {x_vTal : Int32} {x_vLis : Int32} (v1 : Int32) : ∀ (n : Nat) (v2 : Int32) (x_bM : Nat → Nat → Int64) (out : (Nat → Nat → Int64)), lB_volumeSquared_12 F  x_bR x_bn v1 n v2 x_bM = some out → (J g κ 4 49 [(0, .ref (κ.1 38)), (1, .int v1)] [] (LM κ τ (LC κ (x_added, x_asked, x_eR, x_et, x_oR, x_ot, x_bR, x_bD, x_bQ, x_bW, x_bS, out, x_bT, x_bn, x_tg, x_tb, x_ts, x_fg, x_fb, x_fV, x_fS, x_fn, x_cg, x_cb, x_cB, x_cq, x_vHeld, x_vRed, x_vTal, x_vLis)))) → J g κ 4 12 [(0, .ref (κ.1 38)), (1, .int v1), (2, .int v2)] [] (LM κ τ (LC κ (x_added, x_asked, x_eR, x_et, x_oR, x_ot, x_bR, x_bD, x_bQ, x_bW, x_bS, x_bM, x_bT, x_bn, x_tg, x_tb, x_ts, x_fg, x_fb, x_fV, x_fS, x_fn, x_cg, x_cb, x_cB, x_cq, x_vHeld, x_vRed, x_vTal, x_vLis))) := by
  intro n
  induction n with
  | zero =>
    intro v2 x_bM
    intro out h
    rw [lB_volumeSquared_12] at h
    cases h
  | succ n ih =>
    intro v2 x_bM out h K
    rw [lB_volumeSquared_12] at h
    refine w_iload_n (pc := 12) (q := 2) G dB_volumeSquared_12 rfl rfl ?_
    refine w_aload_n (pc := 13) (q := 0) G dB_volumeSquared_13 rfl rfl ?_
    refine w_get (pc := 14) (v := .int x_bn) (fs := fl_B κ (x_added, x_asked, x_eR, x_et, x_oR, x_ot, x_bR, x_bD, x_bQ, x_bW, x_bS, x_bM, x_bT, x_bn, x_tg, x_tb, x_ts, x_fg, x_fb, x_fV, x_fS, x_fn, x_cg, x_cb, x_cB, x_cq, x_vHeld, x_vRed, x_vTal, x_vLis)) G 38 (by decide) lb_B rfl wsB_ok 7 (by decide) wd51 gf_B_7 dB_volumeSquared_14 ?_
    refine w_icmp_ge (pc := 17) (tgt := 49) G dB_volumeSquared_17 (by decide) (fun c17 => ?_) (fun c17 => ?_)
    · have h := if_t c17 h
      obtain rfl := Option.some.inj h
      refine w_sub (lv' := [(0, .ref (κ.1 38)), (1, .int v1)]) [0, 1] rfl ?_
      exact K
    · have h := if_f c17 h
      refine w_aload_n (pc := 20) (q := 0) G dB_volumeSquared_20 rfl rfl ?_
      refine w_get (pc := 21) (v := .ref (κ.1 57)) (fs := fl_B κ (x_added, x_asked, x_eR, x_et, x_oR, x_ot, x_bR, x_bD, x_bQ, x_bW, x_bS, x_bM, x_bT, x_bn, x_tg, x_tb, x_ts, x_fg, x_fb, x_fV, x_fS, x_fn, x_cg, x_cb, x_cB, x_cq, x_vHeld, x_vRed, x_vTal, x_vLis)) G 38 (by decide) lb_B rfl wsB_ok 5 (by decide) wd49 gf_B_5 dB_volumeSquared_21 ?_
      refine w_iload_n (pc := 24) (q := 1) G dB_volumeSquared_24 rfl rfl ?_
      obtain ⟨i25, h⟩ := gd_some h
      refine w_aald (pc := 25) (n := 4) (f := og κ 58 4) (b := κ.1 (58 + v1.toNatClampNeg)) G 57 (by decide) lo_bM i25 (og_at (ixlt i25)) dB_volumeSquared_25 ?_
      refine w_iload_n (pc := 26) (q := 2) G dB_volumeSquared_26 rfl rfl ?_
      refine w_aload_n (pc := 27) (q := 0) G dB_volumeSquared_27 rfl rfl ?_
      refine w_get (pc := 28) (v := .ref (κ.1 39)) (fs := fl_B κ (x_added, x_asked, x_eR, x_et, x_oR, x_ot, x_bR, x_bD, x_bQ, x_bW, x_bS, x_bM, x_bT, x_bn, x_tg, x_tb, x_ts, x_fg, x_fb, x_fV, x_fS, x_fn, x_cg, x_cb, x_cB, x_cq, x_vHeld, x_vRed, x_vTal, x_vLis)) G 38 (by decide) lb_B rfl wsB_ok 0 (by decide) wd44 gf_B_0 dB_volumeSquared_28 ?_
      refine w_iload_n (pc := 31) (q := 1) G dB_volumeSquared_31 rfl rfl ?_
      obtain ⟨i32, h⟩ := gd_some h
      refine w_aald (pc := 32) (n := 4) (f := og κ 40 4) (b := κ.1 (40 + v1.toNatClampNeg)) G 39 (by decide) lo_bR i32 (og_at (ixlt i32)) dB_volumeSquared_32 ?_
      refine w_aload_n (pc := 33) (q := 0) G dB_volumeSquared_33 rfl rfl ?_
      refine w_get (pc := 34) (v := .ref (κ.1 39)) (fs := fl_B κ (x_added, x_asked, x_eR, x_et, x_oR, x_ot, x_bR, x_bD, x_bQ, x_bW, x_bS, x_bM, x_bT, x_bn, x_tg, x_tb, x_ts, x_fg, x_fb, x_fV, x_fS, x_fn, x_cg, x_cb, x_cB, x_cq, x_vHeld, x_vRed, x_vTal, x_vLis)) G 38 (by decide) lb_B rfl wsB_ok 0 (by decide) wd44 gf_B_0 dB_volumeSquared_34 ?_
      refine w_iload_n (pc := 37) (q := 2) G dB_volumeSquared_37 rfl rfl ?_
      obtain ⟨i38, h⟩ := gd_some h
      refine w_aald (pc := 38) (n := 4) (f := og κ 40 4) (b := κ.1 (40 + v2.toNatClampNeg)) G 39 (by decide) lo_bR i38 (og_at (ixlt i38)) dB_volumeSquared_38 ?_
      obtain ⟨r39, e39, h⟩ := bd h
      refine w_callSN (pc := 39) (av := [.ref (κ.1 (40 + v1.toNatClampNeg)), .ref (κ.1 (40 + v2.toNatClampNeg))]) (rest := [.int v2, .ref (κ.1 (58 + v1.toNatClampNeg))]) (v := some (.long r39)) (L' := (LM κ τ (LC κ (x_added, x_asked, x_eR, x_et, x_oR, x_ot, x_bR, x_bD, x_bQ, x_bW, x_bS, x_bM, x_bT, x_bn, x_tg, x_tb, x_ts, x_fg, x_fb, x_fV, x_fS, x_fn, x_cg, x_cb, x_cB, x_cq, x_vHeld, x_vRed, x_vTal, x_vLis)))) G cb_V_product_B_volumeSquared wd262 wd261 (met_V_product κ (LM κ τ (LC κ (x_added, x_asked, x_eR, x_et, x_oR, x_ot, x_bR, x_bD, x_bQ, x_bW, x_bS, x_bM, x_bT, x_bn, x_tg, x_tb, x_ts, x_fg, x_fb, x_fV, x_fS, x_fn, x_cg, x_cb, x_cB, x_cq, x_vHeld, x_vRed, x_vTal, x_vLis))) F  (40 + v1.toNatClampNeg) (nw_bR (ixlt i32)) (x_bR v1.toNatClampNeg) (lk_bR (ixlt i32)) (40 + v2.toNatClampNeg) (nw_bR (ixlt i38)) (x_bR v2.toNatClampNeg) (lk_bR (ixlt i38)) e39) rfl rfl rfl (Nat.le_of_ble_eq_true rfl) dB_volumeSquared_39 ?_
      obtain ⟨i42, h⟩ := gd_some h
      refine w_last (pc := 42) (n := 4) (f := (x_bM v1.toNatClampNeg)) (L1 := (LM κ τ (LC κ (x_added, x_asked, x_eR, x_et, x_oR, x_ot, x_bR, x_bD, x_bQ, x_bW, x_bS, va_up x_bM v1.toNatClampNeg (vp_updL (x_bM v1.toNatClampNeg) v2.toNatClampNeg r39), x_bT, x_bn, x_tg, x_tb, x_ts, x_fg, x_fb, x_fV, x_fS, x_fn, x_cg, x_cb, x_cB, x_cq, x_vHeld, x_vRed, x_vTal, x_vLis)))) G (58 + v1.toNatClampNeg) (nw_bM (ixlt i25)) (lk_bM (ixlt i25)) i42 dB_volumeSquared_42 (up_bM (ixlt i25)) ?_
      refine w_iinc (pc := 43) (q0 := 2) (v := (v2 + 1)) (lv' := [(2, .int (v2 + 1)), (0, .ref (κ.1 38)), (1, .int v1)]) G dB_volumeSquared_43 rfl rfl (by decide) rfl ?_
      refine w_goto (pc := 46) (tgt := 12) G dB_volumeSquared_46 (by decide) ?_
      refine w_sub (lv' := [(0, .ref (κ.1 38)), (1, .int v1), (2, .int (v2 + 1))]) [1, 2, 0] rfl ?_
      exact ih (v2 + 1) (va_up x_bM v1.toNatClampNeg (vp_updL (x_bM v1.toNatClampNeg) v2.toNatClampNeg r39)) out h K
noncomputable def lB_volumeSquared_2 (F : Nat) (x_bR : Nat → Nat → Int64) (x_bn : Int32) : Nat → Int32 → (Nat → Nat → Int64) → Option ((Nat → Nat → Int64))
  | 0, _, _ => none
  | n + 1, v1, x_bM => if x_bn ≤ v1 then some (x_bM) else (lB_volumeSquared_12 F  x_bR x_bn v1 F (0 : Int32) x_bM).bind (fun o12_16 => lB_volumeSquared_2 F  x_bR x_bn n (v1 + 1) o12_16)
set_option maxHeartbeats 8000000 in
set_option maxRecDepth 100000 in
theorem lB_volumeSquared_2_ok {g : Gm} {κ : ctx} (G : OK g κ RB cB_volumeSquared 4 (some .long) rm_B_volumeSquared) (τ : MS) (F : Nat) {x_added : Nat → Nat → Int64} {x_asked : Nat → Int64} {x_eR : Nat → Nat → Int64} {x_et : Nat → Int64} {x_oR : Nat → Nat → Int64} {x_ot : Nat → Int64} {x_bR : Nat → Nat → Int64} {x_bD : Nat → Nat → Int64} {x_bQ : Nat → Int64} {x_bW : Nat → Int64} {x_bS : Nat → Nat → Int64} {x_bT : Nat → Int64} {x_bn : Int32} {x_tg : Nat → Int64} {x_tb : Int64} {x_ts : Nat → Int32} {x_fg : Nat → Int64} {x_fb : Int64} {x_fV : Nat → Nat → Int64} {x_fS : Nat → Int64} {x_fn : Int32} {x_cg : Nat → Int64} {x_cb : Int64} {x_cB : Nat → Int64} {x_cq : Int64} {x_vHeld : Int32} {x_vRed : Int32} {x_vTal : Int32} {x_vLis : Int32} : ∀ (n : Nat) (v1 : Int32) (x_bM : Nat → Nat → Int64) (out : (Nat → Nat → Int64)), lB_volumeSquared_2 F  x_bR x_bn  n v1 x_bM = some out → (J g κ 4 55 [(0, .ref (κ.1 38))] [] (LM κ τ (LC κ (x_added, x_asked, x_eR, x_et, x_oR, x_ot, x_bR, x_bD, x_bQ, x_bW, x_bS, out, x_bT, x_bn, x_tg, x_tb, x_ts, x_fg, x_fb, x_fV, x_fS, x_fn, x_cg, x_cb, x_cB, x_cq, x_vHeld, x_vRed, x_vTal, x_vLis)))) → J g κ 4 2 [(0, .ref (κ.1 38)), (1, .int v1)] [] (LM κ τ (LC κ (x_added, x_asked, x_eR, x_et, x_oR, x_ot, x_bR, x_bD, x_bQ, x_bW, x_bS, x_bM, x_bT, x_bn, x_tg, x_tb, x_ts, x_fg, x_fb, x_fV, x_fS, x_fn, x_cg, x_cb, x_cB, x_cq, x_vHeld, x_vRed, x_vTal, x_vLis))) := by
  intro n
  induction n with
  | zero =>
    intro v1 x_bM
    intro out h
    rw [lB_volumeSquared_2] at h
    cases h
  | succ n ih =>
    intro v1 x_bM out h K
    rw [lB_volumeSquared_2] at h
    refine w_iload_n (pc := 2) (q := 1) G dB_volumeSquared_2 rfl rfl ?_
    refine w_aload_n (pc := 3) (q := 0) G dB_volumeSquared_3 rfl rfl ?_
    refine w_get (pc := 4) (v := .int x_bn) (fs := fl_B κ (x_added, x_asked, x_eR, x_et, x_oR, x_ot, x_bR, x_bD, x_bQ, x_bW, x_bS, x_bM, x_bT, x_bn, x_tg, x_tb, x_ts, x_fg, x_fb, x_fV, x_fS, x_fn, x_cg, x_cb, x_cB, x_cq, x_vHeld, x_vRed, x_vTal, x_vLis)) G 38 (by decide) lb_B rfl wsB_ok 7 (by decide) wd51 gf_B_7 dB_volumeSquared_4 ?_
    refine w_icmp_ge (pc := 7) (tgt := 55) G dB_volumeSquared_7 (by decide) (fun c7 => ?_) (fun c7 => ?_)
    · have h := if_t c7 h
      obtain rfl := Option.some.inj h
      refine w_sub (lv' := [(0, .ref (κ.1 38))]) [0] rfl ?_
      exact K
    · have h := if_f c7 h
      refine w_iconst (pc := 10) (v := (0 : Int32)) G dB_volumeSquared_10 (by decide) ?_
      refine w_istore_n (pc := 11) (lv' := [(2, .int (0 : Int32)), (0, .ref (κ.1 38)), (1, .int v1)]) G dB_volumeSquared_11 rfl (by decide) rfl ?_
      refine w_sub (lv' := [(0, .ref (κ.1 38)), (1, .int v1), (2, .int (0 : Int32))]) [1, 2, 0] rfl ?_
      obtain ⟨o12_16, eo12_16, h⟩ := bd h
      refine lB_volumeSquared_12_ok G τ F  v1 F (0 : Int32) x_bM o12_16 eo12_16 ?_
      refine w_iinc (pc := 49) (q0 := 1) (v := (v1 + 1)) (lv' := [(1, .int (v1 + 1)), (0, .ref (κ.1 38))]) G dB_volumeSquared_49 rfl rfl (by decide) rfl ?_
      refine w_goto (pc := 52) (tgt := 2) G dB_volumeSquared_52 (by decide) ?_
      refine w_sub (lv' := [(0, .ref (κ.1 38)), (1, .int (v1 + 1))]) [1, 0] rfl ?_
      exact ih (v1 + 1) o12_16 out h K
noncomputable def lB_volumeSquared_59 (F : Nat) (x_bn : Int32) : Nat → Int64 → Int32 → (Nat → Nat → Int64) → Option (Int64 × (Nat → Nat → Int64))
  | 0, _, _, _ => none
  | n + 1, v1, v3, x_bM => if x_bn ≤ v3 then some (v1, x_bM) else if v1 = (0 : Int64) then some (v1, x_bM) else (B_eliminate F x_bM x_bn v3 v1).bind (fun r76 => gd (vp_in v3 4) (gd (vp_in v3 4) (lB_volumeSquared_59 F  x_bn n ((r76 v3.toNatClampNeg) v3.toNatClampNeg) (v3 + 1) r76)))
set_option maxHeartbeats 8000000 in
set_option maxRecDepth 100000 in
theorem lB_volumeSquared_59_ok {g : Gm} {κ : ctx} (G : OK g κ RB cB_volumeSquared 4 (some .long) rm_B_volumeSquared) (τ : MS) (F : Nat) {x_added : Nat → Nat → Int64} {x_asked : Nat → Int64} {x_eR : Nat → Nat → Int64} {x_et : Nat → Int64} {x_oR : Nat → Nat → Int64} {x_ot : Nat → Int64} {x_bR : Nat → Nat → Int64} {x_bD : Nat → Nat → Int64} {x_bQ : Nat → Int64} {x_bW : Nat → Int64} {x_bS : Nat → Nat → Int64} {x_bT : Nat → Int64} {x_bn : Int32} {x_tg : Nat → Int64} {x_tb : Int64} {x_ts : Nat → Int32} {x_fg : Nat → Int64} {x_fb : Int64} {x_fV : Nat → Nat → Int64} {x_fS : Nat → Int64} {x_fn : Int32} {x_cg : Nat → Int64} {x_cb : Int64} {x_cB : Nat → Int64} {x_cq : Int64} {x_vHeld : Int32} {x_vRed : Int32} {x_vTal : Int32} {x_vLis : Int32} : ∀ (n : Nat) (v1 : Int64) (v3 : Int32) (x_bM : Nat → Nat → Int64) (out : Int64 × (Nat → Nat → Int64)), lB_volumeSquared_59 F  x_bn  n v1 v3 x_bM = some out → (J g κ 4 94 [(1, .long out.1)] [] (LM κ τ (LC κ (x_added, x_asked, x_eR, x_et, x_oR, x_ot, x_bR, x_bD, x_bQ, x_bW, x_bS, out.2, x_bT, x_bn, x_tg, x_tb, x_ts, x_fg, x_fb, x_fV, x_fS, x_fn, x_cg, x_cb, x_cB, x_cq, x_vHeld, x_vRed, x_vTal, x_vLis)))) → J g κ 4 59 [(0, .ref (κ.1 38)), (1, .long v1), (3, .int v3)] [] (LM κ τ (LC κ (x_added, x_asked, x_eR, x_et, x_oR, x_ot, x_bR, x_bD, x_bQ, x_bW, x_bS, x_bM, x_bT, x_bn, x_tg, x_tb, x_ts, x_fg, x_fb, x_fV, x_fS, x_fn, x_cg, x_cb, x_cB, x_cq, x_vHeld, x_vRed, x_vTal, x_vLis))) := by
  intro n
  induction n with
  | zero =>
    intro v1 v3 x_bM
    intro out h
    rw [lB_volumeSquared_59] at h
    cases h
  | succ n ih =>
    intro v1 v3 x_bM out h K
    rw [lB_volumeSquared_59] at h
    refine w_iload_n (pc := 59) (q := 2) G dB_volumeSquared_59 rfl rfl ?_
    refine w_aload_n (pc := 60) (q := 0) G dB_volumeSquared_60 rfl rfl ?_
    refine w_get (pc := 61) (v := .int x_bn) (fs := fl_B κ (x_added, x_asked, x_eR, x_et, x_oR, x_ot, x_bR, x_bD, x_bQ, x_bW, x_bS, x_bM, x_bT, x_bn, x_tg, x_tb, x_ts, x_fg, x_fb, x_fV, x_fS, x_fn, x_cg, x_cb, x_cB, x_cq, x_vHeld, x_vRed, x_vTal, x_vLis)) G 38 (by decide) lb_B rfl wsB_ok 7 (by decide) wd51 gf_B_7 dB_volumeSquared_61 ?_
    refine w_icmp_ge (pc := 64) (tgt := 94) G dB_volumeSquared_64 (by decide) (fun c64 => ?_) (fun c64 => ?_)
    · have h := if_t c64 h
      obtain rfl := Option.some.inj h
      refine w_sub (lv' := [(1, .long v1)]) [1] rfl ?_
      exact K
    · have h := if_f c64 h
      refine w_lload_n (pc := 67) (q := 1) G dB_volumeSquared_67 rfl rfl ?_
      refine w_lconst (pc := 68) (v := (0 : Int64)) G dB_volumeSquared_68 (by decide) ?_
      refine w_lc_eq (pc := 69) (tgt := 94) G dB_volumeSquared_69 dB_volumeSquared_70 (by decide) (fun c69 => ?_) (fun c69 => ?_)
      · have h := if_t c69 h
        obtain rfl := Option.some.inj h
        refine w_sub (lv' := [(1, .long v1)]) [1] rfl ?_
        exact K
      · have h := if_f c69 h
        refine w_aload_n (pc := 73) (q := 0) G dB_volumeSquared_73 rfl rfl ?_
        refine w_iload_n (pc := 74) (q := 2) G dB_volumeSquared_74 rfl rfl ?_
        refine w_lload_n (pc := 75) (q := 1) G dB_volumeSquared_75 rfl rfl ?_
        obtain ⟨r76, e76, h⟩ := bd h
        refine w_callV (pc := 76) (av := [.int v3, .long v1]) (rest := []) (v := none) (L' := (LM κ τ (LC κ (x_added, x_asked, x_eR, x_et, x_oR, x_ot, x_bR, x_bD, x_bQ, x_bW, x_bS, r76, x_bT, x_bn, x_tg, x_tb, x_ts, x_fg, x_fb, x_fV, x_fS, x_fn, x_cg, x_cb, x_cB, x_cq, x_vHeld, x_vRed, x_vTal, x_vLis)))) (T := TB) (fs := fl_B κ (x_added, x_asked, x_eR, x_et, x_oR, x_ot, x_bR, x_bD, x_bQ, x_bW, x_bS, x_bM, x_bT, x_bn, x_tg, x_tb, x_ts, x_fg, x_fb, x_fV, x_fS, x_fn, x_cg, x_cb, x_cB, x_cq, x_vHeld, x_vRed, x_vTal, x_vLis)) G 38 3 8 (by decide) lb_B rfl cb_B_eliminate_B_volumeSquared wd311 ws13 wd309 (met_B_eliminate κ τ F v3 v1  e76) rfl rfl rfl (Nat.le_of_ble_eq_true rfl) dB_volumeSquared_76 ?_
        refine w_aload_n (pc := 79) (q := 0) G dB_volumeSquared_79 rfl rfl ?_
        refine w_get (pc := 80) (v := .ref (κ.1 57)) (fs := fl_B κ (x_added, x_asked, x_eR, x_et, x_oR, x_ot, x_bR, x_bD, x_bQ, x_bW, x_bS, r76, x_bT, x_bn, x_tg, x_tb, x_ts, x_fg, x_fb, x_fV, x_fS, x_fn, x_cg, x_cb, x_cB, x_cq, x_vHeld, x_vRed, x_vTal, x_vLis)) G 38 (by decide) lb_B rfl wsB_ok 5 (by decide) wd49 gf_B_5 dB_volumeSquared_80 ?_
        refine w_iload_n (pc := 83) (q := 2) G dB_volumeSquared_83 rfl rfl ?_
        obtain ⟨i84, h⟩ := gd_some h
        refine w_aald (pc := 84) (n := 4) (f := og κ 58 4) (b := κ.1 (58 + v3.toNatClampNeg)) G 57 (by decide) lo_bM i84 (og_at (ixlt i84)) dB_volumeSquared_84 ?_
        refine w_iload_n (pc := 85) (q := 2) G dB_volumeSquared_85 rfl rfl ?_
        obtain ⟨i86, h⟩ := gd_some h
        refine w_lald (pc := 86) (n := 4) (f := (r76 v3.toNatClampNeg)) G (58 + v3.toNatClampNeg) (nw_bM (ixlt i84)) (lk_bM (ixlt i84)) i86 dB_volumeSquared_86 ?_
        refine w_lstore_n (pc := 87) (lv' := [(1, .long ((r76 v3.toNatClampNeg) v3.toNatClampNeg)), (0, .ref (κ.1 38)), (3, .int v3)]) G dB_volumeSquared_87 rfl (by decide) rfl ?_
        refine w_iinc (pc := 88) (q0 := 2) (v := (v3 + 1)) (lv' := [(3, .int (v3 + 1)), (1, .long ((r76 v3.toNatClampNeg) v3.toNatClampNeg)), (0, .ref (κ.1 38))]) G dB_volumeSquared_88 rfl rfl (by decide) rfl ?_
        refine w_goto (pc := 91) (tgt := 59) G dB_volumeSquared_91 (by decide) ?_
        refine w_sub (lv' := [(0, .ref (κ.1 38)), (1, .long ((r76 v3.toNatClampNeg) v3.toNatClampNeg)), (3, .int (v3 + 1))]) [2, 1, 0] rfl ?_
        exact ih ((r76 v3.toNatClampNeg) v3.toNatClampNeg) (v3 + 1) r76 out h K
noncomputable def B_volumeSquared (F : Nat)  (x_bR : Nat → Nat → Int64) (x_bM : Nat → Nat → Int64) (x_bn : Int32)  : Option (Int64 × (Nat → Nat → Int64)) := (lB_volumeSquared_2 F  x_bR x_bn F (0 : Int32) x_bM).bind (fun o2_16 => (lB_volumeSquared_59 F  x_bn F (1 : Int64) (0 : Int32) o2_16).bind (fun o59_26 => some (o59_26.1, o59_26.2)))
set_option maxHeartbeats 8000000 in
set_option maxRecDepth 100000 in
theorem met_B_volumeSquared (κ : ctx) (τ : MS) (F : Nat) {x_added : Nat → Nat → Int64} {x_asked : Nat → Int64} {x_eR : Nat → Nat → Int64} {x_et : Nat → Int64} {x_oR : Nat → Nat → Int64} {x_ot : Nat → Int64} {x_bR : Nat → Nat → Int64} {x_bD : Nat → Nat → Int64} {x_bQ : Nat → Int64} {x_bW : Nat → Int64} {x_bS : Nat → Nat → Int64} {x_bM : Nat → Nat → Int64} {x_bT : Nat → Int64} {x_bn : Int32} {x_tg : Nat → Int64} {x_tb : Int64} {x_ts : Nat → Int32} {x_fg : Nat → Int64} {x_fb : Int64} {x_fV : Nat → Nat → Int64} {x_fS : Nat → Int64} {x_fn : Int32} {x_cg : Nat → Int64} {x_cb : Int64} {x_cB : Nat → Int64} {x_cq : Int64} {x_vHeld : Int32} {x_vRed : Int32} {x_vTal : Int32} {x_vLis : Int32}  {out : Int64 × (Nat → Nat → Int64)} (h : B_volumeSquared F  x_bR x_bM x_bn  = some out) : Mt yB_volumeSquared cB_volumeSquared 4 (some .long) rm_B_volumeSquared κ [.ref (κ.1 38)] (LM κ τ (LC κ (x_added, x_asked, x_eR, x_et, x_oR, x_ot, x_bR, x_bD, x_bQ, x_bW, x_bS, x_bM, x_bT, x_bn, x_tg, x_tb, x_ts, x_fg, x_fb, x_fV, x_fS, x_fn, x_cg, x_cb, x_cB, x_cq, x_vHeld, x_vRed, x_vTal, x_vLis))) (some (.long out.1)) (LM κ τ (LC κ (x_added, x_asked, x_eR, x_et, x_oR, x_ot, x_bR, x_bD, x_bQ, x_bW, x_bS, out.2, x_bT, x_bn, x_tg, x_tb, x_ts, x_fg, x_fb, x_fV, x_fS, x_fn, x_cg, x_cb, x_cB, x_cq, x_vHeld, x_vRed, x_vTal, x_vLis))) := by
  refine Mt.of (by decide) (Nat.le_of_ble_eq_true rfl) ?_
  intro g G Fh
  unfold B_volumeSquared at h
  show J g κ 4 0 [(0, .ref (κ.1 38))] [] (LM κ τ (LC κ (x_added, x_asked, x_eR, x_et, x_oR, x_ot, x_bR, x_bD, x_bQ, x_bW, x_bS, x_bM, x_bT, x_bn, x_tg, x_tb, x_ts, x_fg, x_fb, x_fV, x_fS, x_fn, x_cg, x_cb, x_cB, x_cq, x_vHeld, x_vRed, x_vTal, x_vLis)))
  refine w_iconst (pc := 0) (v := (0 : Int32)) G dB_volumeSquared_0 (by decide) ?_
  refine w_istore_n (pc := 1) (lv' := [(1, .int (0 : Int32)), (0, .ref (κ.1 38))]) G dB_volumeSquared_1 rfl (by decide) rfl ?_
  refine w_sub (lv' := [(0, .ref (κ.1 38)), (1, .int (0 : Int32))]) [1, 0] rfl ?_
  obtain ⟨o2_16, eo2_16, h⟩ := bd h
  refine lB_volumeSquared_2_ok G τ F  F (0 : Int32) x_bM o2_16 eo2_16 ?_
  refine w_lconst (pc := 55) (v := (1 : Int64)) G dB_volumeSquared_55 (by decide) ?_
  refine w_lstore_n (pc := 56) (lv' := [(1, .long (1 : Int64)), (0, .ref (κ.1 38))]) G dB_volumeSquared_56 rfl (by decide) rfl ?_
  refine w_iconst (pc := 57) (v := (0 : Int32)) G dB_volumeSquared_57 (by decide) ?_
  refine w_istore_n (pc := 58) (lv' := [(3, .int (0 : Int32)), (1, .long (1 : Int64)), (0, .ref (κ.1 38))]) G dB_volumeSquared_58 rfl (by decide) rfl ?_
  refine w_sub (lv' := [(0, .ref (κ.1 38)), (1, .long (1 : Int64)), (3, .int (0 : Int32))]) [2, 1, 0] rfl ?_
  obtain ⟨o59_26, eo59_26, h⟩ := bd h
  refine lB_volumeSquared_59_ok G τ F  F (1 : Int64) (0 : Int32) o2_16 o59_26 eo59_26 ?_
  refine w_lload_n (pc := 94) (q := 0) G dB_volumeSquared_94 rfl rfl ?_
  obtain rfl := Option.some.inj h
  exact w_lret (pc := 95) G dB_volumeSquared_95 Fh
