noncomputable def B_rec_T (F : Nat) (x_bR : Nat → Nat → Int64) (x_bD : Nat → Nat → Int64) (x_bQ : Nat → Int64) (x_bW : Nat → Int64) (x_tb : Int64) : Nat → Int64 → (Nat → Nat → Int64) → (Nat → Int32) → Option ((Nat → Nat → Int64) × (Nat → Int32))
  | 0, v, x_bS, x_ts => B_desc_T F (fun _ _ _ _ _ _ => none) x_bD x_bW x_bS x_tb x_ts (nI 0) v
  | n + 1, v, x_bS, x_ts => B_desc_T F (fun k a b u y_bS y_ts => B_walk_T F (fun _ w z_bS z_ts => B_rec_T F x_bR x_bD x_bQ x_bW x_tb n w z_bS z_ts) x_bR x_bD x_bQ y_bS x_tb y_ts k a b u) x_bD x_bW x_bS x_tb x_ts (nI (n + 1)) v
set_option maxHeartbeats 8000000 in
theorem met_B_rec_T (κ : ctx) (τ : MS) (F : Nat) {x_added : Nat → Nat → Int64} {x_asked : Nat → Int64} {x_eR : Nat → Nat → Int64} {x_et : Nat → Int64} {x_oR : Nat → Nat → Int64} {x_ot : Nat → Int64} {x_bR : Nat → Nat → Int64} {x_bD : Nat → Nat → Int64} {x_bQ : Nat → Int64} {x_bW : Nat → Int64} {x_bM : Nat → Nat → Int64} {x_bT : Nat → Int64} {x_bn : Int32} {x_tg : Nat → Int64} {x_tb : Int64} {x_fg : Nat → Int64} {x_fb : Int64} {x_fV : Nat → Nat → Int64} {x_fS : Nat → Int64} {x_fn : Int32} {x_cg : Nat → Int64} {x_cb : Int64} {x_cB : Nat → Int64} {x_cq : Int64} {x_vHeld : Int32} {x_vRed : Int32} {x_vTal : Int32} {x_vLis : Int32} : ∀ (n : Nat) (x_bS : Nat → Nat → Int64) (x_ts : Nat → Int32) (v : Int64) (out : (Nat → Nat → Int64) × (Nat → Int32)), B_rec_T F x_bR x_bD x_bQ x_bW x_tb n v x_bS x_ts = some out → Mt yB_descend cB_descend 8 none (rmDn (n + 1)) κ [.ref (κ.1 38), .int (nI n), .long v, .ref (κ.1 63)] (LM κ τ (LC κ (x_added, x_asked, x_eR, x_et, x_oR, x_ot, x_bR, x_bD, x_bQ, x_bW, x_bS, x_bM, x_bT, x_bn, x_tg, x_tb, x_ts, x_fg, x_fb, x_fV, x_fS, x_fn, x_cg, x_cb, x_cB, x_cq, x_vHeld, x_vRed, x_vTal, x_vLis))) none (LM κ τ (LC κ (x_added, x_asked, x_eR, x_et, x_oR, x_ot, x_bR, x_bD, x_bQ, x_bW, out.1, x_bM, x_bT, x_bn, x_tg, x_tb, out.2, x_fg, x_fb, x_fV, x_fS, x_fn, x_cg, x_cb, x_cB, x_cq, x_vHeld, x_vRed, x_vTal, x_vLis))) := by
  intro n
  induction n with
  | zero =>
    intro x_bS x_ts v out h
    rw [B_rec_T] at h
    exact met_B_desc_T κ τ F 0 _ (nI 0) v (fun y_bS y_ts a b u out2 h2 => by cases h2) h
  | succ n ih =>
    intro x_bS x_ts v out h
    rw [B_rec_T] at h
    refine met_B_desc_T κ τ F (n + 1) _ (nI (n + 1)) v (fun y_bS y_ts a b u out2 h2 => ?_) h
    have e : nI (n + 1) - (1 : Int32) = nI n := nI_pred n
    rw [e] at h2 ⊢
    exact met_B_walk_T κ τ F (n + 1) _ (nI n) a b u (fun z_bS z_ts w out3 h3 => ih z_bS z_ts w out3 h3) h2
theorem met_B_recx_T (κ : ctx) (τ : MS) (F : Nat) {x_added : Nat → Nat → Int64} {x_asked : Nat → Int64} {x_eR : Nat → Nat → Int64} {x_et : Nat → Int64} {x_oR : Nat → Nat → Int64} {x_ot : Nat → Int64} {x_bR : Nat → Nat → Int64} {x_bD : Nat → Nat → Int64} {x_bQ : Nat → Int64} {x_bW : Nat → Int64} {x_bM : Nat → Nat → Int64} {x_bT : Nat → Int64} {x_bn : Int32} {x_tg : Nat → Int64} {x_tb : Int64} {x_fg : Nat → Int64} {x_fb : Int64} {x_fV : Nat → Nat → Int64} {x_fS : Nat → Int64} {x_fn : Int32} {x_cg : Nat → Int64} {x_cb : Int64} {x_cB : Nat → Int64} {x_cq : Int64} {x_vHeld : Int32} {x_vRed : Int32} {x_vTal : Int32} {x_vLis : Int32} (x : Int32) (hx : vp_in x 5) (x_bS : Nat → Nat → Int64) (x_ts : Nat → Int32) (v : Int64) (out : (Nat → Nat → Int64) × (Nat → Int32)) (h : B_rec_T F x_bR x_bD x_bQ x_bW x_tb x.toNatClampNeg v x_bS x_ts = some out) : Mt yB_descend cB_descend 8 none (rmDn (x.toNatClampNeg + 1)) κ [.ref (κ.1 38), .int x, .long v, .ref (κ.1 63)] (LM κ τ (LC κ (x_added, x_asked, x_eR, x_et, x_oR, x_ot, x_bR, x_bD, x_bQ, x_bW, x_bS, x_bM, x_bT, x_bn, x_tg, x_tb, x_ts, x_fg, x_fb, x_fV, x_fS, x_fn, x_cg, x_cb, x_cB, x_cq, x_vHeld, x_vRed, x_vTal, x_vLis))) none (LM κ τ (LC κ (x_added, x_asked, x_eR, x_et, x_oR, x_ot, x_bR, x_bD, x_bQ, x_bW, out.1, x_bM, x_bT, x_bn, x_tg, x_tb, out.2, x_fg, x_fb, x_fV, x_fS, x_fn, x_cg, x_cb, x_cB, x_cq, x_vHeld, x_vRed, x_vTal, x_vLis))) := by
  have e : nI x.toNatClampNeg = x := by
    obtain ⟨j, hj, rfl⟩ := vp_in_of hx (by decide)
    rw [nI_clamp (by omega)]
  have q := met_B_rec_T (x_added := x_added) (x_asked := x_asked) (x_eR := x_eR) (x_et := x_et) (x_oR := x_oR) (x_ot := x_ot) (x_bR := x_bR) (x_bD := x_bD) (x_bQ := x_bQ) (x_bW := x_bW) (x_bM := x_bM) (x_bT := x_bT) (x_bn := x_bn) (x_tg := x_tg) (x_tb := x_tb) (x_fg := x_fg) (x_fb := x_fb) (x_fV := x_fV) (x_fS := x_fS) (x_fn := x_fn) (x_cg := x_cg) (x_cb := x_cb) (x_cB := x_cB) (x_cq := x_cq) (x_vHeld := x_vHeld) (x_vRed := x_vRed) (x_vTal := x_vTal) (x_vLis := x_vLis) κ τ F x.toNatClampNeg x_bS x_ts v out h
  rw [e] at q
  exact q
def rm_B_search_T : Room := { frames := 15, cells := 0, slots := 0, locals := 517 }
theorem dB_search_0 : decode cB_search 0 = .ok (.aload_n 0, 1) := by decide +kernel
theorem dB_search_1 : decode cB_search 1 = .ok (.getfield 26, 3) := by decide +kernel
theorem dB_search_4 : decode cB_search 4 = .ok (.aload_n 0, 1) := by decide +kernel
theorem dB_search_5 : decode cB_search 5 = .ok (.getfield 35, 3) := by decide +kernel
theorem dB_search_8 : decode cB_search 8 = .ok (.aaload, 1) := by decide +kernel
theorem dB_search_9 : decode cB_search 9 = .ok (.lconst 0, 1) := by decide +kernel
theorem dB_search_10 : decode cB_search 10 = .ok (.invokestatic 115, 3) := by decide +kernel
theorem dB_search_13 : decode cB_search 13 = .ok (.aload_n 0, 1) := by decide +kernel
theorem dB_search_14 : decode cB_search 14 = .ok (.getfield 26, 3) := by decide +kernel
theorem dB_search_17 : decode cB_search 17 = .ok (.aload_n 0, 1) := by decide +kernel
theorem dB_search_18 : decode cB_search 18 = .ok (.getfield 35, 3) := by decide +kernel
theorem dB_search_21 : decode cB_search 21 = .ok (.aaload, 1) := by decide +kernel
theorem dB_search_22 : decode cB_search 22 = .ok (.aload_n 1, 1) := by decide +kernel
theorem dB_search_23 : decode cB_search 23 = .ok (.invokevirtual 121, 3) := by decide +kernel
theorem dB_search_26 : decode cB_search 26 = .ok (.ldc2_w 127, 3) := by decide +kernel
theorem dB_search_29 : decode cB_search 29 = .ok (.invokestatic 95, 3) := by decide +kernel
theorem dB_search_32 : decode cB_search 32 = .ok (.aload_n 0, 1) := by decide +kernel
theorem dB_search_33 : decode cB_search 33 = .ok (.aload_n 0, 1) := by decide +kernel
theorem dB_search_34 : decode cB_search 34 = .ok (.getfield 35, 3) := by decide +kernel
theorem dB_search_37 : decode cB_search 37 = .ok (.aload_n 0, 1) := by decide +kernel
theorem dB_search_38 : decode cB_search 38 = .ok (.aload_n 1, 1) := by decide +kernel
theorem dB_search_39 : decode cB_search 39 = .ok (.invokevirtual 121, 3) := by decide +kernel
theorem dB_search_42 : decode cB_search 42 = .ok (.invokevirtual 129, 3) := by decide +kernel
theorem dB_search_45 : decode cB_search 45 = .ok (.aload_n 1, 1) := by decide +kernel
theorem dB_search_46 : decode cB_search 46 = .ok (.invokevirtual 133, 3) := by decide +kernel
theorem dB_search_49 : decode cB_search 49 = .ok (.return_, 1) := by decide +kernel
theorem cb_V_addMultiple_B_search_T : CB yV_addMultiple cV_addMultiple 5 none rm_V_addMultiple rm_B_search_T 3 := ⟨wd187, wd1, by decide +kernel, rfl, rfl, by decide⟩
theorem cb_B_squareOutside_T_B_search_T : CB yB_squareOutside cB_squareOutside 7 (some .long) rm_B_squareOutside_T rm_B_search_T 1 := ⟨wd375, wd3, by decide +kernel, rfl, rfl, by decide⟩
theorem cb_K_goal_T_B_search_T : CB yK_goal cK_goal 1 (some (.array .long)) rm_K_goal_T rm_B_search_T 0 := ⟨wd370, wd4, by decide +kernel, rfl, rfl, by decide⟩
theorem cb_JA_fillJ_B_search_T : CB yJA_fillJ cJA_fillJ 5 none rm_JA_fillJ rm_B_search_T 2 := ⟨wd217, wd11, by decide +kernel, rfl, rfl, by decide⟩
theorem cbDS_T (n : Nat) (hn : n < 5) : CB yB_descend cB_descend 8 none (rmDn (n + 1)) rm_B_search_T 3 := ⟨wd380, wd3, by decide +kernel, rfl, rfl, by simp only [rmDn, rm_B_search_T]; omega⟩
noncomputable def B_search_T (F : Nat)  (x_bR : Nat → Nat → Int64) (x_bD : Nat → Nat → Int64) (x_bQ : Nat → Int64) (x_bW : Nat → Int64) (x_bS : Nat → Nat → Int64) (x_bn : Int32) (x_tg : Nat → Int64) (x_tb : Int64) (x_ts : Nat → Int32)  : Option ((Nat → Nat → Int64) × (Nat → Int32)) := gd (vp_in x_bn 5) ((JA_fillJ F (x_bS x_bn.toNatClampNeg) (0 : Int64)).bind (fun r10 => gd (vp_in x_bn 5) ((K_goal F  ).bind (fun r23 => (V_addMultiple F ((va_up x_bS x_bn.toNatClampNeg r10) x_bn.toNatClampNeg) x_tg (-1 : Int64)).bind (fun r29 => (K_goal F  ).bind (fun r39 => (B_squareOutside F x_bD x_bQ x_bn x_tg ).bind (fun r42 => gd (vp_in x_bn 5) ((B_rec_T F x_bR x_bD x_bQ x_bW x_tb x_bn.toNatClampNeg r42 (va_up (va_up x_bS x_bn.toNatClampNeg r10) x_bn.toNatClampNeg r29) x_ts).bind (fun r46 => some (r46.1, r46.2))))))))))
set_option maxHeartbeats 8000000 in
set_option maxRecDepth 100000 in
theorem met_B_search_T (κ : ctx) (τ : MS) (F : Nat) {x_added : Nat → Nat → Int64} {x_asked : Nat → Int64} {x_eR : Nat → Nat → Int64} {x_et : Nat → Int64} {x_oR : Nat → Nat → Int64} {x_ot : Nat → Int64} {x_bR : Nat → Nat → Int64} {x_bD : Nat → Nat → Int64} {x_bQ : Nat → Int64} {x_bW : Nat → Int64} {x_bS : Nat → Nat → Int64} {x_bM : Nat → Nat → Int64} {x_bT : Nat → Int64} {x_bn : Int32} {x_tg : Nat → Int64} {x_tb : Int64} {x_ts : Nat → Int32} {x_fg : Nat → Int64} {x_fb : Int64} {x_fV : Nat → Nat → Int64} {x_fS : Nat → Int64} {x_fn : Int32} {x_cg : Nat → Int64} {x_cb : Int64} {x_cB : Nat → Int64} {x_cq : Int64} {x_vHeld : Int32} {x_vRed : Int32} {x_vTal : Int32} {x_vLis : Int32}  {out : (Nat → Nat → Int64) × (Nat → Int32)} (h : B_search_T F  x_bR x_bD x_bQ x_bW x_bS x_bn x_tg x_tb x_ts  = some out) : Mt yB_search cB_search 2 none rm_B_search_T κ [.ref (κ.1 38), .ref (κ.1 63)] (LM κ τ (LC κ (x_added, x_asked, x_eR, x_et, x_oR, x_ot, x_bR, x_bD, x_bQ, x_bW, x_bS, x_bM, x_bT, x_bn, x_tg, x_tb, x_ts, x_fg, x_fb, x_fV, x_fS, x_fn, x_cg, x_cb, x_cB, x_cq, x_vHeld, x_vRed, x_vTal, x_vLis))) none (LM κ τ (LC κ (x_added, x_asked, x_eR, x_et, x_oR, x_ot, x_bR, x_bD, x_bQ, x_bW, out.1, x_bM, x_bT, x_bn, x_tg, x_tb, out.2, x_fg, x_fb, x_fV, x_fS, x_fn, x_cg, x_cb, x_cB, x_cq, x_vHeld, x_vRed, x_vTal, x_vLis))) := by
  refine Mt.of (by decide) (Nat.le_of_ble_eq_true rfl) ?_
  intro g G Fh
  unfold B_search_T at h
  show J g κ 2 0 [(0, .ref (κ.1 38)), (1, .ref (κ.1 63))] [] (LM κ τ (LC κ (x_added, x_asked, x_eR, x_et, x_oR, x_ot, x_bR, x_bD, x_bQ, x_bW, x_bS, x_bM, x_bT, x_bn, x_tg, x_tb, x_ts, x_fg, x_fb, x_fV, x_fS, x_fn, x_cg, x_cb, x_cB, x_cq, x_vHeld, x_vRed, x_vTal, x_vLis)))
  refine w_aload_n (pc := 0) (q := 0) G dB_search_0 rfl rfl ?_
  refine w_get (pc := 1) (v := .ref (κ.1 51)) (fs := fl_B κ (x_added, x_asked, x_eR, x_et, x_oR, x_ot, x_bR, x_bD, x_bQ, x_bW, x_bS, x_bM, x_bT, x_bn, x_tg, x_tb, x_ts, x_fg, x_fb, x_fV, x_fS, x_fn, x_cg, x_cb, x_cB, x_cq, x_vHeld, x_vRed, x_vTal, x_vLis)) G 38 (by decide) lb_B rfl wsB_ok 4 (by decide) wd48 gf_B_4 dB_search_1 ?_
  refine w_aload_n (pc := 4) (q := 0) G dB_search_4 rfl rfl ?_
  refine w_get (pc := 5) (v := .int x_bn) (fs := fl_B κ (x_added, x_asked, x_eR, x_et, x_oR, x_ot, x_bR, x_bD, x_bQ, x_bW, x_bS, x_bM, x_bT, x_bn, x_tg, x_tb, x_ts, x_fg, x_fb, x_fV, x_fS, x_fn, x_cg, x_cb, x_cB, x_cq, x_vHeld, x_vRed, x_vTal, x_vLis)) G 38 (by decide) lb_B rfl wsB_ok 7 (by decide) wd51 gf_B_7 dB_search_5 ?_
  obtain ⟨i8, h⟩ := gd_some h
  refine w_aald (pc := 8) (n := 5) (f := og κ 52 5) (b := κ.1 (52 + x_bn.toNatClampNeg)) G 51 (by decide) lo_bS i8 (og_at (ixlt i8)) dB_search_8 ?_
  refine w_lconst (pc := 9) (v := (0 : Int64)) G dB_search_9 (by decide) ?_
  obtain ⟨r10, e10, h⟩ := bd h
  refine w_callS (pc := 10) (av := [.ref (κ.1 (52 + x_bn.toNatClampNeg)), .long (0 : Int64)]) (rest := []) (v := none) (L' := (LM κ τ (LC κ (x_added, x_asked, x_eR, x_et, x_oR, x_ot, x_bR, x_bD, x_bQ, x_bW, va_up x_bS x_bn.toNatClampNeg r10, x_bM, x_bT, x_bn, x_tg, x_tb, x_ts, x_fg, x_fb, x_fV, x_fS, x_fn, x_cg, x_cb, x_cB, x_cq, x_vHeld, x_vRed, x_vTal, x_vLis)))) G cb_JA_fillJ_B_search_T wd216 wd363 (Mt.eqw (up_bS (ixlt i8)) (met_JA_fillJ κ (LM κ τ (LC κ (x_added, x_asked, x_eR, x_et, x_oR, x_ot, x_bR, x_bD, x_bQ, x_bW, x_bS, x_bM, x_bT, x_bn, x_tg, x_tb, x_ts, x_fg, x_fb, x_fV, x_fS, x_fn, x_cg, x_cb, x_cB, x_cq, x_vHeld, x_vRed, x_vTal, x_vLis))) F (0 : Int64) (52 + x_bn.toNatClampNeg) (nw_bS (ixlt i8)) (x_bS x_bn.toNatClampNeg) (lk_bS (ixlt i8)) e10)) rfl rfl rfl (Nat.le_of_ble_eq_true rfl) dB_search_10 ?_
  refine w_aload_n (pc := 13) (q := 0) G dB_search_13 rfl rfl ?_
  refine w_get (pc := 14) (v := .ref (κ.1 51)) (fs := fl_B κ (x_added, x_asked, x_eR, x_et, x_oR, x_ot, x_bR, x_bD, x_bQ, x_bW, va_up x_bS x_bn.toNatClampNeg r10, x_bM, x_bT, x_bn, x_tg, x_tb, x_ts, x_fg, x_fb, x_fV, x_fS, x_fn, x_cg, x_cb, x_cB, x_cq, x_vHeld, x_vRed, x_vTal, x_vLis)) G 38 (by decide) lb_B rfl wsB_ok 4 (by decide) wd48 gf_B_4 dB_search_14 ?_
  refine w_aload_n (pc := 17) (q := 0) G dB_search_17 rfl rfl ?_
  refine w_get (pc := 18) (v := .int x_bn) (fs := fl_B κ (x_added, x_asked, x_eR, x_et, x_oR, x_ot, x_bR, x_bD, x_bQ, x_bW, va_up x_bS x_bn.toNatClampNeg r10, x_bM, x_bT, x_bn, x_tg, x_tb, x_ts, x_fg, x_fb, x_fV, x_fS, x_fn, x_cg, x_cb, x_cB, x_cq, x_vHeld, x_vRed, x_vTal, x_vLis)) G 38 (by decide) lb_B rfl wsB_ok 7 (by decide) wd51 gf_B_7 dB_search_18 ?_
  obtain ⟨i21, h⟩ := gd_some h
  refine w_aald (pc := 21) (n := 5) (f := og κ 52 5) (b := κ.1 (52 + x_bn.toNatClampNeg)) G 51 (by decide) lo_bS i21 (og_at (ixlt i21)) dB_search_21 ?_
  refine w_aload_n (pc := 22) (q := 1) G dB_search_22 rfl rfl ?_
  obtain ⟨r23, e23, h⟩ := bd h
  refine w_callU (pc := 23) (av := []) (rest := [.ref (κ.1 (52 + x_bn.toNatClampNeg))]) (v := some (.ref (κ.1 64))) (L' := (LM κ τ (LC κ (x_added, x_asked, x_eR, x_et, x_oR, x_ot, x_bR, x_bD, x_bQ, x_bW, va_up x_bS x_bn.toNatClampNeg r10, x_bM, x_bT, x_bn, x_tg, x_tb, x_ts, x_fg, x_fb, x_fV, x_fS, x_fn, x_cg, x_cb, x_cB, x_cq, x_vHeld, x_vRed, x_vTal, x_vLis)))) (T := TT) (fs := fl_T κ (x_added, x_asked, x_eR, x_et, x_oR, x_ot, x_bR, x_bD, x_bQ, x_bW, va_up x_bS x_bn.toNatClampNeg r10, x_bM, x_bT, x_bn, x_tg, x_tb, x_ts, x_fg, x_fb, x_fV, x_fS, x_fn, x_cg, x_cb, x_cB, x_cq, x_vHeld, x_vRed, x_vTal, x_vLis)) G 63 4 3 (by decide) lb_T rfl cb_K_goal_T_B_search_T wd364 wd366 wd369 wd365 wd465 (by decide) rfl (met_K_goal_T κ τ F   e23) rfl rfl rfl (Nat.le_of_ble_eq_true rfl) dB_search_23 ?_
  refine w_ldc2 (pc := 26) (v := (-1 : Int64)) G wd371 dB_search_26 ?_
  obtain ⟨r29, e29, h⟩ := bd h
  refine w_callSN (pc := 29) (av := [.ref (κ.1 (52 + x_bn.toNatClampNeg)), .ref (κ.1 64), .long (-1 : Int64)]) (rest := []) (v := none) (L' := (LM κ τ (LC κ (x_added, x_asked, x_eR, x_et, x_oR, x_ot, x_bR, x_bD, x_bQ, x_bW, va_up (va_up x_bS x_bn.toNatClampNeg r10) x_bn.toNatClampNeg r29, x_bM, x_bT, x_bn, x_tg, x_tb, x_ts, x_fg, x_fb, x_fV, x_fS, x_fn, x_cg, x_cb, x_cB, x_cq, x_vHeld, x_vRed, x_vTal, x_vLis)))) G cb_V_addMultiple_B_search_T wd186 wd273 (Mt.eqw (up_bS (ixlt i21)) (met_V_addMultiple κ (LM κ τ (LC κ (x_added, x_asked, x_eR, x_et, x_oR, x_ot, x_bR, x_bD, x_bQ, x_bW, va_up x_bS x_bn.toNatClampNeg r10, x_bM, x_bT, x_bn, x_tg, x_tb, x_ts, x_fg, x_fb, x_fV, x_fS, x_fn, x_cg, x_cb, x_cB, x_cq, x_vHeld, x_vRed, x_vTal, x_vLis))) F (-1 : Int64) (52 + x_bn.toNatClampNeg) (nw_bS (ixlt i21)) ((va_up x_bS x_bn.toNatClampNeg r10) x_bn.toNatClampNeg) (lk_bS (ixlt i21)) 64 (by decide) x_tg lk_tg (by have := (ixlt i21); omega) e29)) rfl rfl rfl (Nat.le_of_ble_eq_true rfl) dB_search_29 ?_
  refine w_aload_n (pc := 32) (q := 0) G dB_search_32 rfl rfl ?_
  refine w_aload_n (pc := 33) (q := 0) G dB_search_33 rfl rfl ?_
  refine w_get (pc := 34) (v := .int x_bn) (fs := fl_B κ (x_added, x_asked, x_eR, x_et, x_oR, x_ot, x_bR, x_bD, x_bQ, x_bW, va_up (va_up x_bS x_bn.toNatClampNeg r10) x_bn.toNatClampNeg r29, x_bM, x_bT, x_bn, x_tg, x_tb, x_ts, x_fg, x_fb, x_fV, x_fS, x_fn, x_cg, x_cb, x_cB, x_cq, x_vHeld, x_vRed, x_vTal, x_vLis)) G 38 (by decide) lb_B rfl wsB_ok 7 (by decide) wd51 gf_B_7 dB_search_34 ?_
  refine w_aload_n (pc := 37) (q := 0) G dB_search_37 rfl rfl ?_
  refine w_aload_n (pc := 38) (q := 1) G dB_search_38 rfl rfl ?_
  obtain ⟨r39, e39, h⟩ := bd h
  refine w_callU (pc := 39) (av := []) (rest := [.ref (κ.1 38), .int x_bn, .ref (κ.1 38)]) (v := some (.ref (κ.1 64))) (L' := (LM κ τ (LC κ (x_added, x_asked, x_eR, x_et, x_oR, x_ot, x_bR, x_bD, x_bQ, x_bW, va_up (va_up x_bS x_bn.toNatClampNeg r10) x_bn.toNatClampNeg r29, x_bM, x_bT, x_bn, x_tg, x_tb, x_ts, x_fg, x_fb, x_fV, x_fS, x_fn, x_cg, x_cb, x_cB, x_cq, x_vHeld, x_vRed, x_vTal, x_vLis)))) (T := TT) (fs := fl_T κ (x_added, x_asked, x_eR, x_et, x_oR, x_ot, x_bR, x_bD, x_bQ, x_bW, va_up (va_up x_bS x_bn.toNatClampNeg r10) x_bn.toNatClampNeg r29, x_bM, x_bT, x_bn, x_tg, x_tb, x_ts, x_fg, x_fb, x_fV, x_fS, x_fn, x_cg, x_cb, x_cB, x_cq, x_vHeld, x_vRed, x_vTal, x_vLis)) G 63 4 3 (by decide) lb_T rfl cb_K_goal_T_B_search_T wd364 wd366 wd369 wd365 wd465 (by decide) rfl (met_K_goal_T κ τ F   e39) rfl rfl rfl (Nat.le_of_ble_eq_true rfl) dB_search_39 ?_
  obtain ⟨r42, e42, h⟩ := bd h
  refine w_callV (pc := 42) (av := [.ref (κ.1 64)]) (rest := [.int x_bn, .ref (κ.1 38)]) (v := some (.long r42)) (L' := (LM κ τ (LC κ (x_added, x_asked, x_eR, x_et, x_oR, x_ot, x_bR, x_bD, x_bQ, x_bW, va_up (va_up x_bS x_bn.toNatClampNeg r10) x_bn.toNatClampNeg r29, x_bM, x_bT, x_bn, x_tg, x_tb, x_ts, x_fg, x_fb, x_fV, x_fS, x_fn, x_cg, x_cb, x_cB, x_cq, x_vHeld, x_vRed, x_vTal, x_vLis)))) (T := TB) (fs := fl_B κ (x_added, x_asked, x_eR, x_et, x_oR, x_ot, x_bR, x_bD, x_bQ, x_bW, va_up (va_up x_bS x_bn.toNatClampNeg r10) x_bn.toNatClampNeg r29, x_bM, x_bT, x_bn, x_tg, x_tb, x_ts, x_fg, x_fb, x_fV, x_fS, x_fn, x_cg, x_cb, x_cB, x_cq, x_vHeld, x_vRed, x_vTal, x_vLis)) G 38 3 8 (by decide) lb_B rfl cb_B_squareOutside_T_B_search_T wd374 ws14 wd372 (met_B_squareOutside_T κ τ F   e42) rfl rfl rfl (Nat.le_of_ble_eq_true rfl) dB_search_42 ?_
  refine w_aload_n (pc := 45) (q := 1) G dB_search_45 rfl rfl ?_
  obtain ⟨iS46, h⟩ := gd_some h
  obtain ⟨r46, e46, h⟩ := bd h
  refine w_callV (pc := 46) (av := [.int x_bn, .long r42, .ref (κ.1 63)]) (rest := []) (v := none) (L' := (LM κ τ (LC κ (x_added, x_asked, x_eR, x_et, x_oR, x_ot, x_bR, x_bD, x_bQ, x_bW, r46.1, x_bM, x_bT, x_bn, x_tg, x_tb, r46.2, x_fg, x_fb, x_fV, x_fS, x_fn, x_cg, x_cb, x_cB, x_cq, x_vHeld, x_vRed, x_vTal, x_vLis)))) (T := TB) (fs := fl_B κ (x_added, x_asked, x_eR, x_et, x_oR, x_ot, x_bR, x_bD, x_bQ, x_bW, va_up (va_up x_bS x_bn.toNatClampNeg r10) x_bn.toNatClampNeg r29, x_bM, x_bT, x_bn, x_tg, x_tb, x_ts, x_fg, x_fb, x_fV, x_fS, x_fn, x_cg, x_cb, x_cB, x_cq, x_vHeld, x_vRed, x_vTal, x_vLis)) G 38 3 8 (by decide) lb_B rfl (cbDS_T x_bn.toNatClampNeg (ixlt iS46)) wd379 ws15 wd377 (met_B_recx_T κ τ F x_bn iS46 (va_up (va_up x_bS x_bn.toNatClampNeg r10) x_bn.toNatClampNeg r29) x_ts r42 _ e46) rfl rfl rfl (Nat.le_of_ble_eq_true rfl) dB_search_46 ?_
  obtain rfl := Option.some.inj h
  exact w_vret (pc := 49) G dB_search_49 Fh
noncomputable def B_rec_F (F : Nat) (x_bR : Nat → Nat → Int64) (x_bD : Nat → Nat → Int64) (x_bQ : Nat → Int64) (x_bW : Nat → Int64) : Nat → Int64 → (Nat → Nat → Int64) → Int64 → (Nat → Nat → Int64) → (Nat → Int64) → Int32 → Option ((Nat → Nat → Int64) × Int64 × (Nat → Nat → Int64) × (Nat → Int64) × Int32)
  | 0, v, x_bS, x_fb, x_fV, x_fS, x_fn => B_desc_F F (fun _ _ _ _ _ _ _ _ _ => none) x_bD x_bW x_bS x_fb x_fV x_fS x_fn (nI 0) v
  | n + 1, v, x_bS, x_fb, x_fV, x_fS, x_fn => B_desc_F F (fun k a b u y_bS y_fb y_fV y_fS y_fn => B_walk_F F (fun _ w z_bS z_fb z_fV z_fS z_fn => B_rec_F F x_bR x_bD x_bQ x_bW n w z_bS z_fb z_fV z_fS z_fn) x_bR x_bD x_bQ y_bS y_fb y_fV y_fS y_fn k a b u) x_bD x_bW x_bS x_fb x_fV x_fS x_fn (nI (n + 1)) v
set_option maxHeartbeats 8000000 in
theorem met_B_rec_F (κ : ctx) (τ : MS) (F : Nat) {x_added : Nat → Nat → Int64} {x_asked : Nat → Int64} {x_eR : Nat → Nat → Int64} {x_et : Nat → Int64} {x_oR : Nat → Nat → Int64} {x_ot : Nat → Int64} {x_bR : Nat → Nat → Int64} {x_bD : Nat → Nat → Int64} {x_bQ : Nat → Int64} {x_bW : Nat → Int64} {x_bM : Nat → Nat → Int64} {x_bT : Nat → Int64} {x_bn : Int32} {x_tg : Nat → Int64} {x_tb : Int64} {x_ts : Nat → Int32} {x_fg : Nat → Int64} {x_cg : Nat → Int64} {x_cb : Int64} {x_cB : Nat → Int64} {x_cq : Int64} {x_vHeld : Int32} {x_vRed : Int32} {x_vTal : Int32} {x_vLis : Int32} : ∀ (n : Nat) (x_bS : Nat → Nat → Int64) (x_fb : Int64) (x_fV : Nat → Nat → Int64) (x_fS : Nat → Int64) (x_fn : Int32) (v : Int64) (out : (Nat → Nat → Int64) × Int64 × (Nat → Nat → Int64) × (Nat → Int64) × Int32), B_rec_F F x_bR x_bD x_bQ x_bW n v x_bS x_fb x_fV x_fS x_fn = some out → Mt yB_descend cB_descend 8 none (rmDn (n + 1)) κ [.ref (κ.1 38), .int (nI n), .long v, .ref (κ.1 66)] (LM κ τ (LC κ (x_added, x_asked, x_eR, x_et, x_oR, x_ot, x_bR, x_bD, x_bQ, x_bW, x_bS, x_bM, x_bT, x_bn, x_tg, x_tb, x_ts, x_fg, x_fb, x_fV, x_fS, x_fn, x_cg, x_cb, x_cB, x_cq, x_vHeld, x_vRed, x_vTal, x_vLis))) none (LM κ τ (LC κ (x_added, x_asked, x_eR, x_et, x_oR, x_ot, x_bR, x_bD, x_bQ, x_bW, out.1, x_bM, x_bT, x_bn, x_tg, x_tb, x_ts, x_fg, out.2.1, out.2.2.1, out.2.2.2.1, out.2.2.2.2, x_cg, x_cb, x_cB, x_cq, x_vHeld, x_vRed, x_vTal, x_vLis))) := by
  intro n
  induction n with
  | zero =>
    intro x_bS x_fb x_fV x_fS x_fn v out h
    rw [B_rec_F] at h
    exact met_B_desc_F κ τ F 0 _ (nI 0) v (fun y_bS y_fb y_fV y_fS y_fn a b u out2 h2 => by cases h2) h
  | succ n ih =>
    intro x_bS x_fb x_fV x_fS x_fn v out h
    rw [B_rec_F] at h
    refine met_B_desc_F κ τ F (n + 1) _ (nI (n + 1)) v (fun y_bS y_fb y_fV y_fS y_fn a b u out2 h2 => ?_) h
    have e : nI (n + 1) - (1 : Int32) = nI n := nI_pred n
    rw [e] at h2 ⊢
    exact met_B_walk_F κ τ F (n + 1) _ (nI n) a b u (fun z_bS z_fb z_fV z_fS z_fn w out3 h3 => ih z_bS z_fb z_fV z_fS z_fn w out3 h3) h2
theorem met_B_recx_F (κ : ctx) (τ : MS) (F : Nat) {x_added : Nat → Nat → Int64} {x_asked : Nat → Int64} {x_eR : Nat → Nat → Int64} {x_et : Nat → Int64} {x_oR : Nat → Nat → Int64} {x_ot : Nat → Int64} {x_bR : Nat → Nat → Int64} {x_bD : Nat → Nat → Int64} {x_bQ : Nat → Int64} {x_bW : Nat → Int64} {x_bM : Nat → Nat → Int64} {x_bT : Nat → Int64} {x_bn : Int32} {x_tg : Nat → Int64} {x_tb : Int64} {x_ts : Nat → Int32} {x_fg : Nat → Int64} {x_cg : Nat → Int64} {x_cb : Int64} {x_cB : Nat → Int64} {x_cq : Int64} {x_vHeld : Int32} {x_vRed : Int32} {x_vTal : Int32} {x_vLis : Int32} (x : Int32) (hx : vp_in x 5) (x_bS : Nat → Nat → Int64) (x_fb : Int64) (x_fV : Nat → Nat → Int64) (x_fS : Nat → Int64) (x_fn : Int32) (v : Int64) (out : (Nat → Nat → Int64) × Int64 × (Nat → Nat → Int64) × (Nat → Int64) × Int32) (h : B_rec_F F x_bR x_bD x_bQ x_bW x.toNatClampNeg v x_bS x_fb x_fV x_fS x_fn = some out) : Mt yB_descend cB_descend 8 none (rmDn (x.toNatClampNeg + 1)) κ [.ref (κ.1 38), .int x, .long v, .ref (κ.1 66)] (LM κ τ (LC κ (x_added, x_asked, x_eR, x_et, x_oR, x_ot, x_bR, x_bD, x_bQ, x_bW, x_bS, x_bM, x_bT, x_bn, x_tg, x_tb, x_ts, x_fg, x_fb, x_fV, x_fS, x_fn, x_cg, x_cb, x_cB, x_cq, x_vHeld, x_vRed, x_vTal, x_vLis))) none (LM κ τ (LC κ (x_added, x_asked, x_eR, x_et, x_oR, x_ot, x_bR, x_bD, x_bQ, x_bW, out.1, x_bM, x_bT, x_bn, x_tg, x_tb, x_ts, x_fg, out.2.1, out.2.2.1, out.2.2.2.1, out.2.2.2.2, x_cg, x_cb, x_cB, x_cq, x_vHeld, x_vRed, x_vTal, x_vLis))) := by
  have e : nI x.toNatClampNeg = x := by
    obtain ⟨j, hj, rfl⟩ := vp_in_of hx (by decide)
    rw [nI_clamp (by omega)]
  have q := met_B_rec_F (x_added := x_added) (x_asked := x_asked) (x_eR := x_eR) (x_et := x_et) (x_oR := x_oR) (x_ot := x_ot) (x_bR := x_bR) (x_bD := x_bD) (x_bQ := x_bQ) (x_bW := x_bW) (x_bM := x_bM) (x_bT := x_bT) (x_bn := x_bn) (x_tg := x_tg) (x_tb := x_tb) (x_ts := x_ts) (x_fg := x_fg) (x_cg := x_cg) (x_cb := x_cb) (x_cB := x_cB) (x_cq := x_cq) (x_vHeld := x_vHeld) (x_vRed := x_vRed) (x_vTal := x_vTal) (x_vLis := x_vLis) κ τ F x.toNatClampNeg x_bS x_fb x_fV x_fS x_fn v out h
  rw [e] at q
  exact q
def rm_B_search_F : Room := { frames := 15, cells := 0, slots := 0, locals := 517 }
theorem cb_V_addMultiple_B_search_F : CB yV_addMultiple cV_addMultiple 5 none rm_V_addMultiple rm_B_search_F 3 := ⟨wd187, wd1, by decide +kernel, rfl, rfl, by decide⟩
theorem cb_B_squareOutside_F_B_search_F : CB yB_squareOutside cB_squareOutside 7 (some .long) rm_B_squareOutside_F rm_B_search_F 1 := ⟨wd375, wd3, by decide +kernel, rfl, rfl, by decide⟩
theorem cb_K_goal_F_B_search_F : CB yK_goal cK_goal 1 (some (.array .long)) rm_K_goal_F rm_B_search_F 0 := ⟨wd370, wd4, by decide +kernel, rfl, rfl, by decide⟩
theorem cb_JA_fillJ_B_search_F : CB yJA_fillJ cJA_fillJ 5 none rm_JA_fillJ rm_B_search_F 2 := ⟨wd217, wd11, by decide +kernel, rfl, rfl, by decide⟩
theorem cbDS_F (n : Nat) (hn : n < 5) : CB yB_descend cB_descend 8 none (rmDn (n + 1)) rm_B_search_F 3 := ⟨wd380, wd3, by decide +kernel, rfl, rfl, by simp only [rmDn, rm_B_search_F]; omega⟩
noncomputable def B_search_F (F : Nat)  (x_bR : Nat → Nat → Int64) (x_bD : Nat → Nat → Int64) (x_bQ : Nat → Int64) (x_bW : Nat → Int64) (x_bS : Nat → Nat → Int64) (x_bn : Int32) (x_fg : Nat → Int64) (x_fb : Int64) (x_fV : Nat → Nat → Int64) (x_fS : Nat → Int64) (x_fn : Int32)  : Option ((Nat → Nat → Int64) × Int64 × (Nat → Nat → Int64) × (Nat → Int64) × Int32) := gd (vp_in x_bn 5) ((JA_fillJ F (x_bS x_bn.toNatClampNeg) (0 : Int64)).bind (fun r10 => gd (vp_in x_bn 5) ((K_goal F  ).bind (fun r23 => (V_addMultiple F ((va_up x_bS x_bn.toNatClampNeg r10) x_bn.toNatClampNeg) x_fg (-1 : Int64)).bind (fun r29 => (K_goal F  ).bind (fun r39 => (B_squareOutside F x_bD x_bQ x_bn x_fg ).bind (fun r42 => gd (vp_in x_bn 5) ((B_rec_F F x_bR x_bD x_bQ x_bW x_bn.toNatClampNeg r42 (va_up (va_up x_bS x_bn.toNatClampNeg r10) x_bn.toNatClampNeg r29) x_fb x_fV x_fS x_fn).bind (fun r46 => some (r46.1, r46.2.1, r46.2.2.1, r46.2.2.2.1, r46.2.2.2.2))))))))))
set_option maxHeartbeats 8000000 in
set_option maxRecDepth 100000 in
theorem met_B_search_F (κ : ctx) (τ : MS) (F : Nat) {x_added : Nat → Nat → Int64} {x_asked : Nat → Int64} {x_eR : Nat → Nat → Int64} {x_et : Nat → Int64} {x_oR : Nat → Nat → Int64} {x_ot : Nat → Int64} {x_bR : Nat → Nat → Int64} {x_bD : Nat → Nat → Int64} {x_bQ : Nat → Int64} {x_bW : Nat → Int64} {x_bS : Nat → Nat → Int64} {x_bM : Nat → Nat → Int64} {x_bT : Nat → Int64} {x_bn : Int32} {x_tg : Nat → Int64} {x_tb : Int64} {x_ts : Nat → Int32} {x_fg : Nat → Int64} {x_fb : Int64} {x_fV : Nat → Nat → Int64} {x_fS : Nat → Int64} {x_fn : Int32} {x_cg : Nat → Int64} {x_cb : Int64} {x_cB : Nat → Int64} {x_cq : Int64} {x_vHeld : Int32} {x_vRed : Int32} {x_vTal : Int32} {x_vLis : Int32}  {out : (Nat → Nat → Int64) × Int64 × (Nat → Nat → Int64) × (Nat → Int64) × Int32} (h : B_search_F F  x_bR x_bD x_bQ x_bW x_bS x_bn x_fg x_fb x_fV x_fS x_fn  = some out) : Mt yB_search cB_search 2 none rm_B_search_F κ [.ref (κ.1 38), .ref (κ.1 66)] (LM κ τ (LC κ (x_added, x_asked, x_eR, x_et, x_oR, x_ot, x_bR, x_bD, x_bQ, x_bW, x_bS, x_bM, x_bT, x_bn, x_tg, x_tb, x_ts, x_fg, x_fb, x_fV, x_fS, x_fn, x_cg, x_cb, x_cB, x_cq, x_vHeld, x_vRed, x_vTal, x_vLis))) none (LM κ τ (LC κ (x_added, x_asked, x_eR, x_et, x_oR, x_ot, x_bR, x_bD, x_bQ, x_bW, out.1, x_bM, x_bT, x_bn, x_tg, x_tb, x_ts, x_fg, out.2.1, out.2.2.1, out.2.2.2.1, out.2.2.2.2, x_cg, x_cb, x_cB, x_cq, x_vHeld, x_vRed, x_vTal, x_vLis))) := by
  refine Mt.of (by decide) (Nat.le_of_ble_eq_true rfl) ?_
  intro g G Fh
  unfold B_search_F at h
  show J g κ 2 0 [(0, .ref (κ.1 38)), (1, .ref (κ.1 66))] [] (LM κ τ (LC κ (x_added, x_asked, x_eR, x_et, x_oR, x_ot, x_bR, x_bD, x_bQ, x_bW, x_bS, x_bM, x_bT, x_bn, x_tg, x_tb, x_ts, x_fg, x_fb, x_fV, x_fS, x_fn, x_cg, x_cb, x_cB, x_cq, x_vHeld, x_vRed, x_vTal, x_vLis)))
  refine w_aload_n (pc := 0) (q := 0) G dB_search_0 rfl rfl ?_
  refine w_get (pc := 1) (v := .ref (κ.1 51)) (fs := fl_B κ (x_added, x_asked, x_eR, x_et, x_oR, x_ot, x_bR, x_bD, x_bQ, x_bW, x_bS, x_bM, x_bT, x_bn, x_tg, x_tb, x_ts, x_fg, x_fb, x_fV, x_fS, x_fn, x_cg, x_cb, x_cB, x_cq, x_vHeld, x_vRed, x_vTal, x_vLis)) G 38 (by decide) lb_B rfl wsB_ok 4 (by decide) wd48 gf_B_4 dB_search_1 ?_
  refine w_aload_n (pc := 4) (q := 0) G dB_search_4 rfl rfl ?_
  refine w_get (pc := 5) (v := .int x_bn) (fs := fl_B κ (x_added, x_asked, x_eR, x_et, x_oR, x_ot, x_bR, x_bD, x_bQ, x_bW, x_bS, x_bM, x_bT, x_bn, x_tg, x_tb, x_ts, x_fg, x_fb, x_fV, x_fS, x_fn, x_cg, x_cb, x_cB, x_cq, x_vHeld, x_vRed, x_vTal, x_vLis)) G 38 (by decide) lb_B rfl wsB_ok 7 (by decide) wd51 gf_B_7 dB_search_5 ?_
  obtain ⟨i8, h⟩ := gd_some h
  refine w_aald (pc := 8) (n := 5) (f := og κ 52 5) (b := κ.1 (52 + x_bn.toNatClampNeg)) G 51 (by decide) lo_bS i8 (og_at (ixlt i8)) dB_search_8 ?_
  refine w_lconst (pc := 9) (v := (0 : Int64)) G dB_search_9 (by decide) ?_
  obtain ⟨r10, e10, h⟩ := bd h
  refine w_callS (pc := 10) (av := [.ref (κ.1 (52 + x_bn.toNatClampNeg)), .long (0 : Int64)]) (rest := []) (v := none) (L' := (LM κ τ (LC κ (x_added, x_asked, x_eR, x_et, x_oR, x_ot, x_bR, x_bD, x_bQ, x_bW, va_up x_bS x_bn.toNatClampNeg r10, x_bM, x_bT, x_bn, x_tg, x_tb, x_ts, x_fg, x_fb, x_fV, x_fS, x_fn, x_cg, x_cb, x_cB, x_cq, x_vHeld, x_vRed, x_vTal, x_vLis)))) G cb_JA_fillJ_B_search_F wd216 wd363 (Mt.eqw (up_bS (ixlt i8)) (met_JA_fillJ κ (LM κ τ (LC κ (x_added, x_asked, x_eR, x_et, x_oR, x_ot, x_bR, x_bD, x_bQ, x_bW, x_bS, x_bM, x_bT, x_bn, x_tg, x_tb, x_ts, x_fg, x_fb, x_fV, x_fS, x_fn, x_cg, x_cb, x_cB, x_cq, x_vHeld, x_vRed, x_vTal, x_vLis))) F (0 : Int64) (52 + x_bn.toNatClampNeg) (nw_bS (ixlt i8)) (x_bS x_bn.toNatClampNeg) (lk_bS (ixlt i8)) e10)) rfl rfl rfl (Nat.le_of_ble_eq_true rfl) dB_search_10 ?_
  refine w_aload_n (pc := 13) (q := 0) G dB_search_13 rfl rfl ?_
  refine w_get (pc := 14) (v := .ref (κ.1 51)) (fs := fl_B κ (x_added, x_asked, x_eR, x_et, x_oR, x_ot, x_bR, x_bD, x_bQ, x_bW, va_up x_bS x_bn.toNatClampNeg r10, x_bM, x_bT, x_bn, x_tg, x_tb, x_ts, x_fg, x_fb, x_fV, x_fS, x_fn, x_cg, x_cb, x_cB, x_cq, x_vHeld, x_vRed, x_vTal, x_vLis)) G 38 (by decide) lb_B rfl wsB_ok 4 (by decide) wd48 gf_B_4 dB_search_14 ?_
  refine w_aload_n (pc := 17) (q := 0) G dB_search_17 rfl rfl ?_
  refine w_get (pc := 18) (v := .int x_bn) (fs := fl_B κ (x_added, x_asked, x_eR, x_et, x_oR, x_ot, x_bR, x_bD, x_bQ, x_bW, va_up x_bS x_bn.toNatClampNeg r10, x_bM, x_bT, x_bn, x_tg, x_tb, x_ts, x_fg, x_fb, x_fV, x_fS, x_fn, x_cg, x_cb, x_cB, x_cq, x_vHeld, x_vRed, x_vTal, x_vLis)) G 38 (by decide) lb_B rfl wsB_ok 7 (by decide) wd51 gf_B_7 dB_search_18 ?_
  obtain ⟨i21, h⟩ := gd_some h
  refine w_aald (pc := 21) (n := 5) (f := og κ 52 5) (b := κ.1 (52 + x_bn.toNatClampNeg)) G 51 (by decide) lo_bS i21 (og_at (ixlt i21)) dB_search_21 ?_
  refine w_aload_n (pc := 22) (q := 1) G dB_search_22 rfl rfl ?_
  obtain ⟨r23, e23, h⟩ := bd h
  refine w_callU (pc := 23) (av := []) (rest := [.ref (κ.1 (52 + x_bn.toNatClampNeg))]) (v := some (.ref (κ.1 67))) (L' := (LM κ τ (LC κ (x_added, x_asked, x_eR, x_et, x_oR, x_ot, x_bR, x_bD, x_bQ, x_bW, va_up x_bS x_bn.toNatClampNeg r10, x_bM, x_bT, x_bn, x_tg, x_tb, x_ts, x_fg, x_fb, x_fV, x_fS, x_fn, x_cg, x_cb, x_cB, x_cq, x_vHeld, x_vRed, x_vTal, x_vLis)))) (T := TF) (fs := fl_F κ (x_added, x_asked, x_eR, x_et, x_oR, x_ot, x_bR, x_bD, x_bQ, x_bW, va_up x_bS x_bn.toNatClampNeg r10, x_bM, x_bT, x_bn, x_tg, x_tb, x_ts, x_fg, x_fb, x_fV, x_fS, x_fn, x_cg, x_cb, x_cB, x_cq, x_vHeld, x_vRed, x_vTal, x_vLis)) G 66 5 5 (by decide) lb_F rfl cb_K_goal_F_B_search_F wd364 wd366 wd368 wd365 wd465 (by decide) rfl (met_K_goal_F κ τ F   e23) rfl rfl rfl (Nat.le_of_ble_eq_true rfl) dB_search_23 ?_
  refine w_ldc2 (pc := 26) (v := (-1 : Int64)) G wd371 dB_search_26 ?_
  obtain ⟨r29, e29, h⟩ := bd h
  refine w_callSN (pc := 29) (av := [.ref (κ.1 (52 + x_bn.toNatClampNeg)), .ref (κ.1 67), .long (-1 : Int64)]) (rest := []) (v := none) (L' := (LM κ τ (LC κ (x_added, x_asked, x_eR, x_et, x_oR, x_ot, x_bR, x_bD, x_bQ, x_bW, va_up (va_up x_bS x_bn.toNatClampNeg r10) x_bn.toNatClampNeg r29, x_bM, x_bT, x_bn, x_tg, x_tb, x_ts, x_fg, x_fb, x_fV, x_fS, x_fn, x_cg, x_cb, x_cB, x_cq, x_vHeld, x_vRed, x_vTal, x_vLis)))) G cb_V_addMultiple_B_search_F wd186 wd273 (Mt.eqw (up_bS (ixlt i21)) (met_V_addMultiple κ (LM κ τ (LC κ (x_added, x_asked, x_eR, x_et, x_oR, x_ot, x_bR, x_bD, x_bQ, x_bW, va_up x_bS x_bn.toNatClampNeg r10, x_bM, x_bT, x_bn, x_tg, x_tb, x_ts, x_fg, x_fb, x_fV, x_fS, x_fn, x_cg, x_cb, x_cB, x_cq, x_vHeld, x_vRed, x_vTal, x_vLis))) F (-1 : Int64) (52 + x_bn.toNatClampNeg) (nw_bS (ixlt i21)) ((va_up x_bS x_bn.toNatClampNeg r10) x_bn.toNatClampNeg) (lk_bS (ixlt i21)) 67 (by decide) x_fg lk_fg (by have := (ixlt i21); omega) e29)) rfl rfl rfl (Nat.le_of_ble_eq_true rfl) dB_search_29 ?_
  refine w_aload_n (pc := 32) (q := 0) G dB_search_32 rfl rfl ?_
  refine w_aload_n (pc := 33) (q := 0) G dB_search_33 rfl rfl ?_
  refine w_get (pc := 34) (v := .int x_bn) (fs := fl_B κ (x_added, x_asked, x_eR, x_et, x_oR, x_ot, x_bR, x_bD, x_bQ, x_bW, va_up (va_up x_bS x_bn.toNatClampNeg r10) x_bn.toNatClampNeg r29, x_bM, x_bT, x_bn, x_tg, x_tb, x_ts, x_fg, x_fb, x_fV, x_fS, x_fn, x_cg, x_cb, x_cB, x_cq, x_vHeld, x_vRed, x_vTal, x_vLis)) G 38 (by decide) lb_B rfl wsB_ok 7 (by decide) wd51 gf_B_7 dB_search_34 ?_
  refine w_aload_n (pc := 37) (q := 0) G dB_search_37 rfl rfl ?_
  refine w_aload_n (pc := 38) (q := 1) G dB_search_38 rfl rfl ?_
  obtain ⟨r39, e39, h⟩ := bd h
  refine w_callU (pc := 39) (av := []) (rest := [.ref (κ.1 38), .int x_bn, .ref (κ.1 38)]) (v := some (.ref (κ.1 67))) (L' := (LM κ τ (LC κ (x_added, x_asked, x_eR, x_et, x_oR, x_ot, x_bR, x_bD, x_bQ, x_bW, va_up (va_up x_bS x_bn.toNatClampNeg r10) x_bn.toNatClampNeg r29, x_bM, x_bT, x_bn, x_tg, x_tb, x_ts, x_fg, x_fb, x_fV, x_fS, x_fn, x_cg, x_cb, x_cB, x_cq, x_vHeld, x_vRed, x_vTal, x_vLis)))) (T := TF) (fs := fl_F κ (x_added, x_asked, x_eR, x_et, x_oR, x_ot, x_bR, x_bD, x_bQ, x_bW, va_up (va_up x_bS x_bn.toNatClampNeg r10) x_bn.toNatClampNeg r29, x_bM, x_bT, x_bn, x_tg, x_tb, x_ts, x_fg, x_fb, x_fV, x_fS, x_fn, x_cg, x_cb, x_cB, x_cq, x_vHeld, x_vRed, x_vTal, x_vLis)) G 66 5 5 (by decide) lb_F rfl cb_K_goal_F_B_search_F wd364 wd366 wd368 wd365 wd465 (by decide) rfl (met_K_goal_F κ τ F   e39) rfl rfl rfl (Nat.le_of_ble_eq_true rfl) dB_search_39 ?_
  obtain ⟨r42, e42, h⟩ := bd h
  refine w_callV (pc := 42) (av := [.ref (κ.1 67)]) (rest := [.int x_bn, .ref (κ.1 38)]) (v := some (.long r42)) (L' := (LM κ τ (LC κ (x_added, x_asked, x_eR, x_et, x_oR, x_ot, x_bR, x_bD, x_bQ, x_bW, va_up (va_up x_bS x_bn.toNatClampNeg r10) x_bn.toNatClampNeg r29, x_bM, x_bT, x_bn, x_tg, x_tb, x_ts, x_fg, x_fb, x_fV, x_fS, x_fn, x_cg, x_cb, x_cB, x_cq, x_vHeld, x_vRed, x_vTal, x_vLis)))) (T := TB) (fs := fl_B κ (x_added, x_asked, x_eR, x_et, x_oR, x_ot, x_bR, x_bD, x_bQ, x_bW, va_up (va_up x_bS x_bn.toNatClampNeg r10) x_bn.toNatClampNeg r29, x_bM, x_bT, x_bn, x_tg, x_tb, x_ts, x_fg, x_fb, x_fV, x_fS, x_fn, x_cg, x_cb, x_cB, x_cq, x_vHeld, x_vRed, x_vTal, x_vLis)) G 38 3 8 (by decide) lb_B rfl cb_B_squareOutside_F_B_search_F wd374 ws14 wd372 (met_B_squareOutside_F κ τ F   e42) rfl rfl rfl (Nat.le_of_ble_eq_true rfl) dB_search_42 ?_
  refine w_aload_n (pc := 45) (q := 1) G dB_search_45 rfl rfl ?_
  obtain ⟨iS46, h⟩ := gd_some h
  obtain ⟨r46, e46, h⟩ := bd h
  refine w_callV (pc := 46) (av := [.int x_bn, .long r42, .ref (κ.1 66)]) (rest := []) (v := none) (L' := (LM κ τ (LC κ (x_added, x_asked, x_eR, x_et, x_oR, x_ot, x_bR, x_bD, x_bQ, x_bW, r46.1, x_bM, x_bT, x_bn, x_tg, x_tb, x_ts, x_fg, r46.2.1, r46.2.2.1, r46.2.2.2.1, r46.2.2.2.2, x_cg, x_cb, x_cB, x_cq, x_vHeld, x_vRed, x_vTal, x_vLis)))) (T := TB) (fs := fl_B κ (x_added, x_asked, x_eR, x_et, x_oR, x_ot, x_bR, x_bD, x_bQ, x_bW, va_up (va_up x_bS x_bn.toNatClampNeg r10) x_bn.toNatClampNeg r29, x_bM, x_bT, x_bn, x_tg, x_tb, x_ts, x_fg, x_fb, x_fV, x_fS, x_fn, x_cg, x_cb, x_cB, x_cq, x_vHeld, x_vRed, x_vTal, x_vLis)) G 38 3 8 (by decide) lb_B rfl (cbDS_F x_bn.toNatClampNeg (ixlt iS46)) wd379 ws15 wd377 (met_B_recx_F κ τ F x_bn iS46 (va_up (va_up x_bS x_bn.toNatClampNeg r10) x_bn.toNatClampNeg r29) x_fb x_fV x_fS x_fn r42 _ e46) rfl rfl rfl (Nat.le_of_ble_eq_true rfl) dB_search_46 ?_
  obtain rfl := Option.some.inj h
  exact w_vret (pc := 49) G dB_search_49 Fh
noncomputable def B_rec_C (F : Nat) (x_bR : Nat → Nat → Int64) (x_bD : Nat → Nat → Int64) (x_bQ : Nat → Int64) (x_bW : Nat → Int64) : Nat → Int64 → (Nat → Nat → Int64) → Int64 → (Nat → Int64) → Int64 → Option ((Nat → Nat → Int64) × Int64 × (Nat → Int64) × Int64)
  | 0, v, x_bS, x_cb, x_cB, x_cq => B_desc_C F (fun _ _ _ _ _ _ _ _ => none) x_bD x_bW x_bS x_cb x_cB x_cq (nI 0) v
  | n + 1, v, x_bS, x_cb, x_cB, x_cq => B_desc_C F (fun k a b u y_bS y_cb y_cB y_cq => B_walk_C F (fun _ w z_bS z_cb z_cB z_cq => B_rec_C F x_bR x_bD x_bQ x_bW n w z_bS z_cb z_cB z_cq) x_bR x_bD x_bQ y_bS y_cb y_cB y_cq k a b u) x_bD x_bW x_bS x_cb x_cB x_cq (nI (n + 1)) v
set_option maxHeartbeats 8000000 in
theorem met_B_rec_C (κ : ctx) (τ : MS) (F : Nat) {x_added : Nat → Nat → Int64} {x_asked : Nat → Int64} {x_eR : Nat → Nat → Int64} {x_et : Nat → Int64} {x_oR : Nat → Nat → Int64} {x_ot : Nat → Int64} {x_bR : Nat → Nat → Int64} {x_bD : Nat → Nat → Int64} {x_bQ : Nat → Int64} {x_bW : Nat → Int64} {x_bM : Nat → Nat → Int64} {x_bT : Nat → Int64} {x_bn : Int32} {x_tg : Nat → Int64} {x_tb : Int64} {x_ts : Nat → Int32} {x_fg : Nat → Int64} {x_fb : Int64} {x_fV : Nat → Nat → Int64} {x_fS : Nat → Int64} {x_fn : Int32} {x_cg : Nat → Int64} {x_vHeld : Int32} {x_vRed : Int32} {x_vTal : Int32} {x_vLis : Int32} : ∀ (n : Nat) (x_bS : Nat → Nat → Int64) (x_cb : Int64) (x_cB : Nat → Int64) (x_cq : Int64) (v : Int64) (out : (Nat → Nat → Int64) × Int64 × (Nat → Int64) × Int64), B_rec_C F x_bR x_bD x_bQ x_bW n v x_bS x_cb x_cB x_cq = some out → Mt yB_descend cB_descend 8 none (rmDn (n + 1)) κ [.ref (κ.1 38), .int (nI n), .long v, .ref (κ.1 111)] (LM κ τ (LC κ (x_added, x_asked, x_eR, x_et, x_oR, x_ot, x_bR, x_bD, x_bQ, x_bW, x_bS, x_bM, x_bT, x_bn, x_tg, x_tb, x_ts, x_fg, x_fb, x_fV, x_fS, x_fn, x_cg, x_cb, x_cB, x_cq, x_vHeld, x_vRed, x_vTal, x_vLis))) none (LM κ τ (LC κ (x_added, x_asked, x_eR, x_et, x_oR, x_ot, x_bR, x_bD, x_bQ, x_bW, out.1, x_bM, x_bT, x_bn, x_tg, x_tb, x_ts, x_fg, x_fb, x_fV, x_fS, x_fn, x_cg, out.2.1, out.2.2.1, out.2.2.2, x_vHeld, x_vRed, x_vTal, x_vLis))) := by
  intro n
  induction n with
  | zero =>
    intro x_bS x_cb x_cB x_cq v out h
    rw [B_rec_C] at h
    exact met_B_desc_C κ τ F 0 _ (nI 0) v (fun y_bS y_cb y_cB y_cq a b u out2 h2 => by cases h2) h
  | succ n ih =>
    intro x_bS x_cb x_cB x_cq v out h
    rw [B_rec_C] at h
    refine met_B_desc_C κ τ F (n + 1) _ (nI (n + 1)) v (fun y_bS y_cb y_cB y_cq a b u out2 h2 => ?_) h
    have e : nI (n + 1) - (1 : Int32) = nI n := nI_pred n
    rw [e] at h2 ⊢
    exact met_B_walk_C κ τ F (n + 1) _ (nI n) a b u (fun z_bS z_cb z_cB z_cq w out3 h3 => ih z_bS z_cb z_cB z_cq w out3 h3) h2
theorem met_B_recx_C (κ : ctx) (τ : MS) (F : Nat) {x_added : Nat → Nat → Int64} {x_asked : Nat → Int64} {x_eR : Nat → Nat → Int64} {x_et : Nat → Int64} {x_oR : Nat → Nat → Int64} {x_ot : Nat → Int64} {x_bR : Nat → Nat → Int64} {x_bD : Nat → Nat → Int64} {x_bQ : Nat → Int64} {x_bW : Nat → Int64} {x_bM : Nat → Nat → Int64} {x_bT : Nat → Int64} {x_bn : Int32} {x_tg : Nat → Int64} {x_tb : Int64} {x_ts : Nat → Int32} {x_fg : Nat → Int64} {x_fb : Int64} {x_fV : Nat → Nat → Int64} {x_fS : Nat → Int64} {x_fn : Int32} {x_cg : Nat → Int64} {x_vHeld : Int32} {x_vRed : Int32} {x_vTal : Int32} {x_vLis : Int32} (x : Int32) (hx : vp_in x 5) (x_bS : Nat → Nat → Int64) (x_cb : Int64) (x_cB : Nat → Int64) (x_cq : Int64) (v : Int64) (out : (Nat → Nat → Int64) × Int64 × (Nat → Int64) × Int64) (h : B_rec_C F x_bR x_bD x_bQ x_bW x.toNatClampNeg v x_bS x_cb x_cB x_cq = some out) : Mt yB_descend cB_descend 8 none (rmDn (x.toNatClampNeg + 1)) κ [.ref (κ.1 38), .int x, .long v, .ref (κ.1 111)] (LM κ τ (LC κ (x_added, x_asked, x_eR, x_et, x_oR, x_ot, x_bR, x_bD, x_bQ, x_bW, x_bS, x_bM, x_bT, x_bn, x_tg, x_tb, x_ts, x_fg, x_fb, x_fV, x_fS, x_fn, x_cg, x_cb, x_cB, x_cq, x_vHeld, x_vRed, x_vTal, x_vLis))) none (LM κ τ (LC κ (x_added, x_asked, x_eR, x_et, x_oR, x_ot, x_bR, x_bD, x_bQ, x_bW, out.1, x_bM, x_bT, x_bn, x_tg, x_tb, x_ts, x_fg, x_fb, x_fV, x_fS, x_fn, x_cg, out.2.1, out.2.2.1, out.2.2.2, x_vHeld, x_vRed, x_vTal, x_vLis))) := by
  have e : nI x.toNatClampNeg = x := by
    obtain ⟨j, hj, rfl⟩ := vp_in_of hx (by decide)
    rw [nI_clamp (by omega)]
  have q := met_B_rec_C (x_added := x_added) (x_asked := x_asked) (x_eR := x_eR) (x_et := x_et) (x_oR := x_oR) (x_ot := x_ot) (x_bR := x_bR) (x_bD := x_bD) (x_bQ := x_bQ) (x_bW := x_bW) (x_bM := x_bM) (x_bT := x_bT) (x_bn := x_bn) (x_tg := x_tg) (x_tb := x_tb) (x_ts := x_ts) (x_fg := x_fg) (x_fb := x_fb) (x_fV := x_fV) (x_fS := x_fS) (x_fn := x_fn) (x_cg := x_cg) (x_vHeld := x_vHeld) (x_vRed := x_vRed) (x_vTal := x_vTal) (x_vLis := x_vLis) κ τ F x.toNatClampNeg x_bS x_cb x_cB x_cq v out h
  rw [e] at q
  exact q
def rm_B_search_C : Room := { frames := 15, cells := 0, slots := 0, locals := 517 }
theorem cb_V_addMultiple_B_search_C : CB yV_addMultiple cV_addMultiple 5 none rm_V_addMultiple rm_B_search_C 3 := ⟨wd187, wd1, by decide +kernel, rfl, rfl, by decide⟩
theorem cb_B_squareOutside_C_B_search_C : CB yB_squareOutside cB_squareOutside 7 (some .long) rm_B_squareOutside_C rm_B_search_C 1 := ⟨wd375, wd3, by decide +kernel, rfl, rfl, by decide⟩
theorem cb_K_goal_C_B_search_C : CB yK_goal cK_goal 1 (some (.array .long)) rm_K_goal_C rm_B_search_C 0 := ⟨wd370, wd4, by decide +kernel, rfl, rfl, by decide⟩
theorem cb_JA_fillJ_B_search_C : CB yJA_fillJ cJA_fillJ 5 none rm_JA_fillJ rm_B_search_C 2 := ⟨wd217, wd11, by decide +kernel, rfl, rfl, by decide⟩
theorem cbDS_C (n : Nat) (hn : n < 5) : CB yB_descend cB_descend 8 none (rmDn (n + 1)) rm_B_search_C 3 := ⟨wd380, wd3, by decide +kernel, rfl, rfl, by simp only [rmDn, rm_B_search_C]; omega⟩
noncomputable def B_search_C (F : Nat)  (x_bR : Nat → Nat → Int64) (x_bD : Nat → Nat → Int64) (x_bQ : Nat → Int64) (x_bW : Nat → Int64) (x_bS : Nat → Nat → Int64) (x_bn : Int32) (x_cg : Nat → Int64) (x_cb : Int64) (x_cB : Nat → Int64) (x_cq : Int64)  : Option ((Nat → Nat → Int64) × Int64 × (Nat → Int64) × Int64) := gd (vp_in x_bn 5) ((JA_fillJ F (x_bS x_bn.toNatClampNeg) (0 : Int64)).bind (fun r10 => gd (vp_in x_bn 5) ((K_goal F  ).bind (fun r23 => (V_addMultiple F ((va_up x_bS x_bn.toNatClampNeg r10) x_bn.toNatClampNeg) x_cg (-1 : Int64)).bind (fun r29 => (K_goal F  ).bind (fun r39 => (B_squareOutside F x_bD x_bQ x_bn x_cg ).bind (fun r42 => gd (vp_in x_bn 5) ((B_rec_C F x_bR x_bD x_bQ x_bW x_bn.toNatClampNeg r42 (va_up (va_up x_bS x_bn.toNatClampNeg r10) x_bn.toNatClampNeg r29) x_cb x_cB x_cq).bind (fun r46 => some (r46.1, r46.2.1, r46.2.2.1, r46.2.2.2))))))))))
set_option maxHeartbeats 8000000 in
set_option maxRecDepth 100000 in
theorem met_B_search_C (κ : ctx) (τ : MS) (F : Nat) {x_added : Nat → Nat → Int64} {x_asked : Nat → Int64} {x_eR : Nat → Nat → Int64} {x_et : Nat → Int64} {x_oR : Nat → Nat → Int64} {x_ot : Nat → Int64} {x_bR : Nat → Nat → Int64} {x_bD : Nat → Nat → Int64} {x_bQ : Nat → Int64} {x_bW : Nat → Int64} {x_bS : Nat → Nat → Int64} {x_bM : Nat → Nat → Int64} {x_bT : Nat → Int64} {x_bn : Int32} {x_tg : Nat → Int64} {x_tb : Int64} {x_ts : Nat → Int32} {x_fg : Nat → Int64} {x_fb : Int64} {x_fV : Nat → Nat → Int64} {x_fS : Nat → Int64} {x_fn : Int32} {x_cg : Nat → Int64} {x_cb : Int64} {x_cB : Nat → Int64} {x_cq : Int64} {x_vHeld : Int32} {x_vRed : Int32} {x_vTal : Int32} {x_vLis : Int32}  {out : (Nat → Nat → Int64) × Int64 × (Nat → Int64) × Int64} (h : B_search_C F  x_bR x_bD x_bQ x_bW x_bS x_bn x_cg x_cb x_cB x_cq  = some out) : Mt yB_search cB_search 2 none rm_B_search_C κ [.ref (κ.1 38), .ref (κ.1 111)] (LM κ τ (LC κ (x_added, x_asked, x_eR, x_et, x_oR, x_ot, x_bR, x_bD, x_bQ, x_bW, x_bS, x_bM, x_bT, x_bn, x_tg, x_tb, x_ts, x_fg, x_fb, x_fV, x_fS, x_fn, x_cg, x_cb, x_cB, x_cq, x_vHeld, x_vRed, x_vTal, x_vLis))) none (LM κ τ (LC κ (x_added, x_asked, x_eR, x_et, x_oR, x_ot, x_bR, x_bD, x_bQ, x_bW, out.1, x_bM, x_bT, x_bn, x_tg, x_tb, x_ts, x_fg, x_fb, x_fV, x_fS, x_fn, x_cg, out.2.1, out.2.2.1, out.2.2.2, x_vHeld, x_vRed, x_vTal, x_vLis))) := by
  refine Mt.of (by decide) (Nat.le_of_ble_eq_true rfl) ?_
  intro g G Fh
  unfold B_search_C at h
  show J g κ 2 0 [(0, .ref (κ.1 38)), (1, .ref (κ.1 111))] [] (LM κ τ (LC κ (x_added, x_asked, x_eR, x_et, x_oR, x_ot, x_bR, x_bD, x_bQ, x_bW, x_bS, x_bM, x_bT, x_bn, x_tg, x_tb, x_ts, x_fg, x_fb, x_fV, x_fS, x_fn, x_cg, x_cb, x_cB, x_cq, x_vHeld, x_vRed, x_vTal, x_vLis)))
  refine w_aload_n (pc := 0) (q := 0) G dB_search_0 rfl rfl ?_
  refine w_get (pc := 1) (v := .ref (κ.1 51)) (fs := fl_B κ (x_added, x_asked, x_eR, x_et, x_oR, x_ot, x_bR, x_bD, x_bQ, x_bW, x_bS, x_bM, x_bT, x_bn, x_tg, x_tb, x_ts, x_fg, x_fb, x_fV, x_fS, x_fn, x_cg, x_cb, x_cB, x_cq, x_vHeld, x_vRed, x_vTal, x_vLis)) G 38 (by decide) lb_B rfl wsB_ok 4 (by decide) wd48 gf_B_4 dB_search_1 ?_
  refine w_aload_n (pc := 4) (q := 0) G dB_search_4 rfl rfl ?_
  refine w_get (pc := 5) (v := .int x_bn) (fs := fl_B κ (x_added, x_asked, x_eR, x_et, x_oR, x_ot, x_bR, x_bD, x_bQ, x_bW, x_bS, x_bM, x_bT, x_bn, x_tg, x_tb, x_ts, x_fg, x_fb, x_fV, x_fS, x_fn, x_cg, x_cb, x_cB, x_cq, x_vHeld, x_vRed, x_vTal, x_vLis)) G 38 (by decide) lb_B rfl wsB_ok 7 (by decide) wd51 gf_B_7 dB_search_5 ?_
  obtain ⟨i8, h⟩ := gd_some h
  refine w_aald (pc := 8) (n := 5) (f := og κ 52 5) (b := κ.1 (52 + x_bn.toNatClampNeg)) G 51 (by decide) lo_bS i8 (og_at (ixlt i8)) dB_search_8 ?_
  refine w_lconst (pc := 9) (v := (0 : Int64)) G dB_search_9 (by decide) ?_
  obtain ⟨r10, e10, h⟩ := bd h
  refine w_callS (pc := 10) (av := [.ref (κ.1 (52 + x_bn.toNatClampNeg)), .long (0 : Int64)]) (rest := []) (v := none) (L' := (LM κ τ (LC κ (x_added, x_asked, x_eR, x_et, x_oR, x_ot, x_bR, x_bD, x_bQ, x_bW, va_up x_bS x_bn.toNatClampNeg r10, x_bM, x_bT, x_bn, x_tg, x_tb, x_ts, x_fg, x_fb, x_fV, x_fS, x_fn, x_cg, x_cb, x_cB, x_cq, x_vHeld, x_vRed, x_vTal, x_vLis)))) G cb_JA_fillJ_B_search_C wd216 wd363 (Mt.eqw (up_bS (ixlt i8)) (met_JA_fillJ κ (LM κ τ (LC κ (x_added, x_asked, x_eR, x_et, x_oR, x_ot, x_bR, x_bD, x_bQ, x_bW, x_bS, x_bM, x_bT, x_bn, x_tg, x_tb, x_ts, x_fg, x_fb, x_fV, x_fS, x_fn, x_cg, x_cb, x_cB, x_cq, x_vHeld, x_vRed, x_vTal, x_vLis))) F (0 : Int64) (52 + x_bn.toNatClampNeg) (nw_bS (ixlt i8)) (x_bS x_bn.toNatClampNeg) (lk_bS (ixlt i8)) e10)) rfl rfl rfl (Nat.le_of_ble_eq_true rfl) dB_search_10 ?_
  refine w_aload_n (pc := 13) (q := 0) G dB_search_13 rfl rfl ?_
  refine w_get (pc := 14) (v := .ref (κ.1 51)) (fs := fl_B κ (x_added, x_asked, x_eR, x_et, x_oR, x_ot, x_bR, x_bD, x_bQ, x_bW, va_up x_bS x_bn.toNatClampNeg r10, x_bM, x_bT, x_bn, x_tg, x_tb, x_ts, x_fg, x_fb, x_fV, x_fS, x_fn, x_cg, x_cb, x_cB, x_cq, x_vHeld, x_vRed, x_vTal, x_vLis)) G 38 (by decide) lb_B rfl wsB_ok 4 (by decide) wd48 gf_B_4 dB_search_14 ?_
  refine w_aload_n (pc := 17) (q := 0) G dB_search_17 rfl rfl ?_
  refine w_get (pc := 18) (v := .int x_bn) (fs := fl_B κ (x_added, x_asked, x_eR, x_et, x_oR, x_ot, x_bR, x_bD, x_bQ, x_bW, va_up x_bS x_bn.toNatClampNeg r10, x_bM, x_bT, x_bn, x_tg, x_tb, x_ts, x_fg, x_fb, x_fV, x_fS, x_fn, x_cg, x_cb, x_cB, x_cq, x_vHeld, x_vRed, x_vTal, x_vLis)) G 38 (by decide) lb_B rfl wsB_ok 7 (by decide) wd51 gf_B_7 dB_search_18 ?_
  obtain ⟨i21, h⟩ := gd_some h
  refine w_aald (pc := 21) (n := 5) (f := og κ 52 5) (b := κ.1 (52 + x_bn.toNatClampNeg)) G 51 (by decide) lo_bS i21 (og_at (ixlt i21)) dB_search_21 ?_
  refine w_aload_n (pc := 22) (q := 1) G dB_search_22 rfl rfl ?_
  obtain ⟨r23, e23, h⟩ := bd h
  refine w_callU (pc := 23) (av := []) (rest := [.ref (κ.1 (52 + x_bn.toNatClampNeg))]) (v := some (.ref (κ.1 112))) (L' := (LM κ τ (LC κ (x_added, x_asked, x_eR, x_et, x_oR, x_ot, x_bR, x_bD, x_bQ, x_bW, va_up x_bS x_bn.toNatClampNeg r10, x_bM, x_bT, x_bn, x_tg, x_tb, x_ts, x_fg, x_fb, x_fV, x_fS, x_fn, x_cg, x_cb, x_cB, x_cq, x_vHeld, x_vRed, x_vTal, x_vLis)))) (T := TC) (fs := fl_C κ (x_added, x_asked, x_eR, x_et, x_oR, x_ot, x_bR, x_bD, x_bQ, x_bW, va_up x_bS x_bn.toNatClampNeg r10, x_bM, x_bT, x_bn, x_tg, x_tb, x_ts, x_fg, x_fb, x_fV, x_fS, x_fn, x_cg, x_cb, x_cB, x_cq, x_vHeld, x_vRed, x_vTal, x_vLis)) G 111 6 4 (by decide) lb_C rfl cb_K_goal_C_B_search_C wd364 wd366 wd367 wd365 wd465 (by decide) rfl (met_K_goal_C κ τ F   e23) rfl rfl rfl (Nat.le_of_ble_eq_true rfl) dB_search_23 ?_
  refine w_ldc2 (pc := 26) (v := (-1 : Int64)) G wd371 dB_search_26 ?_
  obtain ⟨r29, e29, h⟩ := bd h
  refine w_callSN (pc := 29) (av := [.ref (κ.1 (52 + x_bn.toNatClampNeg)), .ref (κ.1 112), .long (-1 : Int64)]) (rest := []) (v := none) (L' := (LM κ τ (LC κ (x_added, x_asked, x_eR, x_et, x_oR, x_ot, x_bR, x_bD, x_bQ, x_bW, va_up (va_up x_bS x_bn.toNatClampNeg r10) x_bn.toNatClampNeg r29, x_bM, x_bT, x_bn, x_tg, x_tb, x_ts, x_fg, x_fb, x_fV, x_fS, x_fn, x_cg, x_cb, x_cB, x_cq, x_vHeld, x_vRed, x_vTal, x_vLis)))) G cb_V_addMultiple_B_search_C wd186 wd273 (Mt.eqw (up_bS (ixlt i21)) (met_V_addMultiple κ (LM κ τ (LC κ (x_added, x_asked, x_eR, x_et, x_oR, x_ot, x_bR, x_bD, x_bQ, x_bW, va_up x_bS x_bn.toNatClampNeg r10, x_bM, x_bT, x_bn, x_tg, x_tb, x_ts, x_fg, x_fb, x_fV, x_fS, x_fn, x_cg, x_cb, x_cB, x_cq, x_vHeld, x_vRed, x_vTal, x_vLis))) F (-1 : Int64) (52 + x_bn.toNatClampNeg) (nw_bS (ixlt i21)) ((va_up x_bS x_bn.toNatClampNeg r10) x_bn.toNatClampNeg) (lk_bS (ixlt i21)) 112 (by decide) x_cg lk_cg (by have := (ixlt i21); omega) e29)) rfl rfl rfl (Nat.le_of_ble_eq_true rfl) dB_search_29 ?_
  refine w_aload_n (pc := 32) (q := 0) G dB_search_32 rfl rfl ?_
  refine w_aload_n (pc := 33) (q := 0) G dB_search_33 rfl rfl ?_
  refine w_get (pc := 34) (v := .int x_bn) (fs := fl_B κ (x_added, x_asked, x_eR, x_et, x_oR, x_ot, x_bR, x_bD, x_bQ, x_bW, va_up (va_up x_bS x_bn.toNatClampNeg r10) x_bn.toNatClampNeg r29, x_bM, x_bT, x_bn, x_tg, x_tb, x_ts, x_fg, x_fb, x_fV, x_fS, x_fn, x_cg, x_cb, x_cB, x_cq, x_vHeld, x_vRed, x_vTal, x_vLis)) G 38 (by decide) lb_B rfl wsB_ok 7 (by decide) wd51 gf_B_7 dB_search_34 ?_
  refine w_aload_n (pc := 37) (q := 0) G dB_search_37 rfl rfl ?_
  refine w_aload_n (pc := 38) (q := 1) G dB_search_38 rfl rfl ?_
  obtain ⟨r39, e39, h⟩ := bd h
  refine w_callU (pc := 39) (av := []) (rest := [.ref (κ.1 38), .int x_bn, .ref (κ.1 38)]) (v := some (.ref (κ.1 112))) (L' := (LM κ τ (LC κ (x_added, x_asked, x_eR, x_et, x_oR, x_ot, x_bR, x_bD, x_bQ, x_bW, va_up (va_up x_bS x_bn.toNatClampNeg r10) x_bn.toNatClampNeg r29, x_bM, x_bT, x_bn, x_tg, x_tb, x_ts, x_fg, x_fb, x_fV, x_fS, x_fn, x_cg, x_cb, x_cB, x_cq, x_vHeld, x_vRed, x_vTal, x_vLis)))) (T := TC) (fs := fl_C κ (x_added, x_asked, x_eR, x_et, x_oR, x_ot, x_bR, x_bD, x_bQ, x_bW, va_up (va_up x_bS x_bn.toNatClampNeg r10) x_bn.toNatClampNeg r29, x_bM, x_bT, x_bn, x_tg, x_tb, x_ts, x_fg, x_fb, x_fV, x_fS, x_fn, x_cg, x_cb, x_cB, x_cq, x_vHeld, x_vRed, x_vTal, x_vLis)) G 111 6 4 (by decide) lb_C rfl cb_K_goal_C_B_search_C wd364 wd366 wd367 wd365 wd465 (by decide) rfl (met_K_goal_C κ τ F   e39) rfl rfl rfl (Nat.le_of_ble_eq_true rfl) dB_search_39 ?_
  obtain ⟨r42, e42, h⟩ := bd h
  refine w_callV (pc := 42) (av := [.ref (κ.1 112)]) (rest := [.int x_bn, .ref (κ.1 38)]) (v := some (.long r42)) (L' := (LM κ τ (LC κ (x_added, x_asked, x_eR, x_et, x_oR, x_ot, x_bR, x_bD, x_bQ, x_bW, va_up (va_up x_bS x_bn.toNatClampNeg r10) x_bn.toNatClampNeg r29, x_bM, x_bT, x_bn, x_tg, x_tb, x_ts, x_fg, x_fb, x_fV, x_fS, x_fn, x_cg, x_cb, x_cB, x_cq, x_vHeld, x_vRed, x_vTal, x_vLis)))) (T := TB) (fs := fl_B κ (x_added, x_asked, x_eR, x_et, x_oR, x_ot, x_bR, x_bD, x_bQ, x_bW, va_up (va_up x_bS x_bn.toNatClampNeg r10) x_bn.toNatClampNeg r29, x_bM, x_bT, x_bn, x_tg, x_tb, x_ts, x_fg, x_fb, x_fV, x_fS, x_fn, x_cg, x_cb, x_cB, x_cq, x_vHeld, x_vRed, x_vTal, x_vLis)) G 38 3 8 (by decide) lb_B rfl cb_B_squareOutside_C_B_search_C wd374 ws14 wd372 (met_B_squareOutside_C κ τ F   e42) rfl rfl rfl (Nat.le_of_ble_eq_true rfl) dB_search_42 ?_
  refine w_aload_n (pc := 45) (q := 1) G dB_search_45 rfl rfl ?_
  obtain ⟨iS46, h⟩ := gd_some h
  obtain ⟨r46, e46, h⟩ := bd h
  refine w_callV (pc := 46) (av := [.int x_bn, .long r42, .ref (κ.1 111)]) (rest := []) (v := none) (L' := (LM κ τ (LC κ (x_added, x_asked, x_eR, x_et, x_oR, x_ot, x_bR, x_bD, x_bQ, x_bW, r46.1, x_bM, x_bT, x_bn, x_tg, x_tb, x_ts, x_fg, x_fb, x_fV, x_fS, x_fn, x_cg, r46.2.1, r46.2.2.1, r46.2.2.2, x_vHeld, x_vRed, x_vTal, x_vLis)))) (T := TB) (fs := fl_B κ (x_added, x_asked, x_eR, x_et, x_oR, x_ot, x_bR, x_bD, x_bQ, x_bW, va_up (va_up x_bS x_bn.toNatClampNeg r10) x_bn.toNatClampNeg r29, x_bM, x_bT, x_bn, x_tg, x_tb, x_ts, x_fg, x_fb, x_fV, x_fS, x_fn, x_cg, x_cb, x_cB, x_cq, x_vHeld, x_vRed, x_vTal, x_vLis)) G 38 3 8 (by decide) lb_B rfl (cbDS_C x_bn.toNatClampNeg (ixlt iS46)) wd379 ws15 wd377 (met_B_recx_C κ τ F x_bn iS46 (va_up (va_up x_bS x_bn.toNatClampNeg r10) x_bn.toNatClampNeg r29) x_cb x_cB x_cq r42 _ e46) rfl rfl rfl (Nat.le_of_ble_eq_true rfl) dB_search_46 ?_
  obtain rfl := Option.some.inj h
  exact w_vret (pc := 49) G dB_search_49 Fh
def rm_T_fill : Room := { frames := 16, cells := 0, slots := 0, locals := 538 }
theorem dT_fillJ_0 : decode cT_fillJ 0 = .ok (.aload_n 0, 1) := by decide +kernel
theorem dT_fillJ_1 : decode cT_fillJ 1 = .ok (.getfield 9, 3) := by decide +kernel
theorem dT_fillJ_4 : decode cT_fillJ 4 = .ok (.iconst 0, 1) := by decide +kernel
theorem dT_fillJ_5 : decode cT_fillJ 5 = .ok (.invokestatic 15, 3) := by decide +kernel
theorem dT_fillJ_8 : decode cT_fillJ 8 = .ok (.aload_n 0, 1) := by decide +kernel
theorem dT_fillJ_9 : decode cT_fillJ 9 = .ok (.ldc2_w 21, 3) := by decide +kernel
theorem dT_fillJ_12 : decode cT_fillJ 12 = .ok (.invokevirtual 23, 3) := by decide +kernel
theorem dT_fillJ_15 : decode cT_fillJ 15 = .ok (.aload_n 1, 1) := by decide +kernel
theorem dT_fillJ_16 : decode cT_fillJ 16 = .ok (.aload_n 0, 1) := by decide +kernel
theorem dT_fillJ_17 : decode cT_fillJ 17 = .ok (.invokevirtual 27, 3) := by decide +kernel
theorem dT_fillJ_20 : decode cT_fillJ 20 = .ok (.iconst 1, 1) := by decide +kernel
theorem dT_fillJ_21 : decode cT_fillJ 21 = .ok (.istore_n 2, 1) := by decide +kernel
theorem dT_fillJ_22 : decode cT_fillJ 22 = .ok (.iload_n 2, 1) := by decide +kernel
theorem dT_fillJ_23 : decode cT_fillJ 23 = .ok (.bipush 40, 2) := by decide +kernel
theorem dT_fillJ_25 : decode cT_fillJ 25 = .ok (.if_icmp .gt 26, 3) := by decide +kernel
theorem dT_fillJ_28 : decode cT_fillJ 28 = .ok (.aload_n 0, 1) := by decide +kernel
theorem dT_fillJ_29 : decode cT_fillJ 29 = .ok (.getfield 9, 3) := by decide +kernel
theorem dT_fillJ_32 : decode cT_fillJ 32 = .ok (.iload_n 2, 1) := by decide +kernel
theorem dT_fillJ_33 : decode cT_fillJ 33 = .ok (.dup2, 1) := by decide +kernel
theorem dT_fillJ_34 : decode cT_fillJ 34 = .ok (.iaload, 1) := by decide +kernel
theorem dT_fillJ_35 : decode cT_fillJ 35 = .ok (.aload_n 0, 1) := by decide +kernel
theorem dT_fillJ_36 : decode cT_fillJ 36 = .ok (.getfield 9, 3) := by decide +kernel
theorem dT_fillJ_39 : decode cT_fillJ 39 = .ok (.iload_n 2, 1) := by decide +kernel
theorem dT_fillJ_40 : decode cT_fillJ 40 = .ok (.iconst 1, 1) := by decide +kernel
theorem dT_fillJ_41 : decode cT_fillJ 41 = .ok (.isub, 1) := by decide +kernel
theorem dT_fillJ_42 : decode cT_fillJ 42 = .ok (.iaload, 1) := by decide +kernel
theorem dT_fillJ_43 : decode cT_fillJ 43 = .ok (.iadd, 1) := by decide +kernel
theorem dT_fillJ_44 : decode cT_fillJ 44 = .ok (.iastore, 1) := by decide +kernel
theorem dT_fillJ_45 : decode cT_fillJ 45 = .ok (.iinc 2 1, 3) := by decide +kernel
theorem dT_fillJ_48 : decode cT_fillJ 48 = .ok (.goto (-26), 3) := by decide +kernel
theorem dT_fillJ_51 : decode cT_fillJ 51 = .ok (.return_, 1) := by decide +kernel
theorem cb_B_search_T_T_fill : CB yB_search cB_search 2 none rm_B_search_T rm_T_fill 1 := ⟨wd362, wd3, by decide +kernel, rfl, rfl, by decide⟩
theorem cb_K_setBudget_T_T_fill : CB yK_setBudget cK_setBudget 3 none rm_K_setBudget_T rm_T_fill 1 := ⟨wd358, wd4, by decide +kernel, rfl, rfl, by decide⟩
theorem cb_JA_fillI_T_fill : CB yJA_fillI cJA_fillI 4 none rm_JA_fillI rm_T_fill 2 := ⟨wd351, wd11, by decide +kernel, rfl, rfl, by decide⟩
noncomputable def lT_fill_22 (F : Nat) : Nat → Int32 → (Nat → Int32) → Option ((Nat → Int32))
  | 0, _, _ => none
  | n + 1, v2, x_ts => if (40 : Int32) < v2 then some (x_ts) else gd (vp_in v2 41) (gd (vp_in (v2 - (1 : Int32)) 41) (gd (vp_in v2 41) (lT_fill_22 F   n (v2 + 1) (upd x_ts v2.toNatClampNeg ((x_ts v2.toNatClampNeg) + (x_ts (v2 - (1 : Int32)).toNatClampNeg))))))
set_option maxHeartbeats 8000000 in
set_option maxRecDepth 100000 in
theorem lT_fill_22_ok {g : Gm} {κ : ctx} (G : OK g κ RT cT_fillJ 3 none rm_T_fill) (τ : MS) (F : Nat) {x_added : Nat → Nat → Int64} {x_asked : Nat → Int64} {x_eR : Nat → Nat → Int64} {x_et : Nat → Int64} {x_oR : Nat → Nat → Int64} {x_ot : Nat → Int64} {x_bR : Nat → Nat → Int64} {x_bD : Nat → Nat → Int64} {x_bQ : Nat → Int64} {x_bW : Nat → Int64} {x_bS : Nat → Nat → Int64} {x_bM : Nat → Nat → Int64} {x_bT : Nat → Int64} {x_bn : Int32} {x_tg : Nat → Int64} {x_tb : Int64} {x_fg : Nat → Int64} {x_fb : Int64} {x_fV : Nat → Nat → Int64} {x_fS : Nat → Int64} {x_fn : Int32} {x_cg : Nat → Int64} {x_cb : Int64} {x_cB : Nat → Int64} {x_cq : Int64} {x_vHeld : Int32} {x_vRed : Int32} {x_vTal : Int32} {x_vLis : Int32} : ∀ (n : Nat) (v2 : Int32) (x_ts : Nat → Int32) (out : (Nat → Int32)), lT_fill_22 F    n v2 x_ts = some out → (J g κ 3 51 [] [] (LM κ τ (LC κ (x_added, x_asked, x_eR, x_et, x_oR, x_ot, x_bR, x_bD, x_bQ, x_bW, x_bS, x_bM, x_bT, x_bn, x_tg, x_tb, out, x_fg, x_fb, x_fV, x_fS, x_fn, x_cg, x_cb, x_cB, x_cq, x_vHeld, x_vRed, x_vTal, x_vLis)))) → J g κ 3 22 [(0, .ref (κ.1 63)), (2, .int v2)] [] (LM κ τ (LC κ (x_added, x_asked, x_eR, x_et, x_oR, x_ot, x_bR, x_bD, x_bQ, x_bW, x_bS, x_bM, x_bT, x_bn, x_tg, x_tb, x_ts, x_fg, x_fb, x_fV, x_fS, x_fn, x_cg, x_cb, x_cB, x_cq, x_vHeld, x_vRed, x_vTal, x_vLis))) := by
  intro n
  induction n with
  | zero =>
    intro v2 x_ts
    intro out h
    rw [lT_fill_22] at h
    cases h
  | succ n ih =>
    intro v2 x_ts out h K
    rw [lT_fill_22] at h
    refine w_iload_n (pc := 22) (q := 1) G dT_fillJ_22 rfl rfl ?_
    refine w_bipush (pc := 23) (v := (40 : Int32)) G dT_fillJ_23 (by decide) ?_
    refine w_icmp_gt (pc := 25) (tgt := 51) G dT_fillJ_25 (by decide) (fun c25 => ?_) (fun c25 => ?_)
    · have h := if_t c25 h
      obtain rfl := Option.some.inj h
      refine w_sub (lv' := []) [] rfl ?_
      exact K
    · have h := if_f c25 h
      refine w_aload_n (pc := 28) (q := 0) G dT_fillJ_28 rfl rfl ?_
      refine w_get (pc := 29) (v := .ref (κ.1 65)) (fs := fl_T κ (x_added, x_asked, x_eR, x_et, x_oR, x_ot, x_bR, x_bD, x_bQ, x_bW, x_bS, x_bM, x_bT, x_bn, x_tg, x_tb, x_ts, x_fg, x_fb, x_fV, x_fS, x_fn, x_cg, x_cb, x_cB, x_cq, x_vHeld, x_vRed, x_vTal, x_vLis)) G 63 (by decide) lb_T rfl wsT_ok 2 (by decide) wd78 gf_T_2 dT_fillJ_29 ?_
      refine w_iload_n (pc := 32) (q := 1) G dT_fillJ_32 rfl rfl ?_
      refine w_dup2_11 (pc := 33) G dT_fillJ_33 rfl rfl ?_
      obtain ⟨i34, h⟩ := gd_some h
      refine w_iald (pc := 34) (n := 41) (f := x_ts) G 65 (by decide) lk_ts i34 dT_fillJ_34 ?_
      refine w_aload_n (pc := 35) (q := 0) G dT_fillJ_35 rfl rfl ?_
      refine w_get (pc := 36) (v := .ref (κ.1 65)) (fs := fl_T κ (x_added, x_asked, x_eR, x_et, x_oR, x_ot, x_bR, x_bD, x_bQ, x_bW, x_bS, x_bM, x_bT, x_bn, x_tg, x_tb, x_ts, x_fg, x_fb, x_fV, x_fS, x_fn, x_cg, x_cb, x_cB, x_cq, x_vHeld, x_vRed, x_vTal, x_vLis)) G 63 (by decide) lb_T rfl wsT_ok 2 (by decide) wd78 gf_T_2 dT_fillJ_36 ?_
      refine w_iload_n (pc := 39) (q := 1) G dT_fillJ_39 rfl rfl ?_
      refine w_iconst (pc := 40) (v := (1 : Int32)) G dT_fillJ_40 (by decide) ?_
      refine w_isub (pc := 41) G dT_fillJ_41 ?_
      obtain ⟨i42, h⟩ := gd_some h
      refine w_iald (pc := 42) (n := 41) (f := x_ts) G 65 (by decide) lk_ts i42 dT_fillJ_42 ?_
      refine w_iadd (pc := 43) G dT_fillJ_43 ?_
      obtain ⟨i44, h⟩ := gd_some h
      refine w_iast (pc := 44) (n := 41) (f := x_ts) (L1 := (LM κ τ (LC κ (x_added, x_asked, x_eR, x_et, x_oR, x_ot, x_bR, x_bD, x_bQ, x_bW, x_bS, x_bM, x_bT, x_bn, x_tg, x_tb, upd x_ts v2.toNatClampNeg ((x_ts v2.toNatClampNeg) + (x_ts (v2 - (1 : Int32)).toNatClampNeg)), x_fg, x_fb, x_fV, x_fS, x_fn, x_cg, x_cb, x_cB, x_cq, x_vHeld, x_vRed, x_vTal, x_vLis)))) G 65 (by decide) lk_ts i44 dT_fillJ_44 up_ts ?_
      refine w_iinc (pc := 45) (q0 := 1) (v := (v2 + 1)) (lv' := [(2, .int (v2 + 1)), (0, .ref (κ.1 63))]) G dT_fillJ_45 rfl rfl (by decide) rfl ?_
      refine w_goto (pc := 48) (tgt := 22) G dT_fillJ_48 (by decide) ?_
      refine w_sub (lv' := [(0, .ref (κ.1 63)), (2, .int (v2 + 1))]) [1, 0] rfl ?_
      exact ih (v2 + 1) (upd x_ts v2.toNatClampNeg ((x_ts v2.toNatClampNeg) + (x_ts (v2 - (1 : Int32)).toNatClampNeg))) out h K
noncomputable def T_fill (F : Nat)  (x_bR : Nat → Nat → Int64) (x_bD : Nat → Nat → Int64) (x_bQ : Nat → Int64) (x_bW : Nat → Int64) (x_bS : Nat → Nat → Int64) (x_bn : Int32) (x_tg : Nat → Int64) (x_tb : Int64) (x_ts : Nat → Int32)  : Option ((Nat → Nat → Int64) × Int64 × (Nat → Int32)) := (JA_fillI F x_ts (0 : Int32)).bind (fun r5 => (K_setBudget F x_tb (40 : Int64)).bind (fun r12 => (B_search_T F x_bR x_bD x_bQ x_bW x_bS x_bn x_tg r12 r5 ).bind (fun r17 => (lT_fill_22 F   F (1 : Int32) r17.2).bind (fun o22_7 => some (r17.1, r12, o22_7)))))
set_option maxHeartbeats 8000000 in
set_option maxRecDepth 100000 in
theorem met_T_fill (κ : ctx) (τ : MS) (F : Nat) {x_added : Nat → Nat → Int64} {x_asked : Nat → Int64} {x_eR : Nat → Nat → Int64} {x_et : Nat → Int64} {x_oR : Nat → Nat → Int64} {x_ot : Nat → Int64} {x_bR : Nat → Nat → Int64} {x_bD : Nat → Nat → Int64} {x_bQ : Nat → Int64} {x_bW : Nat → Int64} {x_bS : Nat → Nat → Int64} {x_bM : Nat → Nat → Int64} {x_bT : Nat → Int64} {x_bn : Int32} {x_tg : Nat → Int64} {x_tb : Int64} {x_ts : Nat → Int32} {x_fg : Nat → Int64} {x_fb : Int64} {x_fV : Nat → Nat → Int64} {x_fS : Nat → Int64} {x_fn : Int32} {x_cg : Nat → Int64} {x_cb : Int64} {x_cB : Nat → Int64} {x_cq : Int64} {x_vHeld : Int32} {x_vRed : Int32} {x_vTal : Int32} {x_vLis : Int32}  {out : (Nat → Nat → Int64) × Int64 × (Nat → Int32)} (h : T_fill F  x_bR x_bD x_bQ x_bW x_bS x_bn x_tg x_tb x_ts  = some out) : Mt yT_fillJ cT_fillJ 3 none rm_T_fill κ [.ref (κ.1 63), .ref (κ.1 38)] (LM κ τ (LC κ (x_added, x_asked, x_eR, x_et, x_oR, x_ot, x_bR, x_bD, x_bQ, x_bW, x_bS, x_bM, x_bT, x_bn, x_tg, x_tb, x_ts, x_fg, x_fb, x_fV, x_fS, x_fn, x_cg, x_cb, x_cB, x_cq, x_vHeld, x_vRed, x_vTal, x_vLis))) none (LM κ τ (LC κ (x_added, x_asked, x_eR, x_et, x_oR, x_ot, x_bR, x_bD, x_bQ, x_bW, out.1, x_bM, x_bT, x_bn, x_tg, out.2.1, out.2.2, x_fg, x_fb, x_fV, x_fS, x_fn, x_cg, x_cb, x_cB, x_cq, x_vHeld, x_vRed, x_vTal, x_vLis))) := by
  refine Mt.of (by decide) (Nat.le_of_ble_eq_true rfl) ?_
  intro g G Fh
  unfold T_fill at h
  show J g κ 3 0 [(0, .ref (κ.1 63)), (1, .ref (κ.1 38))] [] (LM κ τ (LC κ (x_added, x_asked, x_eR, x_et, x_oR, x_ot, x_bR, x_bD, x_bQ, x_bW, x_bS, x_bM, x_bT, x_bn, x_tg, x_tb, x_ts, x_fg, x_fb, x_fV, x_fS, x_fn, x_cg, x_cb, x_cB, x_cq, x_vHeld, x_vRed, x_vTal, x_vLis)))
  refine w_aload_n (pc := 0) (q := 0) G dT_fillJ_0 rfl rfl ?_
  refine w_get (pc := 1) (v := .ref (κ.1 65)) (fs := fl_T κ (x_added, x_asked, x_eR, x_et, x_oR, x_ot, x_bR, x_bD, x_bQ, x_bW, x_bS, x_bM, x_bT, x_bn, x_tg, x_tb, x_ts, x_fg, x_fb, x_fV, x_fS, x_fn, x_cg, x_cb, x_cB, x_cq, x_vHeld, x_vRed, x_vTal, x_vLis)) G 63 (by decide) lb_T rfl wsT_ok 2 (by decide) wd78 gf_T_2 dT_fillJ_1 ?_
  refine w_iconst (pc := 4) (v := (0 : Int32)) G dT_fillJ_4 (by decide) ?_
  obtain ⟨r5, e5, h⟩ := bd h
  refine w_callS (pc := 5) (av := [.ref (κ.1 65), .int (0 : Int32)]) (rest := []) (v := none) (L' := (LM κ τ (LC κ (x_added, x_asked, x_eR, x_et, x_oR, x_ot, x_bR, x_bD, x_bQ, x_bW, x_bS, x_bM, x_bT, x_bn, x_tg, x_tb, r5, x_fg, x_fb, x_fV, x_fS, x_fn, x_cg, x_cb, x_cB, x_cq, x_vHeld, x_vRed, x_vTal, x_vLis)))) G cb_JA_fillI_T_fill wd350 wd349 (Mt.eqw up_ts (met_JA_fillI κ (LM κ τ (LC κ (x_added, x_asked, x_eR, x_et, x_oR, x_ot, x_bR, x_bD, x_bQ, x_bW, x_bS, x_bM, x_bT, x_bn, x_tg, x_tb, x_ts, x_fg, x_fb, x_fV, x_fS, x_fn, x_cg, x_cb, x_cB, x_cq, x_vHeld, x_vRed, x_vTal, x_vLis))) F (0 : Int32) 65 (by decide) x_ts lk_ts e5)) rfl rfl rfl (Nat.le_of_ble_eq_true rfl) dT_fillJ_5 ?_
  refine w_aload_n (pc := 8) (q := 0) G dT_fillJ_8 rfl rfl ?_
  refine w_ldc2 (pc := 9) (v := (40 : Int64)) G wd352 dT_fillJ_9 ?_
  obtain ⟨r12, e12, h⟩ := bd h
  refine w_callU (pc := 12) (av := [.long (40 : Int64)]) (rest := []) (v := none) (L' := (LM κ τ (LC κ (x_added, x_asked, x_eR, x_et, x_oR, x_ot, x_bR, x_bD, x_bQ, x_bW, x_bS, x_bM, x_bT, x_bn, x_tg, r12, r5, x_fg, x_fb, x_fV, x_fS, x_fn, x_cg, x_cb, x_cB, x_cq, x_vHeld, x_vRed, x_vTal, x_vLis)))) (T := TT) (fs := fl_T κ (x_added, x_asked, x_eR, x_et, x_oR, x_ot, x_bR, x_bD, x_bQ, x_bW, x_bS, x_bM, x_bT, x_bn, x_tg, x_tb, r5, x_fg, x_fb, x_fV, x_fS, x_fn, x_cg, x_cb, x_cB, x_cq, x_vHeld, x_vRed, x_vTal, x_vLis)) G 63 4 3 (by decide) lb_T rfl cb_K_setBudget_T_T_fill wd353 wd354 wd356 wd357 wd355 (by decide) rfl (met_K_setBudget_T κ τ F (40 : Int64)  e12) rfl rfl rfl (Nat.le_of_ble_eq_true rfl) dT_fillJ_12 ?_
  refine w_aload_n (pc := 15) (q := 1) G dT_fillJ_15 rfl rfl ?_
  refine w_aload_n (pc := 16) (q := 0) G dT_fillJ_16 rfl rfl ?_
  obtain ⟨r17, e17, h⟩ := bd h
  refine w_callV (pc := 17) (av := [.ref (κ.1 63)]) (rest := []) (v := none) (L' := (LM κ τ (LC κ (x_added, x_asked, x_eR, x_et, x_oR, x_ot, x_bR, x_bD, x_bQ, x_bW, r17.1, x_bM, x_bT, x_bn, x_tg, r12, r17.2, x_fg, x_fb, x_fV, x_fS, x_fn, x_cg, x_cb, x_cB, x_cq, x_vHeld, x_vRed, x_vTal, x_vLis)))) (T := TB) (fs := fl_B κ (x_added, x_asked, x_eR, x_et, x_oR, x_ot, x_bR, x_bD, x_bQ, x_bW, x_bS, x_bM, x_bT, x_bn, x_tg, r12, r5, x_fg, x_fb, x_fV, x_fS, x_fn, x_cg, x_cb, x_cB, x_cq, x_vHeld, x_vRed, x_vTal, x_vLis)) G 38 3 8 (by decide) lb_B rfl cb_B_search_T_T_fill wd360 wd361 wd359 (met_B_search_T κ τ F   e17) rfl rfl rfl (Nat.le_of_ble_eq_true rfl) dT_fillJ_17 ?_
  refine w_iconst (pc := 20) (v := (1 : Int32)) G dT_fillJ_20 (by decide) ?_
  refine w_istore_n (pc := 21) (lv' := [(2, .int (1 : Int32)), (0, .ref (κ.1 63)), (1, .ref (κ.1 38))]) G dT_fillJ_21 rfl (by decide) rfl ?_
  refine w_sub (lv' := [(0, .ref (κ.1 63)), (2, .int (1 : Int32))]) [1, 0] rfl ?_
  obtain ⟨o22_7, eo22_7, h⟩ := bd h
  refine lT_fill_22_ok G τ F  F (1 : Int32) r17.2 o22_7 eo22_7 ?_
  obtain rfl := Option.some.inj h
  exact w_vret (pc := 51) G dT_fillJ_51 Fh
def rm_F_fill : Room := { frames := 16, cells := 0, slots := 0, locals := 538 }
theorem dF_fillJ_0 : decode cF_fillJ 0 = .ok (.aload_n 0, 1) := by decide +kernel
theorem dF_fillJ_1 : decode cF_fillJ 1 = .ok (.iconst 0, 1) := by decide +kernel
theorem dF_fillJ_2 : decode cF_fillJ 2 = .ok (.putfield 20, 3) := by decide +kernel
theorem dF_fillJ_5 : decode cF_fillJ 5 = .ok (.ldc2_w 24, 3) := by decide +kernel
theorem dF_fillJ_8 : decode cF_fillJ 8 = .ok (.lstore_n 2, 1) := by decide +kernel
theorem dF_fillJ_9 : decode cF_fillJ 9 = .ok (.aload_n 0, 1) := by decide +kernel
theorem dF_fillJ_10 : decode cF_fillJ 10 = .ok (.lload_n 2, 1) := by decide +kernel
theorem dF_fillJ_11 : decode cF_fillJ 11 = .ok (.lload_n 2, 1) := by decide +kernel
theorem dF_fillJ_12 : decode cF_fillJ 12 = .ok (.lmul, 1) := by decide +kernel
theorem dF_fillJ_13 : decode cF_fillJ 13 = .ok (.aload_n 1, 1) := by decide +kernel
theorem dF_fillJ_14 : decode cF_fillJ 14 = .ok (.invokevirtual 26, 3) := by decide +kernel
theorem dF_fillJ_17 : decode cF_fillJ 17 = .ok (.lmul, 1) := by decide +kernel
theorem dF_fillJ_18 : decode cF_fillJ 18 = .ok (.invokevirtual 32, 3) := by decide +kernel
theorem dF_fillJ_21 : decode cF_fillJ 21 = .ok (.aload_n 1, 1) := by decide +kernel
theorem dF_fillJ_22 : decode cF_fillJ 22 = .ok (.aload_n 0, 1) := by decide +kernel
theorem dF_fillJ_23 : decode cF_fillJ 23 = .ok (.invokevirtual 36, 3) := by decide +kernel
theorem dF_fillJ_26 : decode cF_fillJ 26 = .ok (.return_, 1) := by decide +kernel
theorem cb_B_leastSquare_F_fill : CB yB_leastSquare cB_leastSquare 1 (some .long) rm_B_leastSquare rm_F_fill 0 := ⟨wd449, wd3, by decide +kernel, rfl, rfl, by decide⟩
theorem cb_B_search_F_F_fill : CB yB_search cB_search 2 none rm_B_search_F rm_F_fill 1 := ⟨wd362, wd3, by decide +kernel, rfl, rfl, by decide⟩
theorem cb_K_setBudget_F_F_fill : CB yK_setBudget cK_setBudget 3 none rm_K_setBudget_F rm_F_fill 1 := ⟨wd358, wd4, by decide +kernel, rfl, rfl, by decide⟩
noncomputable def F_fill (F : Nat)  (x_bR : Nat → Nat → Int64) (x_bD : Nat → Nat → Int64) (x_bQ : Nat → Int64) (x_bW : Nat → Int64) (x_bS : Nat → Nat → Int64) (x_bn : Int32) (x_fg : Nat → Int64) (x_fb : Int64) (x_fV : Nat → Nat → Int64) (x_fS : Nat → Int64) (x_fn : Int32)  : Option ((Nat → Nat → Int64) × Int64 × (Nat → Nat → Int64) × (Nat → Int64) × Int32) := (B_leastSquare F x_bR x_bn ).bind (fun r14 => (K_setBudget F x_fb (((20 : Int64) * (20 : Int64)) * r14)).bind (fun r18 => (B_search_F F x_bR x_bD x_bQ x_bW x_bS x_bn x_fg r18 x_fV x_fS (0 : Int32) ).bind (fun r23 => some (r23.1, r23.2.1, r23.2.2.1, r23.2.2.2.1, r23.2.2.2.2))))
set_option maxHeartbeats 8000000 in
set_option maxRecDepth 100000 in
theorem met_F_fill (κ : ctx) (τ : MS) (F : Nat) {x_added : Nat → Nat → Int64} {x_asked : Nat → Int64} {x_eR : Nat → Nat → Int64} {x_et : Nat → Int64} {x_oR : Nat → Nat → Int64} {x_ot : Nat → Int64} {x_bR : Nat → Nat → Int64} {x_bD : Nat → Nat → Int64} {x_bQ : Nat → Int64} {x_bW : Nat → Int64} {x_bS : Nat → Nat → Int64} {x_bM : Nat → Nat → Int64} {x_bT : Nat → Int64} {x_bn : Int32} {x_tg : Nat → Int64} {x_tb : Int64} {x_ts : Nat → Int32} {x_fg : Nat → Int64} {x_fb : Int64} {x_fV : Nat → Nat → Int64} {x_fS : Nat → Int64} {x_fn : Int32} {x_cg : Nat → Int64} {x_cb : Int64} {x_cB : Nat → Int64} {x_cq : Int64} {x_vHeld : Int32} {x_vRed : Int32} {x_vTal : Int32} {x_vLis : Int32}  {out : (Nat → Nat → Int64) × Int64 × (Nat → Nat → Int64) × (Nat → Int64) × Int32} (h : F_fill F  x_bR x_bD x_bQ x_bW x_bS x_bn x_fg x_fb x_fV x_fS x_fn  = some out) : Mt yF_fillJ cF_fillJ 4 none rm_F_fill κ [.ref (κ.1 66), .ref (κ.1 38)] (LM κ τ (LC κ (x_added, x_asked, x_eR, x_et, x_oR, x_ot, x_bR, x_bD, x_bQ, x_bW, x_bS, x_bM, x_bT, x_bn, x_tg, x_tb, x_ts, x_fg, x_fb, x_fV, x_fS, x_fn, x_cg, x_cb, x_cB, x_cq, x_vHeld, x_vRed, x_vTal, x_vLis))) none (LM κ τ (LC κ (x_added, x_asked, x_eR, x_et, x_oR, x_ot, x_bR, x_bD, x_bQ, x_bW, out.1, x_bM, x_bT, x_bn, x_tg, x_tb, x_ts, x_fg, out.2.1, out.2.2.1, out.2.2.2.1, out.2.2.2.2, x_cg, x_cb, x_cB, x_cq, x_vHeld, x_vRed, x_vTal, x_vLis))) := by
  refine Mt.of (by decide) (Nat.le_of_ble_eq_true rfl) ?_
  intro g G Fh
  unfold F_fill at h
  show J g κ 4 0 [(0, .ref (κ.1 66)), (1, .ref (κ.1 38))] [] (LM κ τ (LC κ (x_added, x_asked, x_eR, x_et, x_oR, x_ot, x_bR, x_bD, x_bQ, x_bW, x_bS, x_bM, x_bT, x_bn, x_tg, x_tb, x_ts, x_fg, x_fb, x_fV, x_fS, x_fn, x_cg, x_cb, x_cB, x_cq, x_vHeld, x_vRed, x_vTal, x_vLis)))
  refine w_aload_n (pc := 0) (q := 0) G dF_fillJ_0 rfl rfl ?_
  refine w_iconst (pc := 1) (v := (0 : Int32)) G dF_fillJ_1 (by decide) ?_
  refine w_put (pc := 2) (fs := fl_F κ (x_added, x_asked, x_eR, x_et, x_oR, x_ot, x_bR, x_bD, x_bQ, x_bW, x_bS, x_bM, x_bT, x_bn, x_tg, x_tb, x_ts, x_fg, x_fb, x_fV, x_fS, x_fn, x_cg, x_cb, x_cB, x_cq, x_vHeld, x_vRed, x_vTal, x_vLis)) (L1 := (LM κ τ (LC κ (x_added, x_asked, x_eR, x_et, x_oR, x_ot, x_bR, x_bD, x_bQ, x_bW, x_bS, x_bM, x_bT, x_bn, x_tg, x_tb, x_ts, x_fg, x_fb, x_fV, x_fS, (0 : Int32), x_cg, x_cb, x_cB, x_cq, x_vHeld, x_vRed, x_vTal, x_vLis)))) G 66 (by decide) lb_F rfl wsF_ok tyF tyF_ok nmF 4 (by decide) wd98 rfl rfl rfl (Nat.le_of_ble_eq_true rfl) dF_fillJ_2 upf_fn ?_
  refine w_ldc2 (pc := 5) (v := (20 : Int64)) G wd445 dF_fillJ_5 ?_
  refine w_lstore_n (pc := 8) (lv' := [(2, .long (20 : Int64)), (0, .ref (κ.1 66)), (1, .ref (κ.1 38))]) G dF_fillJ_8 rfl (by decide) rfl ?_
  refine w_aload_n (pc := 9) (q := 1) G dF_fillJ_9 rfl rfl ?_
  refine w_lload_n (pc := 10) (q := 0) G dF_fillJ_10 rfl rfl ?_
  refine w_lload_n (pc := 11) (q := 0) G dF_fillJ_11 rfl rfl ?_
  refine w_lmul (pc := 12) G dF_fillJ_12 ?_
  refine w_aload_n (pc := 13) (q := 2) G dF_fillJ_13 rfl rfl ?_
  obtain ⟨r14, e14, h⟩ := bd h
  refine w_callV (pc := 14) (av := []) (rest := [.long ((20 : Int64) * (20 : Int64)), .ref (κ.1 66)]) (v := some (.long r14)) (L' := (LM κ τ (LC κ (x_added, x_asked, x_eR, x_et, x_oR, x_ot, x_bR, x_bD, x_bQ, x_bW, x_bS, x_bM, x_bT, x_bn, x_tg, x_tb, x_ts, x_fg, x_fb, x_fV, x_fS, (0 : Int32), x_cg, x_cb, x_cB, x_cq, x_vHeld, x_vRed, x_vTal, x_vLis)))) (T := TB) (fs := fl_B κ (x_added, x_asked, x_eR, x_et, x_oR, x_ot, x_bR, x_bD, x_bQ, x_bW, x_bS, x_bM, x_bT, x_bn, x_tg, x_tb, x_ts, x_fg, x_fb, x_fV, x_fS, (0 : Int32), x_cg, x_cb, x_cB, x_cq, x_vHeld, x_vRed, x_vTal, x_vLis)) G 38 3 8 (by decide) lb_B rfl cb_B_leastSquare_F_fill wd447 wd448 wd446 (met_B_leastSquare κ τ F   e14) rfl rfl rfl (Nat.le_of_ble_eq_true rfl) dF_fillJ_14 ?_
  refine w_lmul (pc := 17) G dF_fillJ_17 ?_
  obtain ⟨r18, e18, h⟩ := bd h
  refine w_callU (pc := 18) (av := [.long (((20 : Int64) * (20 : Int64)) * r14)]) (rest := []) (v := none) (L' := (LM κ τ (LC κ (x_added, x_asked, x_eR, x_et, x_oR, x_ot, x_bR, x_bD, x_bQ, x_bW, x_bS, x_bM, x_bT, x_bn, x_tg, x_tb, x_ts, x_fg, r18, x_fV, x_fS, (0 : Int32), x_cg, x_cb, x_cB, x_cq, x_vHeld, x_vRed, x_vTal, x_vLis)))) (T := TF) (fs := fl_F κ (x_added, x_asked, x_eR, x_et, x_oR, x_ot, x_bR, x_bD, x_bQ, x_bW, x_bS, x_bM, x_bT, x_bn, x_tg, x_tb, x_ts, x_fg, x_fb, x_fV, x_fS, (0 : Int32), x_cg, x_cb, x_cB, x_cq, x_vHeld, x_vRed, x_vTal, x_vLis)) G 66 5 5 (by decide) lb_F rfl cb_K_setBudget_F_F_fill wd416 wd417 wd418 wd357 wd355 (by decide) rfl (met_K_setBudget_F κ τ F (((20 : Int64) * (20 : Int64)) * r14)  e18) rfl rfl rfl (Nat.le_of_ble_eq_true rfl) dF_fillJ_18 ?_
  refine w_aload_n (pc := 21) (q := 2) G dF_fillJ_21 rfl rfl ?_
  refine w_aload_n (pc := 22) (q := 1) G dF_fillJ_22 rfl rfl ?_
  obtain ⟨r23, e23, h⟩ := bd h
  refine w_callV (pc := 23) (av := [.ref (κ.1 66)]) (rest := []) (v := none) (L' := (LM κ τ (LC κ (x_added, x_asked, x_eR, x_et, x_oR, x_ot, x_bR, x_bD, x_bQ, x_bW, r23.1, x_bM, x_bT, x_bn, x_tg, x_tb, x_ts, x_fg, r23.2.1, r23.2.2.1, r23.2.2.2.1, r23.2.2.2.2, x_cg, x_cb, x_cB, x_cq, x_vHeld, x_vRed, x_vTal, x_vLis)))) (T := TB) (fs := fl_B κ (x_added, x_asked, x_eR, x_et, x_oR, x_ot, x_bR, x_bD, x_bQ, x_bW, x_bS, x_bM, x_bT, x_bn, x_tg, x_tb, x_ts, x_fg, r18, x_fV, x_fS, (0 : Int32), x_cg, x_cb, x_cB, x_cq, x_vHeld, x_vRed, x_vTal, x_vLis)) G 38 3 8 (by decide) lb_B rfl cb_B_search_F_F_fill wd360 wd361 wd450 (met_B_search_F κ τ F   e23) rfl rfl rfl (Nat.le_of_ble_eq_true rfl) dF_fillJ_23 ?_
  obtain rfl := Option.some.inj h
  exact w_vret (pc := 26) G dF_fillJ_26 Fh
def rm_C_approach : Room := { frames := 16, cells := 0, slots := 0, locals := 538 }
theorem dC_approach_0 : decode cC_approach 0 = .ok (.aload_n 2, 1) := by decide +kernel
theorem dC_approach_1 : decode cC_approach 1 = .ok (.aload_n 0, 1) := by decide +kernel
theorem dC_approach_2 : decode cC_approach 2 = .ok (.invokevirtual 15, 3) := by decide +kernel
theorem dC_approach_5 : decode cC_approach 5 = .ok (.invokestatic 19, 3) := by decide +kernel
theorem dC_approach_8 : decode cC_approach 8 = .ok (.aload_n 0, 1) := by decide +kernel
theorem dC_approach_9 : decode cC_approach 9 = .ok (.getfield 9, 3) := by decide +kernel
theorem dC_approach_12 : decode cC_approach 12 = .ok (.lconst 0, 1) := by decide +kernel
theorem dC_approach_13 : decode cC_approach 13 = .ok (.invokestatic 23, 3) := by decide +kernel
theorem dC_approach_16 : decode cC_approach 16 = .ok (.aload_n 0, 1) := by decide +kernel
theorem dC_approach_17 : decode cC_approach 17 = .ok (.getfield 9, 3) := by decide +kernel
theorem dC_approach_20 : decode cC_approach 20 = .ok (.aload_n 2, 1) := by decide +kernel
theorem dC_approach_21 : decode cC_approach 21 = .ok (.ldc2_w 29, 3) := by decide +kernel
theorem dC_approach_24 : decode cC_approach 24 = .ok (.invokestatic 31, 3) := by decide +kernel
theorem dC_approach_27 : decode cC_approach 27 = .ok (.aload_n 0, 1) := by decide +kernel
theorem dC_approach_28 : decode cC_approach 28 = .ok (.aload_n 0, 1) := by decide +kernel
theorem dC_approach_29 : decode cC_approach 29 = .ok (.getfield 9, 3) := by decide +kernel
theorem dC_approach_32 : decode cC_approach 32 = .ok (.aload_n 0, 1) := by decide +kernel
theorem dC_approach_33 : decode cC_approach 33 = .ok (.getfield 9, 3) := by decide +kernel
theorem dC_approach_36 : decode cC_approach 36 = .ok (.invokestatic 35, 3) := by decide +kernel
theorem dC_approach_39 : decode cC_approach 39 = .ok (.putfield 39, 3) := by decide +kernel
theorem dC_approach_42 : decode cC_approach 42 = .ok (.aload_n 0, 1) := by decide +kernel
theorem dC_approach_43 : decode cC_approach 43 = .ok (.aload_n 0, 1) := by decide +kernel
theorem dC_approach_44 : decode cC_approach 44 = .ok (.getfield 39, 3) := by decide +kernel
theorem dC_approach_47 : decode cC_approach 47 = .ok (.invokevirtual 43, 3) := by decide +kernel
theorem dC_approach_50 : decode cC_approach 50 = .ok (.aload_n 1, 1) := by decide +kernel
theorem dC_approach_51 : decode cC_approach 51 = .ok (.aload_n 0, 1) := by decide +kernel
theorem dC_approach_52 : decode cC_approach 52 = .ok (.invokevirtual 47, 3) := by decide +kernel
theorem dC_approach_55 : decode cC_approach 55 = .ok (.return_, 1) := by decide +kernel
theorem cb_V_addMultiple_C_approach : CB yV_addMultiple cV_addMultiple 5 none rm_V_addMultiple rm_C_approach 3 := ⟨wd187, wd1, by decide +kernel, rfl, rfl, by decide⟩
theorem cb_V_copy_C_approach : CB yV_copy cV_copy 2 none rm_V_copy rm_C_approach 2 := ⟨wd170, wd1, by decide +kernel, rfl, rfl, by decide⟩
theorem cb_V_product_C_approach : CB yV_product cV_product 5 (some .long) rm_V_product rm_C_approach 2 := ⟨wd263, wd1, by decide +kernel, rfl, rfl, by decide⟩
theorem cb_B_search_C_C_approach : CB yB_search cB_search 2 none rm_B_search_C rm_C_approach 1 := ⟨wd362, wd3, by decide +kernel, rfl, rfl, by decide⟩
theorem cb_K_goal_C_C_approach : CB yK_goal cK_goal 1 (some (.array .long)) rm_K_goal_C rm_C_approach 0 := ⟨wd370, wd4, by decide +kernel, rfl, rfl, by decide⟩
theorem cb_K_setBudget_C_C_approach : CB yK_setBudget cK_setBudget 3 none rm_K_setBudget_C rm_C_approach 1 := ⟨wd358, wd4, by decide +kernel, rfl, rfl, by decide⟩
theorem cb_JA_fillJ_C_approach : CB yJA_fillJ cJA_fillJ 5 none rm_JA_fillJ rm_C_approach 2 := ⟨wd217, wd11, by decide +kernel, rfl, rfl, by decide⟩
noncomputable def C_approach (F : Nat)  (x_asked : Nat → Int64) (x_bR : Nat → Nat → Int64) (x_bD : Nat → Nat → Int64) (x_bQ : Nat → Int64) (x_bW : Nat → Int64) (x_bS : Nat → Nat → Int64) (x_bn : Int32) (x_cg : Nat → Int64) (x_cb : Int64) (x_cB : Nat → Int64) (x_cq : Int64)  : Option ((Nat → Nat → Int64) × (Nat → Int64) × Int64 × (Nat → Int64) × Int64) := (K_goal F  ).bind (fun r2 => (V_copy F x_asked x_cg ).bind (fun r5 => (JA_fillJ F x_cB (0 : Int64)).bind (fun r13 => (V_addMultiple F r13 x_asked (-1 : Int64)).bind (fun r24 => (V_product F r24 r24 ).bind (fun r36 => (K_setBudget F x_cb r36).bind (fun r47 => (B_search_C F x_bR x_bD x_bQ x_bW x_bS x_bn r5 r47 r24 r36 ).bind (fun r52 => some (r52.1, r5, r52.2.1, r52.2.2.1, r52.2.2.2))))))))
set_option maxHeartbeats 8000000 in
set_option maxRecDepth 100000 in
theorem met_C_approach (κ : ctx) (τ : MS) (F : Nat) {x_added : Nat → Nat → Int64} {x_asked : Nat → Int64} {x_eR : Nat → Nat → Int64} {x_et : Nat → Int64} {x_oR : Nat → Nat → Int64} {x_ot : Nat → Int64} {x_bR : Nat → Nat → Int64} {x_bD : Nat → Nat → Int64} {x_bQ : Nat → Int64} {x_bW : Nat → Int64} {x_bS : Nat → Nat → Int64} {x_bM : Nat → Nat → Int64} {x_bT : Nat → Int64} {x_bn : Int32} {x_tg : Nat → Int64} {x_tb : Int64} {x_ts : Nat → Int32} {x_fg : Nat → Int64} {x_fb : Int64} {x_fV : Nat → Nat → Int64} {x_fS : Nat → Int64} {x_fn : Int32} {x_cg : Nat → Int64} {x_cb : Int64} {x_cB : Nat → Int64} {x_cq : Int64} {x_vHeld : Int32} {x_vRed : Int32} {x_vTal : Int32} {x_vLis : Int32}  {out : (Nat → Nat → Int64) × (Nat → Int64) × Int64 × (Nat → Int64) × Int64} (h : C_approach F  x_asked x_bR x_bD x_bQ x_bW x_bS x_bn x_cg x_cb x_cB x_cq  = some out) : Mt yC_approach cC_approach 3 none rm_C_approach κ [.ref (κ.1 111), .ref (κ.1 38), .ref (κ.1 23)] (LM κ τ (LC κ (x_added, x_asked, x_eR, x_et, x_oR, x_ot, x_bR, x_bD, x_bQ, x_bW, x_bS, x_bM, x_bT, x_bn, x_tg, x_tb, x_ts, x_fg, x_fb, x_fV, x_fS, x_fn, x_cg, x_cb, x_cB, x_cq, x_vHeld, x_vRed, x_vTal, x_vLis))) none (LM κ τ (LC κ (x_added, x_asked, x_eR, x_et, x_oR, x_ot, x_bR, x_bD, x_bQ, x_bW, out.1, x_bM, x_bT, x_bn, x_tg, x_tb, x_ts, x_fg, x_fb, x_fV, x_fS, x_fn, out.2.1, out.2.2.1, out.2.2.2.1, out.2.2.2.2, x_vHeld, x_vRed, x_vTal, x_vLis))) := by
  refine Mt.of (by decide) (Nat.le_of_ble_eq_true rfl) ?_
  intro g G Fh
  unfold C_approach at h
  show J g κ 3 0 [(0, .ref (κ.1 111)), (1, .ref (κ.1 38)), (2, .ref (κ.1 23))] [] (LM κ τ (LC κ (x_added, x_asked, x_eR, x_et, x_oR, x_ot, x_bR, x_bD, x_bQ, x_bW, x_bS, x_bM, x_bT, x_bn, x_tg, x_tb, x_ts, x_fg, x_fb, x_fV, x_fS, x_fn, x_cg, x_cb, x_cB, x_cq, x_vHeld, x_vRed, x_vTal, x_vLis)))
  refine w_aload_n (pc := 0) (q := 2) G dC_approach_0 rfl rfl ?_
  refine w_aload_n (pc := 1) (q := 0) G dC_approach_1 rfl rfl ?_
  obtain ⟨r2, e2, h⟩ := bd h
  refine w_callU (pc := 2) (av := []) (rest := [.ref (κ.1 23)]) (v := some (.ref (κ.1 112))) (L' := (LM κ τ (LC κ (x_added, x_asked, x_eR, x_et, x_oR, x_ot, x_bR, x_bD, x_bQ, x_bW, x_bS, x_bM, x_bT, x_bn, x_tg, x_tb, x_ts, x_fg, x_fb, x_fV, x_fS, x_fn, x_cg, x_cb, x_cB, x_cq, x_vHeld, x_vRed, x_vTal, x_vLis)))) (T := TC) (fs := fl_C κ (x_added, x_asked, x_eR, x_et, x_oR, x_ot, x_bR, x_bD, x_bQ, x_bW, x_bS, x_bM, x_bT, x_bn, x_tg, x_tb, x_ts, x_fg, x_fb, x_fV, x_fS, x_fn, x_cg, x_cb, x_cB, x_cq, x_vHeld, x_vRed, x_vTal, x_vLis)) G 111 6 4 (by decide) lb_C rfl cb_K_goal_C_C_approach wd463 wd464 wd466 wd365 wd465 (by decide) rfl (met_K_goal_C κ τ F   e2) rfl rfl rfl (Nat.le_of_ble_eq_true rfl) dC_approach_2 ?_
  obtain ⟨r5, e5, h⟩ := bd h
  refine w_callSN (pc := 5) (av := [.ref (κ.1 23), .ref (κ.1 112)]) (rest := []) (v := none) (L' := (LM κ τ (LC κ (x_added, x_asked, x_eR, x_et, x_oR, x_ot, x_bR, x_bD, x_bQ, x_bW, x_bS, x_bM, x_bT, x_bn, x_tg, x_tb, x_ts, x_fg, x_fb, x_fV, x_fS, x_fn, r5, x_cb, x_cB, x_cq, x_vHeld, x_vRed, x_vTal, x_vLis)))) G cb_V_copy_C_approach wd169 wd390 (Mt.eqw up_cg (met_V_copy κ (LM κ τ (LC κ (x_added, x_asked, x_eR, x_et, x_oR, x_ot, x_bR, x_bD, x_bQ, x_bW, x_bS, x_bM, x_bT, x_bn, x_tg, x_tb, x_ts, x_fg, x_fb, x_fV, x_fS, x_fn, x_cg, x_cb, x_cB, x_cq, x_vHeld, x_vRed, x_vTal, x_vLis))) F  23 (by decide) x_asked lk_asked 112 (by decide) x_cg lk_cg (by decide) e5)) rfl rfl rfl (Nat.le_of_ble_eq_true rfl) dC_approach_5 ?_
  refine w_aload_n (pc := 8) (q := 0) G dC_approach_8 rfl rfl ?_
  refine w_get (pc := 9) (v := .ref (κ.1 113)) (fs := fl_C κ (x_added, x_asked, x_eR, x_et, x_oR, x_ot, x_bR, x_bD, x_bQ, x_bW, x_bS, x_bM, x_bT, x_bn, x_tg, x_tb, x_ts, x_fg, x_fb, x_fV, x_fS, x_fn, r5, x_cb, x_cB, x_cq, x_vHeld, x_vRed, x_vTal, x_vLis)) G 111 (by decide) lb_C rfl wsC_ok 2 (by decide) wd114 gf_C_2 dC_approach_9 ?_
  refine w_lconst (pc := 12) (v := (0 : Int64)) G dC_approach_12 (by decide) ?_
  obtain ⟨r13, e13, h⟩ := bd h
  refine w_callS (pc := 13) (av := [.ref (κ.1 113), .long (0 : Int64)]) (rest := []) (v := none) (L' := (LM κ τ (LC κ (x_added, x_asked, x_eR, x_et, x_oR, x_ot, x_bR, x_bD, x_bQ, x_bW, x_bS, x_bM, x_bT, x_bn, x_tg, x_tb, x_ts, x_fg, x_fb, x_fV, x_fS, x_fn, r5, x_cb, r13, x_cq, x_vHeld, x_vRed, x_vTal, x_vLis)))) G cb_JA_fillJ_C_approach wd216 wd467 (Mt.eqw up_cB (met_JA_fillJ κ (LM κ τ (LC κ (x_added, x_asked, x_eR, x_et, x_oR, x_ot, x_bR, x_bD, x_bQ, x_bW, x_bS, x_bM, x_bT, x_bn, x_tg, x_tb, x_ts, x_fg, x_fb, x_fV, x_fS, x_fn, r5, x_cb, x_cB, x_cq, x_vHeld, x_vRed, x_vTal, x_vLis))) F (0 : Int64) 113 (by decide) x_cB lk_cB e13)) rfl rfl rfl (Nat.le_of_ble_eq_true rfl) dC_approach_13 ?_
  refine w_aload_n (pc := 16) (q := 0) G dC_approach_16 rfl rfl ?_
  refine w_get (pc := 17) (v := .ref (κ.1 113)) (fs := fl_C κ (x_added, x_asked, x_eR, x_et, x_oR, x_ot, x_bR, x_bD, x_bQ, x_bW, x_bS, x_bM, x_bT, x_bn, x_tg, x_tb, x_ts, x_fg, x_fb, x_fV, x_fS, x_fn, r5, x_cb, r13, x_cq, x_vHeld, x_vRed, x_vTal, x_vLis)) G 111 (by decide) lb_C rfl wsC_ok 2 (by decide) wd114 gf_C_2 dC_approach_17 ?_
  refine w_aload_n (pc := 20) (q := 2) G dC_approach_20 rfl rfl ?_
  refine w_ldc2 (pc := 21) (v := (-1 : Int64)) G wd468 dC_approach_21 ?_
  obtain ⟨r24, e24, h⟩ := bd h
  refine w_callSN (pc := 24) (av := [.ref (κ.1 113), .ref (κ.1 23), .long (-1 : Int64)]) (rest := []) (v := none) (L' := (LM κ τ (LC κ (x_added, x_asked, x_eR, x_et, x_oR, x_ot, x_bR, x_bD, x_bQ, x_bW, x_bS, x_bM, x_bT, x_bn, x_tg, x_tb, x_ts, x_fg, x_fb, x_fV, x_fS, x_fn, r5, x_cb, r24, x_cq, x_vHeld, x_vRed, x_vTal, x_vLis)))) G cb_V_addMultiple_C_approach wd186 wd469 (Mt.eqw up_cB (met_V_addMultiple κ (LM κ τ (LC κ (x_added, x_asked, x_eR, x_et, x_oR, x_ot, x_bR, x_bD, x_bQ, x_bW, x_bS, x_bM, x_bT, x_bn, x_tg, x_tb, x_ts, x_fg, x_fb, x_fV, x_fS, x_fn, r5, x_cb, r13, x_cq, x_vHeld, x_vRed, x_vTal, x_vLis))) F (-1 : Int64) 113 (by decide) r13 lk_cB 23 (by decide) x_asked lk_asked (by decide) e24)) rfl rfl rfl (Nat.le_of_ble_eq_true rfl) dC_approach_24 ?_
  refine w_aload_n (pc := 27) (q := 0) G dC_approach_27 rfl rfl ?_
  refine w_aload_n (pc := 28) (q := 0) G dC_approach_28 rfl rfl ?_
  refine w_get (pc := 29) (v := .ref (κ.1 113)) (fs := fl_C κ (x_added, x_asked, x_eR, x_et, x_oR, x_ot, x_bR, x_bD, x_bQ, x_bW, x_bS, x_bM, x_bT, x_bn, x_tg, x_tb, x_ts, x_fg, x_fb, x_fV, x_fS, x_fn, r5, x_cb, r24, x_cq, x_vHeld, x_vRed, x_vTal, x_vLis)) G 111 (by decide) lb_C rfl wsC_ok 2 (by decide) wd114 gf_C_2 dC_approach_29 ?_
  refine w_aload_n (pc := 32) (q := 0) G dC_approach_32 rfl rfl ?_
  refine w_get (pc := 33) (v := .ref (κ.1 113)) (fs := fl_C κ (x_added, x_asked, x_eR, x_et, x_oR, x_ot, x_bR, x_bD, x_bQ, x_bW, x_bS, x_bM, x_bT, x_bn, x_tg, x_tb, x_ts, x_fg, x_fb, x_fV, x_fS, x_fn, r5, x_cb, r24, x_cq, x_vHeld, x_vRed, x_vTal, x_vLis)) G 111 (by decide) lb_C rfl wsC_ok 2 (by decide) wd114 gf_C_2 dC_approach_33 ?_
  obtain ⟨r36, e36, h⟩ := bd h
  refine w_callSN (pc := 36) (av := [.ref (κ.1 113), .ref (κ.1 113)]) (rest := [.ref (κ.1 111)]) (v := some (.long r36)) (L' := (LM κ τ (LC κ (x_added, x_asked, x_eR, x_et, x_oR, x_ot, x_bR, x_bD, x_bQ, x_bW, x_bS, x_bM, x_bT, x_bn, x_tg, x_tb, x_ts, x_fg, x_fb, x_fV, x_fS, x_fn, r5, x_cb, r24, x_cq, x_vHeld, x_vRed, x_vTal, x_vLis)))) G cb_V_product_C_approach wd262 wd470 (met_V_product κ (LM κ τ (LC κ (x_added, x_asked, x_eR, x_et, x_oR, x_ot, x_bR, x_bD, x_bQ, x_bW, x_bS, x_bM, x_bT, x_bn, x_tg, x_tb, x_ts, x_fg, x_fb, x_fV, x_fS, x_fn, r5, x_cb, r24, x_cq, x_vHeld, x_vRed, x_vTal, x_vLis))) F  113 (by decide) r24 lk_cB 113 (by decide) r24 lk_cB e36) rfl rfl rfl (Nat.le_of_ble_eq_true rfl) dC_approach_36 ?_
  refine w_put (pc := 39) (fs := fl_C κ (x_added, x_asked, x_eR, x_et, x_oR, x_ot, x_bR, x_bD, x_bQ, x_bW, x_bS, x_bM, x_bT, x_bn, x_tg, x_tb, x_ts, x_fg, x_fb, x_fV, x_fS, x_fn, r5, x_cb, r24, x_cq, x_vHeld, x_vRed, x_vTal, x_vLis)) (L1 := (LM κ τ (LC κ (x_added, x_asked, x_eR, x_et, x_oR, x_ot, x_bR, x_bD, x_bQ, x_bW, x_bS, x_bM, x_bT, x_bn, x_tg, x_tb, x_ts, x_fg, x_fb, x_fV, x_fS, x_fn, r5, x_cb, r24, r36, x_vHeld, x_vRed, x_vTal, x_vLis)))) G 111 (by decide) lb_C rfl wsC_ok tyC tyC_ok nmC 3 (by decide) wd115 rfl rfl rfl (Nat.le_of_ble_eq_true rfl) dC_approach_39 upf_cq ?_
  refine w_aload_n (pc := 42) (q := 0) G dC_approach_42 rfl rfl ?_
  refine w_aload_n (pc := 43) (q := 0) G dC_approach_43 rfl rfl ?_
  refine w_get (pc := 44) (v := .long r36) (fs := fl_C κ (x_added, x_asked, x_eR, x_et, x_oR, x_ot, x_bR, x_bD, x_bQ, x_bW, x_bS, x_bM, x_bT, x_bn, x_tg, x_tb, x_ts, x_fg, x_fb, x_fV, x_fS, x_fn, r5, x_cb, r24, r36, x_vHeld, x_vRed, x_vTal, x_vLis)) G 111 (by decide) lb_C rfl wsC_ok 3 (by decide) wd115 gf_C_3 dC_approach_44 ?_
  obtain ⟨r47, e47, h⟩ := bd h
  refine w_callU (pc := 47) (av := [.long r36]) (rest := []) (v := none) (L' := (LM κ τ (LC κ (x_added, x_asked, x_eR, x_et, x_oR, x_ot, x_bR, x_bD, x_bQ, x_bW, x_bS, x_bM, x_bT, x_bn, x_tg, x_tb, x_ts, x_fg, x_fb, x_fV, x_fS, x_fn, r5, r47, r24, r36, x_vHeld, x_vRed, x_vTal, x_vLis)))) (T := TC) (fs := fl_C κ (x_added, x_asked, x_eR, x_et, x_oR, x_ot, x_bR, x_bD, x_bQ, x_bW, x_bS, x_bM, x_bT, x_bn, x_tg, x_tb, x_ts, x_fg, x_fb, x_fV, x_fS, x_fn, r5, x_cb, r24, r36, x_vHeld, x_vRed, x_vTal, x_vLis)) G 111 6 4 (by decide) lb_C rfl cb_K_setBudget_C_C_approach wd391 wd392 wd393 wd357 wd355 (by decide) rfl (met_K_setBudget_C κ τ F r36  e47) rfl rfl rfl (Nat.le_of_ble_eq_true rfl) dC_approach_47 ?_
  refine w_aload_n (pc := 50) (q := 1) G dC_approach_50 rfl rfl ?_
  refine w_aload_n (pc := 51) (q := 0) G dC_approach_51 rfl rfl ?_
  obtain ⟨r52, e52, h⟩ := bd h
  refine w_callV (pc := 52) (av := [.ref (κ.1 111)]) (rest := []) (v := none) (L' := (LM κ τ (LC κ (x_added, x_asked, x_eR, x_et, x_oR, x_ot, x_bR, x_bD, x_bQ, x_bW, r52.1, x_bM, x_bT, x_bn, x_tg, x_tb, x_ts, x_fg, x_fb, x_fV, x_fS, x_fn, r5, r52.2.1, r52.2.2.1, r52.2.2.2, x_vHeld, x_vRed, x_vTal, x_vLis)))) (T := TB) (fs := fl_B κ (x_added, x_asked, x_eR, x_et, x_oR, x_ot, x_bR, x_bD, x_bQ, x_bW, x_bS, x_bM, x_bT, x_bn, x_tg, x_tb, x_ts, x_fg, x_fb, x_fV, x_fS, x_fn, r5, r47, r24, r36, x_vHeld, x_vRed, x_vTal, x_vLis)) G 38 3 8 (by decide) lb_B rfl cb_B_search_C_C_approach wd360 wd361 wd471 (met_B_search_C κ τ F   e52) rfl rfl rfl (Nat.le_of_ble_eq_true rfl) dC_approach_52 ?_
  obtain rfl := Option.some.inj h
  exact w_vret (pc := 55) G dC_approach_55 Fh
def rm_V_count : Room := { frames := 17, cells := 0, slots := 0, locals := 560 }
theorem dV_count_0 : decode cV_count 0 = .ok (.iload_n 1, 1) := by decide +kernel
theorem dV_count_1 : decode cV_count 1 = .ok (.ifCond .lt 9, 3) := by decide +kernel
theorem dV_count_4 : decode cV_count 4 = .ok (.iload_n 1, 1) := by decide +kernel
theorem dV_count_5 : decode cV_count 5 = .ok (.bipush 40, 2) := by decide +kernel
theorem dV_count_7 : decode cV_count 7 = .ok (.if_icmp .le 5, 3) := by decide +kernel
theorem dV_count_10 : decode cV_count 10 = .ok (.iconst (-1), 1) := by decide +kernel
theorem dV_count_11 : decode cV_count 11 = .ok (.ireturn, 1) := by decide +kernel
theorem dV_count_12 : decode cV_count 12 = .ok (.aload_n 0, 1) := by decide +kernel
theorem dV_count_13 : decode cV_count 13 = .ok (.getfield 105, 3) := by decide +kernel
theorem dV_count_16 : decode cV_count 16 = .ok (.ifCond .ne 19, 3) := by decide +kernel
theorem dV_count_19 : decode cV_count 19 = .ok (.aload_n 0, 1) := by decide +kernel
theorem dV_count_20 : decode cV_count 20 = .ok (.getfield 38, 3) := by decide +kernel
theorem dV_count_23 : decode cV_count 23 = .ok (.aload_n 0, 1) := by decide +kernel
theorem dV_count_24 : decode cV_count 24 = .ok (.invokevirtual 83, 3) := by decide +kernel
theorem dV_count_27 : decode cV_count 27 = .ok (.invokevirtual 109, 3) := by decide +kernel
theorem dV_count_30 : decode cV_count 30 = .ok (.aload_n 0, 1) := by decide +kernel
theorem dV_count_31 : decode cV_count 31 = .ok (.iconst 1, 1) := by decide +kernel
theorem dV_count_32 : decode cV_count 32 = .ok (.putfield 105, 3) := by decide +kernel
theorem dV_count_35 : decode cV_count 35 = .ok (.aload_n 0, 1) := by decide +kernel
theorem dV_count_36 : decode cV_count 36 = .ok (.getfield 38, 3) := by decide +kernel
theorem dV_count_39 : decode cV_count 39 = .ok (.iload_n 1, 1) := by decide +kernel
theorem dV_count_40 : decode cV_count 40 = .ok (.invokevirtual 113, 3) := by decide +kernel
theorem dV_count_43 : decode cV_count 43 = .ok (.ireturn, 1) := by decide +kernel
theorem cb_V_readyBasis_V_count : CB yV_readyBasis cV_readyBasis 1 (some (.object "ShortVectors$Basis")) rm_V_readyBasis rm_V_count 0 := ⟨wd237, wd1, by decide +kernel, rfl, rfl, by decide⟩
theorem cb_T_fill_V_count : CB yT_fillJ cT_fillJ 3 none rm_T_fill rm_V_count 1 := ⟨wd348, wd5, by decide +kernel, rfl, rfl, by decide⟩
theorem cb_T_upTo_V_count : CB yT_upTo cT_upTo 2 (some .int) rm_T_upTo rm_V_count 1 := ⟨wd433, wd5, by decide +kernel, rfl, rfl, by decide⟩
noncomputable def V_count (F : Nat)  (x_eR : Nat → Nat → Int64) (x_bR : Nat → Nat → Int64) (x_bD : Nat → Nat → Int64) (x_bQ : Nat → Int64) (x_bW : Nat → Int64) (x_bS : Nat → Nat → Int64) (x_bT : Nat → Int64) (x_bn : Int32) (x_tg : Nat → Int64) (x_tb : Int64) (x_ts : Nat → Int32) (x_vRed : Int32) (x_vTal : Int32) (v1 : Int32) : Option (Int32 × (Nat → Nat → Int64) × (Nat → Nat → Int64) × (Nat → Int64) × (Nat → Int64) × (Nat → Nat → Int64) × (Nat → Int64) × Int32 × Int64 × (Nat → Int32) × Int32 × Int32) := if v1 < 0 then some ((-1 : Int32), x_bR, x_bD, x_bQ, x_bW, x_bS, x_bT, x_bn, x_tb, x_ts, x_vRed, x_vTal) else if v1 ≤ (40 : Int32) then if x_vTal = 0 then (V_readyBasis F x_eR x_bR x_bD x_bQ x_bW x_bT x_bn x_vRed ).bind (fun r24 => (T_fill F r24.1 r24.2.1 r24.2.2.1 r24.2.2.2.1 x_bS r24.2.2.2.2.2.1 x_tg x_tb x_ts ).bind (fun r27 => (T_upTo F r27.2.2 v1).bind (fun r40 => some (r40, r24.1, r24.2.1, r24.2.2.1, r24.2.2.2.1, r27.1, r24.2.2.2.2.1, r24.2.2.2.2.2.1, r27.2.1, r27.2.2, r24.2.2.2.2.2.2, (1 : Int32))))) else (T_upTo F x_ts v1).bind (fun r40 => some (r40, x_bR, x_bD, x_bQ, x_bW, x_bS, x_bT, x_bn, x_tb, x_ts, x_vRed, x_vTal)) else some ((-1 : Int32), x_bR, x_bD, x_bQ, x_bW, x_bS, x_bT, x_bn, x_tb, x_ts, x_vRed, x_vTal)
set_option maxHeartbeats 8000000 in
set_option maxRecDepth 100000 in
theorem met_V_count (κ : ctx) (τ : MS) (F : Nat) {x_added : Nat → Nat → Int64} {x_asked : Nat → Int64} {x_eR : Nat → Nat → Int64} {x_et : Nat → Int64} {x_oR : Nat → Nat → Int64} {x_ot : Nat → Int64} {x_bR : Nat → Nat → Int64} {x_bD : Nat → Nat → Int64} {x_bQ : Nat → Int64} {x_bW : Nat → Int64} {x_bS : Nat → Nat → Int64} {x_bM : Nat → Nat → Int64} {x_bT : Nat → Int64} {x_bn : Int32} {x_tg : Nat → Int64} {x_tb : Int64} {x_ts : Nat → Int32} {x_fg : Nat → Int64} {x_fb : Int64} {x_fV : Nat → Nat → Int64} {x_fS : Nat → Int64} {x_fn : Int32} {x_cg : Nat → Int64} {x_cb : Int64} {x_cB : Nat → Int64} {x_cq : Int64} {x_vHeld : Int32} {x_vRed : Int32} {x_vTal : Int32} {x_vLis : Int32} (v1 : Int32) {out : Int32 × (Nat → Nat → Int64) × (Nat → Nat → Int64) × (Nat → Int64) × (Nat → Int64) × (Nat → Nat → Int64) × (Nat → Int64) × Int32 × Int64 × (Nat → Int32) × Int32 × Int32} (h : V_count F  x_eR x_bR x_bD x_bQ x_bW x_bS x_bT x_bn x_tg x_tb x_ts x_vRed x_vTal v1 = some out) : Mt yV_count cV_count 2 (some .int) rm_V_count κ [.ref (κ.1 15), .int v1] (LM κ τ (LC κ (x_added, x_asked, x_eR, x_et, x_oR, x_ot, x_bR, x_bD, x_bQ, x_bW, x_bS, x_bM, x_bT, x_bn, x_tg, x_tb, x_ts, x_fg, x_fb, x_fV, x_fS, x_fn, x_cg, x_cb, x_cB, x_cq, x_vHeld, x_vRed, x_vTal, x_vLis))) (some (.int out.1)) (LM κ τ (LC κ (x_added, x_asked, x_eR, x_et, x_oR, x_ot, out.2.1, out.2.2.1, out.2.2.2.1, out.2.2.2.2.1, out.2.2.2.2.2.1, x_bM, out.2.2.2.2.2.2.1, out.2.2.2.2.2.2.2.1, x_tg, out.2.2.2.2.2.2.2.2.1, out.2.2.2.2.2.2.2.2.2.1, x_fg, x_fb, x_fV, x_fS, x_fn, x_cg, x_cb, x_cB, x_cq, x_vHeld, out.2.2.2.2.2.2.2.2.2.2.1, out.2.2.2.2.2.2.2.2.2.2.2, x_vLis))) := by
  refine Mt.of (by decide) (Nat.le_of_ble_eq_true rfl) ?_
  intro g G Fh
  unfold V_count at h
  show J g κ 2 0 [(0, .ref (κ.1 15)), (1, .int v1)] [] (LM κ τ (LC κ (x_added, x_asked, x_eR, x_et, x_oR, x_ot, x_bR, x_bD, x_bQ, x_bW, x_bS, x_bM, x_bT, x_bn, x_tg, x_tb, x_ts, x_fg, x_fb, x_fV, x_fS, x_fn, x_cg, x_cb, x_cB, x_cq, x_vHeld, x_vRed, x_vTal, x_vLis)))
  refine w_iload_n (pc := 0) (q := 1) G dV_count_0 rfl rfl ?_
  refine w_if_lt (pc := 1) (tgt := 10) G dV_count_1 (by decide) (fun c1 => ?_) (fun c1 => ?_)
  · have h := if_t c1 h
    refine w_iconst (pc := 10) (v := (-1 : Int32)) G dV_count_10 (by decide) ?_
    obtain rfl := Option.some.inj h
    exact w_iret (pc := 11) G dV_count_11 Fh
  · have h := if_f c1 h
    refine w_iload_n (pc := 4) (q := 1) G dV_count_4 rfl rfl ?_
    refine w_bipush (pc := 5) (v := (40 : Int32)) G dV_count_5 (by decide) ?_
    refine w_icmp_le (pc := 7) (tgt := 12) G dV_count_7 (by decide) (fun c7 => ?_) (fun c7 => ?_)
    · have h := if_t c7 h
      refine w_aload_n (pc := 12) (q := 0) G dV_count_12 rfl rfl ?_
      refine w_get (pc := 13) (v := .int x_vTal) (fs := fl_V κ (x_added, x_asked, x_eR, x_et, x_oR, x_ot, x_bR, x_bD, x_bQ, x_bW, x_bS, x_bM, x_bT, x_bn, x_tg, x_tb, x_ts, x_fg, x_fb, x_fV, x_fS, x_fn, x_cg, x_cb, x_cB, x_cq, x_vHeld, x_vRed, x_vTal, x_vLis)) G 15 (by decide) lb_V rfl wsV_ok 10 (by decide) wd133 gf_V_10 dV_count_13 ?_
      refine w_if_ne (pc := 16) (tgt := 35) G dV_count_16 (by decide) (fun c16 => ?_) (fun c16 => ?_)
      · have h := if_t c16 h
        refine w_aload_n (pc := 19) (q := 0) G dV_count_19 rfl rfl ?_
        refine w_get (pc := 20) (v := .ref (κ.1 63)) (fs := fl_V κ (x_added, x_asked, x_eR, x_et, x_oR, x_ot, x_bR, x_bD, x_bQ, x_bW, x_bS, x_bM, x_bT, x_bn, x_tg, x_tb, x_ts, x_fg, x_fb, x_fV, x_fS, x_fn, x_cg, x_cb, x_cB, x_cq, x_vHeld, x_vRed, x_vTal, x_vLis)) G 15 (by decide) lb_V rfl wsV_ok 5 (by decide) wd128 gf_V_5 dV_count_20 ?_
        refine w_aload_n (pc := 23) (q := 0) G dV_count_23 rfl rfl ?_
        obtain ⟨r24, e24, h⟩ := bd h
        refine w_callV (pc := 24) (av := []) (rest := [.ref (κ.1 63)]) (v := some (.ref (κ.1 38))) (L' := (LM κ τ (LC κ (x_added, x_asked, x_eR, x_et, x_oR, x_ot, r24.1, r24.2.1, r24.2.2.1, r24.2.2.2.1, x_bS, x_bM, r24.2.2.2.2.1, r24.2.2.2.2.2.1, x_tg, x_tb, x_ts, x_fg, x_fb, x_fV, x_fS, x_fn, x_cg, x_cb, x_cB, x_cq, x_vHeld, r24.2.2.2.2.2.2, x_vTal, x_vLis)))) (T := TV) (fs := fl_V κ (x_added, x_asked, x_eR, x_et, x_oR, x_ot, x_bR, x_bD, x_bQ, x_bW, x_bS, x_bM, x_bT, x_bn, x_tg, x_tb, x_ts, x_fg, x_fb, x_fV, x_fS, x_fn, x_cg, x_cb, x_cB, x_cq, x_vHeld, x_vRed, x_vTal, x_vLis)) G 15 1 12 (by decide) lb_V rfl cb_V_readyBasis_V_count wd236 ws5 wd234 (met_V_readyBasis κ τ F   e24) rfl rfl rfl (Nat.le_of_ble_eq_true rfl) dV_count_24 ?_
        obtain ⟨r27, e27, h⟩ := bd h
        refine w_callV (pc := 27) (av := [.ref (κ.1 38)]) (rest := []) (v := none) (L' := (LM κ τ (LC κ (x_added, x_asked, x_eR, x_et, x_oR, x_ot, r24.1, r24.2.1, r24.2.2.1, r24.2.2.2.1, r27.1, x_bM, r24.2.2.2.2.1, r24.2.2.2.2.2.1, x_tg, r27.2.1, r27.2.2, x_fg, x_fb, x_fV, x_fS, x_fn, x_cg, x_cb, x_cB, x_cq, x_vHeld, r24.2.2.2.2.2.2, x_vTal, x_vLis)))) (T := TT) (fs := fl_T κ (x_added, x_asked, x_eR, x_et, x_oR, x_ot, r24.1, r24.2.1, r24.2.2.1, r24.2.2.2.1, x_bS, x_bM, r24.2.2.2.2.1, r24.2.2.2.2.2.1, x_tg, x_tb, x_ts, x_fg, x_fb, x_fV, x_fS, x_fn, x_cg, x_cb, x_cB, x_cq, x_vHeld, r24.2.2.2.2.2.2, x_vTal, x_vLis)) G 63 4 3 (by decide) lb_T rfl cb_T_fill_V_count wd346 wd347 wd345 (met_T_fill κ τ F   e27) rfl rfl rfl (Nat.le_of_ble_eq_true rfl) dV_count_27 ?_
        refine w_aload_n (pc := 30) (q := 0) G dV_count_30 rfl rfl ?_
        refine w_iconst (pc := 31) (v := (1 : Int32)) G dV_count_31 (by decide) ?_
        refine w_put (pc := 32) (fs := fl_V κ (x_added, x_asked, x_eR, x_et, x_oR, x_ot, r24.1, r24.2.1, r24.2.2.1, r24.2.2.2.1, r27.1, x_bM, r24.2.2.2.2.1, r24.2.2.2.2.2.1, x_tg, r27.2.1, r27.2.2, x_fg, x_fb, x_fV, x_fS, x_fn, x_cg, x_cb, x_cB, x_cq, x_vHeld, r24.2.2.2.2.2.2, x_vTal, x_vLis)) (L1 := (LM κ τ (LC κ (x_added, x_asked, x_eR, x_et, x_oR, x_ot, r24.1, r24.2.1, r24.2.2.1, r24.2.2.2.1, r27.1, x_bM, r24.2.2.2.2.1, r24.2.2.2.2.2.1, x_tg, r27.2.1, r27.2.2, x_fg, x_fb, x_fV, x_fS, x_fn, x_cg, x_cb, x_cB, x_cq, x_vHeld, r24.2.2.2.2.2.2, (1 : Int32), x_vLis)))) G 15 (by decide) lb_V rfl wsV_ok tyV tyV_ok nmV 10 (by decide) wd133 rfl rfl rfl (Nat.le_of_ble_eq_true rfl) dV_count_32 upf_vTal ?_
        refine w_aload_n (pc := 35) (q := 0) G dV_count_35 rfl rfl ?_
        refine w_get (pc := 36) (v := .ref (κ.1 63)) (fs := fl_V κ (x_added, x_asked, x_eR, x_et, x_oR, x_ot, r24.1, r24.2.1, r24.2.2.1, r24.2.2.2.1, r27.1, x_bM, r24.2.2.2.2.1, r24.2.2.2.2.2.1, x_tg, r27.2.1, r27.2.2, x_fg, x_fb, x_fV, x_fS, x_fn, x_cg, x_cb, x_cB, x_cq, x_vHeld, r24.2.2.2.2.2.2, (1 : Int32), x_vLis)) G 15 (by decide) lb_V rfl wsV_ok 5 (by decide) wd128 gf_V_5 dV_count_36 ?_
        refine w_iload_n (pc := 39) (q := 1) G dV_count_39 rfl rfl ?_
        obtain ⟨r40, e40, h⟩ := bd h
        refine w_callV (pc := 40) (av := [.int v1]) (rest := []) (v := some (.int r40)) (L' := (LM κ τ (LC κ (x_added, x_asked, x_eR, x_et, x_oR, x_ot, r24.1, r24.2.1, r24.2.2.1, r24.2.2.2.1, r27.1, x_bM, r24.2.2.2.2.1, r24.2.2.2.2.2.1, x_tg, r27.2.1, r27.2.2, x_fg, x_fb, x_fV, x_fS, x_fn, x_cg, x_cb, x_cB, x_cq, x_vHeld, r24.2.2.2.2.2.2, (1 : Int32), x_vLis)))) (T := TT) (fs := fl_T κ (x_added, x_asked, x_eR, x_et, x_oR, x_ot, r24.1, r24.2.1, r24.2.2.1, r24.2.2.2.1, r27.1, x_bM, r24.2.2.2.2.1, r24.2.2.2.2.2.1, x_tg, r27.2.1, r27.2.2, x_fg, x_fb, x_fV, x_fS, x_fn, x_cg, x_cb, x_cB, x_cq, x_vHeld, r24.2.2.2.2.2.2, (1 : Int32), x_vLis)) G 63 4 3 (by decide) lb_T rfl cb_T_upTo_V_count wd431 wd432 wd430 (met_T_upTo κ τ F v1  e40) rfl rfl rfl (Nat.le_of_ble_eq_true rfl) dV_count_40 ?_
        obtain rfl := Option.some.inj h
        exact w_iret (pc := 43) G dV_count_43 Fh
      · have h := if_f c16 h
        refine w_aload_n (pc := 35) (q := 0) G dV_count_35 rfl rfl ?_
        refine w_get (pc := 36) (v := .ref (κ.1 63)) (fs := fl_V κ (x_added, x_asked, x_eR, x_et, x_oR, x_ot, x_bR, x_bD, x_bQ, x_bW, x_bS, x_bM, x_bT, x_bn, x_tg, x_tb, x_ts, x_fg, x_fb, x_fV, x_fS, x_fn, x_cg, x_cb, x_cB, x_cq, x_vHeld, x_vRed, x_vTal, x_vLis)) G 15 (by decide) lb_V rfl wsV_ok 5 (by decide) wd128 gf_V_5 dV_count_36 ?_
        refine w_iload_n (pc := 39) (q := 1) G dV_count_39 rfl rfl ?_
        obtain ⟨r40, e40, h⟩ := bd h
        refine w_callV (pc := 40) (av := [.int v1]) (rest := []) (v := some (.int r40)) (L' := (LM κ τ (LC κ (x_added, x_asked, x_eR, x_et, x_oR, x_ot, x_bR, x_bD, x_bQ, x_bW, x_bS, x_bM, x_bT, x_bn, x_tg, x_tb, x_ts, x_fg, x_fb, x_fV, x_fS, x_fn, x_cg, x_cb, x_cB, x_cq, x_vHeld, x_vRed, x_vTal, x_vLis)))) (T := TT) (fs := fl_T κ (x_added, x_asked, x_eR, x_et, x_oR, x_ot, x_bR, x_bD, x_bQ, x_bW, x_bS, x_bM, x_bT, x_bn, x_tg, x_tb, x_ts, x_fg, x_fb, x_fV, x_fS, x_fn, x_cg, x_cb, x_cB, x_cq, x_vHeld, x_vRed, x_vTal, x_vLis)) G 63 4 3 (by decide) lb_T rfl cb_T_upTo_V_count wd431 wd432 wd430 (met_T_upTo κ τ F v1  e40) rfl rfl rfl (Nat.le_of_ble_eq_true rfl) dV_count_40 ?_
        obtain rfl := Option.some.inj h
        exact w_iret (pc := 43) G dV_count_43 Fh
    · have h := if_f c7 h
      refine w_iconst (pc := 10) (v := (-1 : Int32)) G dV_count_10 (by decide) ?_
      obtain rfl := Option.some.inj h
      exact w_iret (pc := 11) G dV_count_11 Fh
def rm_V_vector : Room := { frames := 17, cells := 0, slots := 0, locals := 561 }
theorem dV_vector_0 : decode cV_vector 0 = .ok (.iload_n 2, 1) := by decide +kernel
theorem dV_vector_1 : decode cV_vector 1 = .ok (.invokestatic 117, 3) := by decide +kernel
theorem dV_vector_4 : decode cV_vector 4 = .ok (.ifCond .eq 13, 3) := by decide +kernel
theorem dV_vector_7 : decode cV_vector 7 = .ok (.iload_n 1, 1) := by decide +kernel
theorem dV_vector_8 : decode cV_vector 8 = .ok (.ifCond .lt 9, 3) := by decide +kernel
theorem dV_vector_11 : decode cV_vector 11 = .ok (.iload_n 1, 1) := by decide +kernel
theorem dV_vector_12 : decode cV_vector 12 = .ok (.bipush 41, 2) := by decide +kernel
theorem dV_vector_14 : decode cV_vector 14 = .ok (.if_icmp .lt 7, 3) := by decide +kernel
theorem dV_vector_17 : decode cV_vector 17 = .ok (.sipush 1000, 3) := by decide +kernel
theorem dV_vector_20 : decode cV_vector 20 = .ok (.ireturn, 1) := by decide +kernel
theorem dV_vector_21 : decode cV_vector 21 = .ok (.aload_n 0, 1) := by decide +kernel
theorem dV_vector_22 : decode cV_vector 22 = .ok (.getfield 121, 3) := by decide +kernel
theorem dV_vector_25 : decode cV_vector 25 = .ok (.ifCond .ne 19, 3) := by decide +kernel
theorem dV_vector_28 : decode cV_vector 28 = .ok (.aload_n 0, 1) := by decide +kernel
theorem dV_vector_29 : decode cV_vector 29 = .ok (.getfield 45, 3) := by decide +kernel
theorem dV_vector_32 : decode cV_vector 32 = .ok (.aload_n 0, 1) := by decide +kernel
theorem dV_vector_33 : decode cV_vector 33 = .ok (.invokevirtual 83, 3) := by decide +kernel
theorem dV_vector_36 : decode cV_vector 36 = .ok (.invokevirtual 124, 3) := by decide +kernel
theorem dV_vector_39 : decode cV_vector 39 = .ok (.aload_n 0, 1) := by decide +kernel
theorem dV_vector_40 : decode cV_vector 40 = .ok (.iconst 1, 1) := by decide +kernel
theorem dV_vector_41 : decode cV_vector 41 = .ok (.putfield 121, 3) := by decide +kernel
theorem dV_vector_44 : decode cV_vector 44 = .ok (.aload_n 0, 1) := by decide +kernel
theorem dV_vector_45 : decode cV_vector 45 = .ok (.getfield 45, 3) := by decide +kernel
theorem dV_vector_48 : decode cV_vector 48 = .ok (.iload_n 1, 1) := by decide +kernel
theorem dV_vector_49 : decode cV_vector 49 = .ok (.iload_n 2, 1) := by decide +kernel
theorem dV_vector_50 : decode cV_vector 50 = .ok (.invokevirtual 125, 3) := by decide +kernel
theorem dV_vector_53 : decode cV_vector 53 = .ok (.ireturn, 1) := by decide +kernel
theorem cb_V_isAxis_V_vector : CB yV_isAxis cV_isAxis 1 (some .boolean) rm_V_isAxis rm_V_vector 1 := ⟨wd440, wd1, by decide +kernel, rfl, rfl, by decide⟩
theorem cb_V_readyBasis_V_vector : CB yV_readyBasis cV_readyBasis 1 (some (.object "ShortVectors$Basis")) rm_V_readyBasis rm_V_vector 0 := ⟨wd237, wd1, by decide +kernel, rfl, rfl, by decide⟩
theorem cb_F_coordinate_V_vector : CB yF_coordinate cF_coordinate 3 (some .int) rm_F_coordinate rm_V_vector 2 := ⟨wd454, wd6, by decide +kernel, rfl, rfl, by decide⟩
theorem cb_F_fill_V_vector : CB yF_fillJ cF_fillJ 4 none rm_F_fill rm_V_vector 1 := ⟨wd444, wd6, by decide +kernel, rfl, rfl, by decide⟩
noncomputable def V_vector (F : Nat)  (x_eR : Nat → Nat → Int64) (x_bR : Nat → Nat → Int64) (x_bD : Nat → Nat → Int64) (x_bQ : Nat → Int64) (x_bW : Nat → Int64) (x_bS : Nat → Nat → Int64) (x_bT : Nat → Int64) (x_bn : Int32) (x_fg : Nat → Int64) (x_fb : Int64) (x_fV : Nat → Nat → Int64) (x_fS : Nat → Int64) (x_fn : Int32) (x_vRed : Int32) (x_vLis : Int32) (v1 : Int32) (v2 : Int32) : Option (Int32 × (Nat → Nat → Int64) × (Nat → Nat → Int64) × (Nat → Int64) × (Nat → Int64) × (Nat → Nat → Int64) × (Nat → Int64) × Int32 × Int64 × (Nat → Nat → Int64) × (Nat → Int64) × Int32 × Int32 × Int32) := (V_isAxis F  v2).bind (fun r1 => if r1 = 0 then some ((1000 : Int32), x_bR, x_bD, x_bQ, x_bW, x_bS, x_bT, x_bn, x_fb, x_fV, x_fS, x_fn, x_vRed, x_vLis) else if v1 < 0 then some ((1000 : Int32), x_bR, x_bD, x_bQ, x_bW, x_bS, x_bT, x_bn, x_fb, x_fV, x_fS, x_fn, x_vRed, x_vLis) else if v1 < (41 : Int32) then if x_vLis = 0 then (V_readyBasis F x_eR x_bR x_bD x_bQ x_bW x_bT x_bn x_vRed ).bind (fun r33 => (F_fill F r33.1 r33.2.1 r33.2.2.1 r33.2.2.2.1 x_bS r33.2.2.2.2.2.1 x_fg x_fb x_fV x_fS x_fn ).bind (fun r36 => (F_coordinate F r36.2.2.1 r36.2.2.2.2 v1 v2).bind (fun r50 => some (r50, r33.1, r33.2.1, r33.2.2.1, r33.2.2.2.1, r36.1, r33.2.2.2.2.1, r33.2.2.2.2.2.1, r36.2.1, r36.2.2.1, r36.2.2.2.1, r36.2.2.2.2, r33.2.2.2.2.2.2, (1 : Int32))))) else (F_coordinate F x_fV x_fn v1 v2).bind (fun r50 => some (r50, x_bR, x_bD, x_bQ, x_bW, x_bS, x_bT, x_bn, x_fb, x_fV, x_fS, x_fn, x_vRed, x_vLis)) else some ((1000 : Int32), x_bR, x_bD, x_bQ, x_bW, x_bS, x_bT, x_bn, x_fb, x_fV, x_fS, x_fn, x_vRed, x_vLis))
set_option maxHeartbeats 8000000 in
set_option maxRecDepth 100000 in
theorem met_V_vector (κ : ctx) (τ : MS) (F : Nat) {x_added : Nat → Nat → Int64} {x_asked : Nat → Int64} {x_eR : Nat → Nat → Int64} {x_et : Nat → Int64} {x_oR : Nat → Nat → Int64} {x_ot : Nat → Int64} {x_bR : Nat → Nat → Int64} {x_bD : Nat → Nat → Int64} {x_bQ : Nat → Int64} {x_bW : Nat → Int64} {x_bS : Nat → Nat → Int64} {x_bM : Nat → Nat → Int64} {x_bT : Nat → Int64} {x_bn : Int32} {x_tg : Nat → Int64} {x_tb : Int64} {x_ts : Nat → Int32} {x_fg : Nat → Int64} {x_fb : Int64} {x_fV : Nat → Nat → Int64} {x_fS : Nat → Int64} {x_fn : Int32} {x_cg : Nat → Int64} {x_cb : Int64} {x_cB : Nat → Int64} {x_cq : Int64} {x_vHeld : Int32} {x_vRed : Int32} {x_vTal : Int32} {x_vLis : Int32} (v1 : Int32) (v2 : Int32) {out : Int32 × (Nat → Nat → Int64) × (Nat → Nat → Int64) × (Nat → Int64) × (Nat → Int64) × (Nat → Nat → Int64) × (Nat → Int64) × Int32 × Int64 × (Nat → Nat → Int64) × (Nat → Int64) × Int32 × Int32 × Int32} (h : V_vector F  x_eR x_bR x_bD x_bQ x_bW x_bS x_bT x_bn x_fg x_fb x_fV x_fS x_fn x_vRed x_vLis v1 v2 = some out) : Mt yV_vector cV_vector 3 (some .int) rm_V_vector κ [.ref (κ.1 15), .int v1, .int v2] (LM κ τ (LC κ (x_added, x_asked, x_eR, x_et, x_oR, x_ot, x_bR, x_bD, x_bQ, x_bW, x_bS, x_bM, x_bT, x_bn, x_tg, x_tb, x_ts, x_fg, x_fb, x_fV, x_fS, x_fn, x_cg, x_cb, x_cB, x_cq, x_vHeld, x_vRed, x_vTal, x_vLis))) (some (.int out.1)) (LM κ τ (LC κ (x_added, x_asked, x_eR, x_et, x_oR, x_ot, out.2.1, out.2.2.1, out.2.2.2.1, out.2.2.2.2.1, out.2.2.2.2.2.1, x_bM, out.2.2.2.2.2.2.1, out.2.2.2.2.2.2.2.1, x_tg, x_tb, x_ts, x_fg, out.2.2.2.2.2.2.2.2.1, out.2.2.2.2.2.2.2.2.2.1, out.2.2.2.2.2.2.2.2.2.2.1, out.2.2.2.2.2.2.2.2.2.2.2.1, x_cg, x_cb, x_cB, x_cq, x_vHeld, out.2.2.2.2.2.2.2.2.2.2.2.2.1, x_vTal, out.2.2.2.2.2.2.2.2.2.2.2.2.2))) := by
  refine Mt.of (by decide) (Nat.le_of_ble_eq_true rfl) ?_
  intro g G Fh
  unfold V_vector at h
  show J g κ 3 0 [(0, .ref (κ.1 15)), (1, .int v1), (2, .int v2)] [] (LM κ τ (LC κ (x_added, x_asked, x_eR, x_et, x_oR, x_ot, x_bR, x_bD, x_bQ, x_bW, x_bS, x_bM, x_bT, x_bn, x_tg, x_tb, x_ts, x_fg, x_fb, x_fV, x_fS, x_fn, x_cg, x_cb, x_cB, x_cq, x_vHeld, x_vRed, x_vTal, x_vLis)))
  refine w_iload_n (pc := 0) (q := 2) G dV_vector_0 rfl rfl ?_
  obtain ⟨r1, e1, h⟩ := bd h
  refine w_callS (pc := 1) (av := [.int v2]) (rest := []) (v := some (.int r1)) (L' := (LM κ τ (LC κ (x_added, x_asked, x_eR, x_et, x_oR, x_ot, x_bR, x_bD, x_bQ, x_bW, x_bS, x_bM, x_bT, x_bn, x_tg, x_tb, x_ts, x_fg, x_fb, x_fV, x_fS, x_fn, x_cg, x_cb, x_cB, x_cq, x_vHeld, x_vRed, x_vTal, x_vLis)))) G cb_V_isAxis_V_vector wd439 wd438 (met_V_isAxis κ (LM κ τ (LC κ (x_added, x_asked, x_eR, x_et, x_oR, x_ot, x_bR, x_bD, x_bQ, x_bW, x_bS, x_bM, x_bT, x_bn, x_tg, x_tb, x_ts, x_fg, x_fb, x_fV, x_fS, x_fn, x_cg, x_cb, x_cB, x_cq, x_vHeld, x_vRed, x_vTal, x_vLis))) F v2  e1) rfl rfl rfl (Nat.le_of_ble_eq_true rfl) dV_vector_1 ?_
  refine w_if_eq (pc := 4) (tgt := 17) G dV_vector_4 (by decide) (fun c4 => ?_) (fun c4 => ?_)
  · have h := if_t c4 h
    refine w_sipush (pc := 17) (v := (1000 : Int32)) G dV_vector_17 (by decide) ?_
    obtain rfl := Option.some.inj h
    exact w_iret (pc := 20) G dV_vector_20 Fh
  · have h := if_f c4 h
    refine w_iload_n (pc := 7) (q := 1) G dV_vector_7 rfl rfl ?_
    refine w_if_lt (pc := 8) (tgt := 17) G dV_vector_8 (by decide) (fun c8 => ?_) (fun c8 => ?_)
    · have h := if_t c8 h
      refine w_sipush (pc := 17) (v := (1000 : Int32)) G dV_vector_17 (by decide) ?_
      obtain rfl := Option.some.inj h
      exact w_iret (pc := 20) G dV_vector_20 Fh
    · have h := if_f c8 h
      refine w_iload_n (pc := 11) (q := 1) G dV_vector_11 rfl rfl ?_
      refine w_bipush (pc := 12) (v := (41 : Int32)) G dV_vector_12 (by decide) ?_
      refine w_icmp_lt (pc := 14) (tgt := 21) G dV_vector_14 (by decide) (fun c14 => ?_) (fun c14 => ?_)
      · have h := if_t c14 h
        refine w_aload_n (pc := 21) (q := 0) G dV_vector_21 rfl rfl ?_
        refine w_get (pc := 22) (v := .int x_vLis) (fs := fl_V κ (x_added, x_asked, x_eR, x_et, x_oR, x_ot, x_bR, x_bD, x_bQ, x_bW, x_bS, x_bM, x_bT, x_bn, x_tg, x_tb, x_ts, x_fg, x_fb, x_fV, x_fS, x_fn, x_cg, x_cb, x_cB, x_cq, x_vHeld, x_vRed, x_vTal, x_vLis)) G 15 (by decide) lb_V rfl wsV_ok 11 (by decide) wd134 gf_V_11 dV_vector_22 ?_
        refine w_if_ne (pc := 25) (tgt := 44) G dV_vector_25 (by decide) (fun c25 => ?_) (fun c25 => ?_)
        · have h := if_t c25 h
          refine w_aload_n (pc := 28) (q := 0) G dV_vector_28 rfl rfl ?_
          refine w_get (pc := 29) (v := .ref (κ.1 66)) (fs := fl_V κ (x_added, x_asked, x_eR, x_et, x_oR, x_ot, x_bR, x_bD, x_bQ, x_bW, x_bS, x_bM, x_bT, x_bn, x_tg, x_tb, x_ts, x_fg, x_fb, x_fV, x_fS, x_fn, x_cg, x_cb, x_cB, x_cq, x_vHeld, x_vRed, x_vTal, x_vLis)) G 15 (by decide) lb_V rfl wsV_ok 6 (by decide) wd129 gf_V_6 dV_vector_29 ?_
          refine w_aload_n (pc := 32) (q := 0) G dV_vector_32 rfl rfl ?_
          obtain ⟨r33, e33, h⟩ := bd h
          refine w_callV (pc := 33) (av := []) (rest := [.ref (κ.1 66)]) (v := some (.ref (κ.1 38))) (L' := (LM κ τ (LC κ (x_added, x_asked, x_eR, x_et, x_oR, x_ot, r33.1, r33.2.1, r33.2.2.1, r33.2.2.2.1, x_bS, x_bM, r33.2.2.2.2.1, r33.2.2.2.2.2.1, x_tg, x_tb, x_ts, x_fg, x_fb, x_fV, x_fS, x_fn, x_cg, x_cb, x_cB, x_cq, x_vHeld, r33.2.2.2.2.2.2, x_vTal, x_vLis)))) (T := TV) (fs := fl_V κ (x_added, x_asked, x_eR, x_et, x_oR, x_ot, x_bR, x_bD, x_bQ, x_bW, x_bS, x_bM, x_bT, x_bn, x_tg, x_tb, x_ts, x_fg, x_fb, x_fV, x_fS, x_fn, x_cg, x_cb, x_cB, x_cq, x_vHeld, x_vRed, x_vTal, x_vLis)) G 15 1 12 (by decide) lb_V rfl cb_V_readyBasis_V_vector wd236 ws5 wd234 (met_V_readyBasis κ τ F   e33) rfl rfl rfl (Nat.le_of_ble_eq_true rfl) dV_vector_33 ?_
          obtain ⟨r36, e36, h⟩ := bd h
          refine w_callV (pc := 36) (av := [.ref (κ.1 38)]) (rest := []) (v := none) (L' := (LM κ τ (LC κ (x_added, x_asked, x_eR, x_et, x_oR, x_ot, r33.1, r33.2.1, r33.2.2.1, r33.2.2.2.1, r36.1, x_bM, r33.2.2.2.2.1, r33.2.2.2.2.2.1, x_tg, x_tb, x_ts, x_fg, r36.2.1, r36.2.2.1, r36.2.2.2.1, r36.2.2.2.2, x_cg, x_cb, x_cB, x_cq, x_vHeld, r33.2.2.2.2.2.2, x_vTal, x_vLis)))) (T := TF) (fs := fl_F κ (x_added, x_asked, x_eR, x_et, x_oR, x_ot, r33.1, r33.2.1, r33.2.2.1, r33.2.2.2.1, x_bS, x_bM, r33.2.2.2.2.1, r33.2.2.2.2.2.1, x_tg, x_tb, x_ts, x_fg, x_fb, x_fV, x_fS, x_fn, x_cg, x_cb, x_cB, x_cq, x_vHeld, r33.2.2.2.2.2.2, x_vTal, x_vLis)) G 66 5 5 (by decide) lb_F rfl cb_F_fill_V_vector wd442 wd443 wd441 (met_F_fill κ τ F   e36) rfl rfl rfl (Nat.le_of_ble_eq_true rfl) dV_vector_36 ?_
          refine w_aload_n (pc := 39) (q := 0) G dV_vector_39 rfl rfl ?_
          refine w_iconst (pc := 40) (v := (1 : Int32)) G dV_vector_40 (by decide) ?_
          refine w_put (pc := 41) (fs := fl_V κ (x_added, x_asked, x_eR, x_et, x_oR, x_ot, r33.1, r33.2.1, r33.2.2.1, r33.2.2.2.1, r36.1, x_bM, r33.2.2.2.2.1, r33.2.2.2.2.2.1, x_tg, x_tb, x_ts, x_fg, r36.2.1, r36.2.2.1, r36.2.2.2.1, r36.2.2.2.2, x_cg, x_cb, x_cB, x_cq, x_vHeld, r33.2.2.2.2.2.2, x_vTal, x_vLis)) (L1 := (LM κ τ (LC κ (x_added, x_asked, x_eR, x_et, x_oR, x_ot, r33.1, r33.2.1, r33.2.2.1, r33.2.2.2.1, r36.1, x_bM, r33.2.2.2.2.1, r33.2.2.2.2.2.1, x_tg, x_tb, x_ts, x_fg, r36.2.1, r36.2.2.1, r36.2.2.2.1, r36.2.2.2.2, x_cg, x_cb, x_cB, x_cq, x_vHeld, r33.2.2.2.2.2.2, x_vTal, (1 : Int32))))) G 15 (by decide) lb_V rfl wsV_ok tyV tyV_ok nmV 11 (by decide) wd134 rfl rfl rfl (Nat.le_of_ble_eq_true rfl) dV_vector_41 upf_vLis ?_
          refine w_aload_n (pc := 44) (q := 0) G dV_vector_44 rfl rfl ?_
          refine w_get (pc := 45) (v := .ref (κ.1 66)) (fs := fl_V κ (x_added, x_asked, x_eR, x_et, x_oR, x_ot, r33.1, r33.2.1, r33.2.2.1, r33.2.2.2.1, r36.1, x_bM, r33.2.2.2.2.1, r33.2.2.2.2.2.1, x_tg, x_tb, x_ts, x_fg, r36.2.1, r36.2.2.1, r36.2.2.2.1, r36.2.2.2.2, x_cg, x_cb, x_cB, x_cq, x_vHeld, r33.2.2.2.2.2.2, x_vTal, (1 : Int32))) G 15 (by decide) lb_V rfl wsV_ok 6 (by decide) wd129 gf_V_6 dV_vector_45 ?_
          refine w_iload_n (pc := 48) (q := 1) G dV_vector_48 rfl rfl ?_
          refine w_iload_n (pc := 49) (q := 2) G dV_vector_49 rfl rfl ?_
          obtain ⟨r50, e50, h⟩ := bd h
          refine w_callV (pc := 50) (av := [.int v1, .int v2]) (rest := []) (v := some (.int r50)) (L' := (LM κ τ (LC κ (x_added, x_asked, x_eR, x_et, x_oR, x_ot, r33.1, r33.2.1, r33.2.2.1, r33.2.2.2.1, r36.1, x_bM, r33.2.2.2.2.1, r33.2.2.2.2.2.1, x_tg, x_tb, x_ts, x_fg, r36.2.1, r36.2.2.1, r36.2.2.2.1, r36.2.2.2.2, x_cg, x_cb, x_cB, x_cq, x_vHeld, r33.2.2.2.2.2.2, x_vTal, (1 : Int32))))) (T := TF) (fs := fl_F κ (x_added, x_asked, x_eR, x_et, x_oR, x_ot, r33.1, r33.2.1, r33.2.2.1, r33.2.2.2.1, r36.1, x_bM, r33.2.2.2.2.1, r33.2.2.2.2.2.1, x_tg, x_tb, x_ts, x_fg, r36.2.1, r36.2.2.1, r36.2.2.2.1, r36.2.2.2.2, x_cg, x_cb, x_cB, x_cq, x_vHeld, r33.2.2.2.2.2.2, x_vTal, (1 : Int32))) G 66 5 5 (by decide) lb_F rfl cb_F_coordinate_V_vector wd452 wd453 wd451 (met_F_coordinate κ τ F v1 v2  e50) rfl rfl rfl (Nat.le_of_ble_eq_true rfl) dV_vector_50 ?_
          obtain rfl := Option.some.inj h
          exact w_iret (pc := 53) G dV_vector_53 Fh
        · have h := if_f c25 h
          refine w_aload_n (pc := 44) (q := 0) G dV_vector_44 rfl rfl ?_
          refine w_get (pc := 45) (v := .ref (κ.1 66)) (fs := fl_V κ (x_added, x_asked, x_eR, x_et, x_oR, x_ot, x_bR, x_bD, x_bQ, x_bW, x_bS, x_bM, x_bT, x_bn, x_tg, x_tb, x_ts, x_fg, x_fb, x_fV, x_fS, x_fn, x_cg, x_cb, x_cB, x_cq, x_vHeld, x_vRed, x_vTal, x_vLis)) G 15 (by decide) lb_V rfl wsV_ok 6 (by decide) wd129 gf_V_6 dV_vector_45 ?_
          refine w_iload_n (pc := 48) (q := 1) G dV_vector_48 rfl rfl ?_
          refine w_iload_n (pc := 49) (q := 2) G dV_vector_49 rfl rfl ?_
          obtain ⟨r50, e50, h⟩ := bd h
          refine w_callV (pc := 50) (av := [.int v1, .int v2]) (rest := []) (v := some (.int r50)) (L' := (LM κ τ (LC κ (x_added, x_asked, x_eR, x_et, x_oR, x_ot, x_bR, x_bD, x_bQ, x_bW, x_bS, x_bM, x_bT, x_bn, x_tg, x_tb, x_ts, x_fg, x_fb, x_fV, x_fS, x_fn, x_cg, x_cb, x_cB, x_cq, x_vHeld, x_vRed, x_vTal, x_vLis)))) (T := TF) (fs := fl_F κ (x_added, x_asked, x_eR, x_et, x_oR, x_ot, x_bR, x_bD, x_bQ, x_bW, x_bS, x_bM, x_bT, x_bn, x_tg, x_tb, x_ts, x_fg, x_fb, x_fV, x_fS, x_fn, x_cg, x_cb, x_cB, x_cq, x_vHeld, x_vRed, x_vTal, x_vLis)) G 66 5 5 (by decide) lb_F rfl cb_F_coordinate_V_vector wd452 wd453 wd451 (met_F_coordinate κ τ F v1 v2  e50) rfl rfl rfl (Nat.le_of_ble_eq_true rfl) dV_vector_50 ?_
          obtain rfl := Option.some.inj h
          exact w_iret (pc := 53) G dV_vector_53 Fh
      · have h := if_f c14 h
        refine w_sipush (pc := 17) (v := (1000 : Int32)) G dV_vector_17 (by decide) ?_
        obtain rfl := Option.some.inj h
        exact w_iret (pc := 20) G dV_vector_20 Fh
def rm_V_distance : Room := { frames := 17, cells := 0, slots := 0, locals := 560 }
theorem dV_distance_0 : decode cV_distance 0 = .ok (.aload_n 0, 1) := by decide +kernel
theorem dV_distance_1 : decode cV_distance 1 = .ok (.iload_n 1, 1) := by decide +kernel
theorem dV_distance_2 : decode cV_distance 2 = .ok (.iload_n 2, 1) := by decide +kernel
theorem dV_distance_3 : decode cV_distance 3 = .ok (.iload_n 3, 1) := by decide +kernel
theorem dV_distance_4 : decode cV_distance 4 = .ok (.iload 4, 2) := by decide +kernel
theorem dV_distance_6 : decode cV_distance 6 = .ok (.bipush 30, 2) := by decide +kernel
theorem dV_distance_8 : decode cV_distance 8 = .ok (.invokevirtual 60, 3) := by decide +kernel
theorem dV_distance_11 : decode cV_distance 11 = .ok (.ifCond .ne 5, 3) := by decide +kernel
theorem dV_distance_14 : decode cV_distance 14 = .ok (.iconst (-1), 1) := by decide +kernel
theorem dV_distance_15 : decode cV_distance 15 = .ok (.ireturn, 1) := by decide +kernel
theorem dV_distance_16 : decode cV_distance 16 = .ok (.aload_n 0, 1) := by decide +kernel
theorem dV_distance_17 : decode cV_distance 17 = .ok (.getfield 52, 3) := by decide +kernel
theorem dV_distance_20 : decode cV_distance 20 = .ok (.aload_n 0, 1) := by decide +kernel
theorem dV_distance_21 : decode cV_distance 21 = .ok (.invokevirtual 83, 3) := by decide +kernel
theorem dV_distance_24 : decode cV_distance 24 = .ok (.aload_n 0, 1) := by decide +kernel
theorem dV_distance_25 : decode cV_distance 25 = .ok (.getfield 14, 3) := by decide +kernel
theorem dV_distance_28 : decode cV_distance 28 = .ok (.invokevirtual 129, 3) := by decide +kernel
theorem dV_distance_31 : decode cV_distance 31 = .ok (.aload_n 0, 1) := by decide +kernel
theorem dV_distance_32 : decode cV_distance 32 = .ok (.getfield 52, 3) := by decide +kernel
theorem dV_distance_35 : decode cV_distance 35 = .ok (.invokevirtual 133, 3) := by decide +kernel
theorem dV_distance_38 : decode cV_distance 38 = .ok (.ireturn, 1) := by decide +kernel
theorem cb_V_ask_V_distance : CB yV_ask cV_ask 7 (some .boolean) rm_V_ask rm_V_distance 5 := ⟨wd167, wd1, by decide +kernel, rfl, rfl, by decide⟩
theorem cb_V_readyBasis_V_distance : CB yV_readyBasis cV_readyBasis 1 (some (.object "ShortVectors$Basis")) rm_V_readyBasis rm_V_distance 0 := ⟨wd237, wd1, by decide +kernel, rfl, rfl, by decide⟩
theorem cb_C_approach_V_distance : CB yC_approach cC_approach 3 none rm_C_approach rm_V_distance 2 := ⟨wd462, wd7, by decide +kernel, rfl, rfl, by decide⟩
theorem cb_C_leastSquare_V_distance : CB yC_leastSquare cC_leastSquare 1 (some .int) rm_C_leastSquare rm_V_distance 0 := ⟨wd475, wd7, by decide +kernel, rfl, rfl, by decide⟩
noncomputable def V_distance (F : Nat)  (x_asked : Nat → Int64) (x_eR : Nat → Nat → Int64) (x_bR : Nat → Nat → Int64) (x_bD : Nat → Nat → Int64) (x_bQ : Nat → Int64) (x_bW : Nat → Int64) (x_bS : Nat → Nat → Int64) (x_bT : Nat → Int64) (x_bn : Int32) (x_cg : Nat → Int64) (x_cb : Int64) (x_cB : Nat → Int64) (x_cq : Int64) (x_vRed : Int32) (v1 : Int32) (v2 : Int32) (v3 : Int32) (v4 : Int32) : Option (Int32 × (Nat → Int64) × (Nat → Nat → Int64) × (Nat → Nat → Int64) × (Nat → Int64) × (Nat → Int64) × (Nat → Nat → Int64) × (Nat → Int64) × Int32 × (Nat → Int64) × Int64 × (Nat → Int64) × Int64 × Int32) := (V_ask F x_asked v1 v2 v3 v4 (30 : Int32)).bind (fun r8 => if r8.1 = 0 then some ((-1 : Int32), r8.2, x_bR, x_bD, x_bQ, x_bW, x_bS, x_bT, x_bn, x_cg, x_cb, x_cB, x_cq, x_vRed) else (V_readyBasis F x_eR x_bR x_bD x_bQ x_bW x_bT x_bn x_vRed ).bind (fun r21 => (C_approach F r8.2 r21.1 r21.2.1 r21.2.2.1 r21.2.2.2.1 x_bS r21.2.2.2.2.2.1 x_cg x_cb x_cB x_cq ).bind (fun r28 => (C_leastSquare F r28.2.2.2.2 ).bind (fun r35 => some (r35, r8.2, r21.1, r21.2.1, r21.2.2.1, r21.2.2.2.1, r28.1, r21.2.2.2.2.1, r21.2.2.2.2.2.1, r28.2.1, r28.2.2.1, r28.2.2.2.1, r28.2.2.2.2, r21.2.2.2.2.2.2)))))
set_option maxHeartbeats 8000000 in
set_option maxRecDepth 100000 in
theorem met_V_distance (κ : ctx) (τ : MS) (F : Nat) {x_added : Nat → Nat → Int64} {x_asked : Nat → Int64} {x_eR : Nat → Nat → Int64} {x_et : Nat → Int64} {x_oR : Nat → Nat → Int64} {x_ot : Nat → Int64} {x_bR : Nat → Nat → Int64} {x_bD : Nat → Nat → Int64} {x_bQ : Nat → Int64} {x_bW : Nat → Int64} {x_bS : Nat → Nat → Int64} {x_bM : Nat → Nat → Int64} {x_bT : Nat → Int64} {x_bn : Int32} {x_tg : Nat → Int64} {x_tb : Int64} {x_ts : Nat → Int32} {x_fg : Nat → Int64} {x_fb : Int64} {x_fV : Nat → Nat → Int64} {x_fS : Nat → Int64} {x_fn : Int32} {x_cg : Nat → Int64} {x_cb : Int64} {x_cB : Nat → Int64} {x_cq : Int64} {x_vHeld : Int32} {x_vRed : Int32} {x_vTal : Int32} {x_vLis : Int32} (v1 : Int32) (v2 : Int32) (v3 : Int32) (v4 : Int32) {out : Int32 × (Nat → Int64) × (Nat → Nat → Int64) × (Nat → Nat → Int64) × (Nat → Int64) × (Nat → Int64) × (Nat → Nat → Int64) × (Nat → Int64) × Int32 × (Nat → Int64) × Int64 × (Nat → Int64) × Int64 × Int32} (h : V_distance F  x_asked x_eR x_bR x_bD x_bQ x_bW x_bS x_bT x_bn x_cg x_cb x_cB x_cq x_vRed v1 v2 v3 v4 = some out) : Mt yV_distance cV_distance 5 (some .int) rm_V_distance κ [.ref (κ.1 15), .int v1, .int v2, .int v3, .int v4] (LM κ τ (LC κ (x_added, x_asked, x_eR, x_et, x_oR, x_ot, x_bR, x_bD, x_bQ, x_bW, x_bS, x_bM, x_bT, x_bn, x_tg, x_tb, x_ts, x_fg, x_fb, x_fV, x_fS, x_fn, x_cg, x_cb, x_cB, x_cq, x_vHeld, x_vRed, x_vTal, x_vLis))) (some (.int out.1)) (LM κ τ (LC κ (x_added, out.2.1, x_eR, x_et, x_oR, x_ot, out.2.2.1, out.2.2.2.1, out.2.2.2.2.1, out.2.2.2.2.2.1, out.2.2.2.2.2.2.1, x_bM, out.2.2.2.2.2.2.2.1, out.2.2.2.2.2.2.2.2.1, x_tg, x_tb, x_ts, x_fg, x_fb, x_fV, x_fS, x_fn, out.2.2.2.2.2.2.2.2.2.1, out.2.2.2.2.2.2.2.2.2.2.1, out.2.2.2.2.2.2.2.2.2.2.2.1, out.2.2.2.2.2.2.2.2.2.2.2.2.1, x_vHeld, out.2.2.2.2.2.2.2.2.2.2.2.2.2, x_vTal, x_vLis))) := by
  refine Mt.of (by decide) (Nat.le_of_ble_eq_true rfl) ?_
  intro g G Fh
  unfold V_distance at h
  show J g κ 5 0 [(0, .ref (κ.1 15)), (1, .int v1), (2, .int v2), (3, .int v3), (4, .int v4)] [] (LM κ τ (LC κ (x_added, x_asked, x_eR, x_et, x_oR, x_ot, x_bR, x_bD, x_bQ, x_bW, x_bS, x_bM, x_bT, x_bn, x_tg, x_tb, x_ts, x_fg, x_fb, x_fV, x_fS, x_fn, x_cg, x_cb, x_cB, x_cq, x_vHeld, x_vRed, x_vTal, x_vLis)))
  refine w_aload_n (pc := 0) (q := 0) G dV_distance_0 rfl rfl ?_
  refine w_iload_n (pc := 1) (q := 1) G dV_distance_1 rfl rfl ?_
  refine w_iload_n (pc := 2) (q := 2) G dV_distance_2 rfl rfl ?_
  refine w_iload_n (pc := 3) (q := 3) G dV_distance_3 rfl rfl ?_
  refine w_iload (pc := 4) (q := 4) G dV_distance_4 rfl ?_
  refine w_bipush (pc := 6) (v := (30 : Int32)) G dV_distance_6 (by decide) ?_
  obtain ⟨r8, e8, h⟩ := bd h
  refine w_callV (pc := 8) (av := [.int v1, .int v2, .int v3, .int v4, .int (30 : Int32)]) (rest := []) (v := some (.int r8.1)) (L' := (LM κ τ (LC κ (x_added, r8.2, x_eR, x_et, x_oR, x_ot, x_bR, x_bD, x_bQ, x_bW, x_bS, x_bM, x_bT, x_bn, x_tg, x_tb, x_ts, x_fg, x_fb, x_fV, x_fS, x_fn, x_cg, x_cb, x_cB, x_cq, x_vHeld, x_vRed, x_vTal, x_vLis)))) (T := TV) (fs := fl_V κ (x_added, x_asked, x_eR, x_et, x_oR, x_ot, x_bR, x_bD, x_bQ, x_bW, x_bS, x_bM, x_bT, x_bn, x_tg, x_tb, x_ts, x_fg, x_fb, x_fV, x_fS, x_fn, x_cg, x_cb, x_cB, x_cq, x_vHeld, x_vRed, x_vTal, x_vLis)) G 15 1 12 (by decide) lb_V rfl cb_V_ask_V_distance wd166 ws0 wd164 (met_V_ask κ τ F v1 v2 v3 v4 (30 : Int32)  e8) rfl rfl rfl (Nat.le_of_ble_eq_true rfl) dV_distance_8 ?_
  refine w_if_ne (pc := 11) (tgt := 16) G dV_distance_11 (by decide) (fun c11 => ?_) (fun c11 => ?_)
  · have h := if_t c11 h
    refine w_iconst (pc := 14) (v := (-1 : Int32)) G dV_distance_14 (by decide) ?_
    obtain rfl := Option.some.inj h
    exact w_iret (pc := 15) G dV_distance_15 Fh
  · have h := if_f c11 h
    refine w_aload_n (pc := 16) (q := 0) G dV_distance_16 rfl rfl ?_
    refine w_get (pc := 17) (v := .ref (κ.1 111)) (fs := fl_V κ (x_added, r8.2, x_eR, x_et, x_oR, x_ot, x_bR, x_bD, x_bQ, x_bW, x_bS, x_bM, x_bT, x_bn, x_tg, x_tb, x_ts, x_fg, x_fb, x_fV, x_fS, x_fn, x_cg, x_cb, x_cB, x_cq, x_vHeld, x_vRed, x_vTal, x_vLis)) G 15 (by decide) lb_V rfl wsV_ok 7 (by decide) wd130 gf_V_7 dV_distance_17 ?_
    refine w_aload_n (pc := 20) (q := 0) G dV_distance_20 rfl rfl ?_
    obtain ⟨r21, e21, h⟩ := bd h
    refine w_callV (pc := 21) (av := []) (rest := [.ref (κ.1 111)]) (v := some (.ref (κ.1 38))) (L' := (LM κ τ (LC κ (x_added, r8.2, x_eR, x_et, x_oR, x_ot, r21.1, r21.2.1, r21.2.2.1, r21.2.2.2.1, x_bS, x_bM, r21.2.2.2.2.1, r21.2.2.2.2.2.1, x_tg, x_tb, x_ts, x_fg, x_fb, x_fV, x_fS, x_fn, x_cg, x_cb, x_cB, x_cq, x_vHeld, r21.2.2.2.2.2.2, x_vTal, x_vLis)))) (T := TV) (fs := fl_V κ (x_added, r8.2, x_eR, x_et, x_oR, x_ot, x_bR, x_bD, x_bQ, x_bW, x_bS, x_bM, x_bT, x_bn, x_tg, x_tb, x_ts, x_fg, x_fb, x_fV, x_fS, x_fn, x_cg, x_cb, x_cB, x_cq, x_vHeld, x_vRed, x_vTal, x_vLis)) G 15 1 12 (by decide) lb_V rfl cb_V_readyBasis_V_distance wd236 ws5 wd234 (met_V_readyBasis κ τ F   e21) rfl rfl rfl (Nat.le_of_ble_eq_true rfl) dV_distance_21 ?_
    refine w_aload_n (pc := 24) (q := 0) G dV_distance_24 rfl rfl ?_
    refine w_get (pc := 25) (v := .ref (κ.1 23)) (fs := fl_V κ (x_added, r8.2, x_eR, x_et, x_oR, x_ot, r21.1, r21.2.1, r21.2.2.1, r21.2.2.2.1, x_bS, x_bM, r21.2.2.2.2.1, r21.2.2.2.2.2.1, x_tg, x_tb, x_ts, x_fg, x_fb, x_fV, x_fS, x_fn, x_cg, x_cb, x_cB, x_cq, x_vHeld, r21.2.2.2.2.2.2, x_vTal, x_vLis)) G 15 (by decide) lb_V rfl wsV_ok 1 (by decide) wd124 gf_V_1 dV_distance_25 ?_
    obtain ⟨r28, e28, h⟩ := bd h
    refine w_callV (pc := 28) (av := [.ref (κ.1 38), .ref (κ.1 23)]) (rest := []) (v := none) (L' := (LM κ τ (LC κ (x_added, r8.2, x_eR, x_et, x_oR, x_ot, r21.1, r21.2.1, r21.2.2.1, r21.2.2.2.1, r28.1, x_bM, r21.2.2.2.2.1, r21.2.2.2.2.2.1, x_tg, x_tb, x_ts, x_fg, x_fb, x_fV, x_fS, x_fn, r28.2.1, r28.2.2.1, r28.2.2.2.1, r28.2.2.2.2, x_vHeld, r21.2.2.2.2.2.2, x_vTal, x_vLis)))) (T := TC) (fs := fl_C κ (x_added, r8.2, x_eR, x_et, x_oR, x_ot, r21.1, r21.2.1, r21.2.2.1, r21.2.2.2.1, x_bS, x_bM, r21.2.2.2.2.1, r21.2.2.2.2.2.1, x_tg, x_tb, x_ts, x_fg, x_fb, x_fV, x_fS, x_fn, x_cg, x_cb, x_cB, x_cq, x_vHeld, r21.2.2.2.2.2.2, x_vTal, x_vLis)) G 111 6 4 (by decide) lb_C rfl cb_C_approach_V_distance wd460 wd461 wd459 (met_C_approach κ τ F   e28) rfl rfl rfl (Nat.le_of_ble_eq_true rfl) dV_distance_28 ?_
    refine w_aload_n (pc := 31) (q := 0) G dV_distance_31 rfl rfl ?_
    refine w_get (pc := 32) (v := .ref (κ.1 111)) (fs := fl_V κ (x_added, r8.2, x_eR, x_et, x_oR, x_ot, r21.1, r21.2.1, r21.2.2.1, r21.2.2.2.1, r28.1, x_bM, r21.2.2.2.2.1, r21.2.2.2.2.2.1, x_tg, x_tb, x_ts, x_fg, x_fb, x_fV, x_fS, x_fn, r28.2.1, r28.2.2.1, r28.2.2.2.1, r28.2.2.2.2, x_vHeld, r21.2.2.2.2.2.2, x_vTal, x_vLis)) G 15 (by decide) lb_V rfl wsV_ok 7 (by decide) wd130 gf_V_7 dV_distance_32 ?_
    obtain ⟨r35, e35, h⟩ := bd h
    refine w_callV (pc := 35) (av := []) (rest := []) (v := some (.int r35)) (L' := (LM κ τ (LC κ (x_added, r8.2, x_eR, x_et, x_oR, x_ot, r21.1, r21.2.1, r21.2.2.1, r21.2.2.2.1, r28.1, x_bM, r21.2.2.2.2.1, r21.2.2.2.2.2.1, x_tg, x_tb, x_ts, x_fg, x_fb, x_fV, x_fS, x_fn, r28.2.1, r28.2.2.1, r28.2.2.2.1, r28.2.2.2.2, x_vHeld, r21.2.2.2.2.2.2, x_vTal, x_vLis)))) (T := TC) (fs := fl_C κ (x_added, r8.2, x_eR, x_et, x_oR, x_ot, r21.1, r21.2.1, r21.2.2.1, r21.2.2.2.1, r28.1, x_bM, r21.2.2.2.2.1, r21.2.2.2.2.2.1, x_tg, x_tb, x_ts, x_fg, x_fb, x_fV, x_fS, x_fn, r28.2.1, r28.2.2.1, r28.2.2.2.1, r28.2.2.2.2, x_vHeld, r21.2.2.2.2.2.2, x_vTal, x_vLis)) G 111 6 4 (by decide) lb_C rfl cb_C_leastSquare_V_distance wd473 wd474 wd472 (met_C_leastSquare κ τ F   e35) rfl rfl rfl (Nat.le_of_ble_eq_true rfl) dV_distance_35 ?_
    obtain rfl := Option.some.inj h
    exact w_iret (pc := 38) G dV_distance_38 Fh
def rm_V_nearest : Room := { frames := 17, cells := 0, slots := 0, locals := 560 }
theorem dV_nearest_0 : decode cV_nearest 0 = .ok (.iload 5, 2) := by decide +kernel
theorem dV_nearest_2 : decode cV_nearest 2 = .ok (.invokestatic 117, 3) := by decide +kernel
theorem dV_nearest_5 : decode cV_nearest 5 = .ok (.ifCond .eq 17, 3) := by decide +kernel
theorem dV_nearest_8 : decode cV_nearest 8 = .ok (.aload_n 0, 1) := by decide +kernel
theorem dV_nearest_9 : decode cV_nearest 9 = .ok (.iload_n 1, 1) := by decide +kernel
theorem dV_nearest_10 : decode cV_nearest 10 = .ok (.iload_n 2, 1) := by decide +kernel
theorem dV_nearest_11 : decode cV_nearest 11 = .ok (.iload_n 3, 1) := by decide +kernel
theorem dV_nearest_12 : decode cV_nearest 12 = .ok (.iload 4, 2) := by decide +kernel
theorem dV_nearest_14 : decode cV_nearest 14 = .ok (.bipush 30, 2) := by decide +kernel
theorem dV_nearest_16 : decode cV_nearest 16 = .ok (.invokevirtual 60, 3) := by decide +kernel
theorem dV_nearest_19 : decode cV_nearest 19 = .ok (.ifCond .ne 7, 3) := by decide +kernel
theorem dV_nearest_22 : decode cV_nearest 22 = .ok (.sipush 1000, 3) := by decide +kernel
theorem dV_nearest_25 : decode cV_nearest 25 = .ok (.ireturn, 1) := by decide +kernel
theorem dV_nearest_26 : decode cV_nearest 26 = .ok (.aload_n 0, 1) := by decide +kernel
theorem dV_nearest_27 : decode cV_nearest 27 = .ok (.getfield 52, 3) := by decide +kernel
theorem dV_nearest_30 : decode cV_nearest 30 = .ok (.aload_n 0, 1) := by decide +kernel
theorem dV_nearest_31 : decode cV_nearest 31 = .ok (.invokevirtual 83, 3) := by decide +kernel
theorem dV_nearest_34 : decode cV_nearest 34 = .ok (.aload_n 0, 1) := by decide +kernel
theorem dV_nearest_35 : decode cV_nearest 35 = .ok (.getfield 14, 3) := by decide +kernel
theorem dV_nearest_38 : decode cV_nearest 38 = .ok (.invokevirtual 129, 3) := by decide +kernel
theorem dV_nearest_41 : decode cV_nearest 41 = .ok (.aload_n 0, 1) := by decide +kernel
theorem dV_nearest_42 : decode cV_nearest 42 = .ok (.getfield 52, 3) := by decide +kernel
theorem dV_nearest_45 : decode cV_nearest 45 = .ok (.iload 5, 2) := by decide +kernel
theorem dV_nearest_47 : decode cV_nearest 47 = .ok (.invokevirtual 136, 3) := by decide +kernel
theorem dV_nearest_50 : decode cV_nearest 50 = .ok (.ireturn, 1) := by decide +kernel
theorem cb_V_ask_V_nearest : CB yV_ask cV_ask 7 (some .boolean) rm_V_ask rm_V_nearest 5 := ⟨wd167, wd1, by decide +kernel, rfl, rfl, by decide⟩
theorem cb_V_isAxis_V_nearest : CB yV_isAxis cV_isAxis 1 (some .boolean) rm_V_isAxis rm_V_nearest 1 := ⟨wd440, wd1, by decide +kernel, rfl, rfl, by decide⟩
theorem cb_V_readyBasis_V_nearest : CB yV_readyBasis cV_readyBasis 1 (some (.object "ShortVectors$Basis")) rm_V_readyBasis rm_V_nearest 0 := ⟨wd237, wd1, by decide +kernel, rfl, rfl, by decide⟩
theorem cb_C_approach_V_nearest : CB yC_approach cC_approach 3 none rm_C_approach rm_V_nearest 2 := ⟨wd462, wd7, by decide +kernel, rfl, rfl, by decide⟩
theorem cb_C_coordinate_V_nearest : CB yC_coordinate cC_coordinate 2 (some .int) rm_C_coordinate rm_V_nearest 1 := ⟨wd483, wd7, by decide +kernel, rfl, rfl, by decide⟩
noncomputable def V_nearest (F : Nat)  (x_asked : Nat → Int64) (x_eR : Nat → Nat → Int64) (x_bR : Nat → Nat → Int64) (x_bD : Nat → Nat → Int64) (x_bQ : Nat → Int64) (x_bW : Nat → Int64) (x_bS : Nat → Nat → Int64) (x_bT : Nat → Int64) (x_bn : Int32) (x_cg : Nat → Int64) (x_cb : Int64) (x_cB : Nat → Int64) (x_cq : Int64) (x_vRed : Int32) (v1 : Int32) (v2 : Int32) (v3 : Int32) (v4 : Int32) (v5 : Int32) : Option (Int32 × (Nat → Int64) × (Nat → Nat → Int64) × (Nat → Nat → Int64) × (Nat → Int64) × (Nat → Int64) × (Nat → Nat → Int64) × (Nat → Int64) × Int32 × (Nat → Int64) × Int64 × (Nat → Int64) × Int64 × Int32) := (V_isAxis F  v5).bind (fun r2 => if r2 = 0 then some ((1000 : Int32), x_asked, x_bR, x_bD, x_bQ, x_bW, x_bS, x_bT, x_bn, x_cg, x_cb, x_cB, x_cq, x_vRed) else (V_ask F x_asked v1 v2 v3 v4 (30 : Int32)).bind (fun r16 => if r16.1 = 0 then some ((1000 : Int32), r16.2, x_bR, x_bD, x_bQ, x_bW, x_bS, x_bT, x_bn, x_cg, x_cb, x_cB, x_cq, x_vRed) else (V_readyBasis F x_eR x_bR x_bD x_bQ x_bW x_bT x_bn x_vRed ).bind (fun r31 => (C_approach F r16.2 r31.1 r31.2.1 r31.2.2.1 r31.2.2.2.1 x_bS r31.2.2.2.2.2.1 x_cg x_cb x_cB x_cq ).bind (fun r38 => (C_coordinate F r38.2.1 r38.2.2.2.1 v5).bind (fun r47 => some (r47, r16.2, r31.1, r31.2.1, r31.2.2.1, r31.2.2.2.1, r38.1, r31.2.2.2.2.1, r31.2.2.2.2.2.1, r38.2.1, r38.2.2.1, r38.2.2.2.1, r38.2.2.2.2, r31.2.2.2.2.2.2))))))
set_option maxHeartbeats 8000000 in
set_option maxRecDepth 100000 in
theorem met_V_nearest (κ : ctx) (τ : MS) (F : Nat) {x_added : Nat → Nat → Int64} {x_asked : Nat → Int64} {x_eR : Nat → Nat → Int64} {x_et : Nat → Int64} {x_oR : Nat → Nat → Int64} {x_ot : Nat → Int64} {x_bR : Nat → Nat → Int64} {x_bD : Nat → Nat → Int64} {x_bQ : Nat → Int64} {x_bW : Nat → Int64} {x_bS : Nat → Nat → Int64} {x_bM : Nat → Nat → Int64} {x_bT : Nat → Int64} {x_bn : Int32} {x_tg : Nat → Int64} {x_tb : Int64} {x_ts : Nat → Int32} {x_fg : Nat → Int64} {x_fb : Int64} {x_fV : Nat → Nat → Int64} {x_fS : Nat → Int64} {x_fn : Int32} {x_cg : Nat → Int64} {x_cb : Int64} {x_cB : Nat → Int64} {x_cq : Int64} {x_vHeld : Int32} {x_vRed : Int32} {x_vTal : Int32} {x_vLis : Int32} (v1 : Int32) (v2 : Int32) (v3 : Int32) (v4 : Int32) (v5 : Int32) {out : Int32 × (Nat → Int64) × (Nat → Nat → Int64) × (Nat → Nat → Int64) × (Nat → Int64) × (Nat → Int64) × (Nat → Nat → Int64) × (Nat → Int64) × Int32 × (Nat → Int64) × Int64 × (Nat → Int64) × Int64 × Int32} (h : V_nearest F  x_asked x_eR x_bR x_bD x_bQ x_bW x_bS x_bT x_bn x_cg x_cb x_cB x_cq x_vRed v1 v2 v3 v4 v5 = some out) : Mt yV_nearest cV_nearest 6 (some .int) rm_V_nearest κ [.ref (κ.1 15), .int v1, .int v2, .int v3, .int v4, .int v5] (LM κ τ (LC κ (x_added, x_asked, x_eR, x_et, x_oR, x_ot, x_bR, x_bD, x_bQ, x_bW, x_bS, x_bM, x_bT, x_bn, x_tg, x_tb, x_ts, x_fg, x_fb, x_fV, x_fS, x_fn, x_cg, x_cb, x_cB, x_cq, x_vHeld, x_vRed, x_vTal, x_vLis))) (some (.int out.1)) (LM κ τ (LC κ (x_added, out.2.1, x_eR, x_et, x_oR, x_ot, out.2.2.1, out.2.2.2.1, out.2.2.2.2.1, out.2.2.2.2.2.1, out.2.2.2.2.2.2.1, x_bM, out.2.2.2.2.2.2.2.1, out.2.2.2.2.2.2.2.2.1, x_tg, x_tb, x_ts, x_fg, x_fb, x_fV, x_fS, x_fn, out.2.2.2.2.2.2.2.2.2.1, out.2.2.2.2.2.2.2.2.2.2.1, out.2.2.2.2.2.2.2.2.2.2.2.1, out.2.2.2.2.2.2.2.2.2.2.2.2.1, x_vHeld, out.2.2.2.2.2.2.2.2.2.2.2.2.2, x_vTal, x_vLis))) := by
  refine Mt.of (by decide) (Nat.le_of_ble_eq_true rfl) ?_
  intro g G Fh
  unfold V_nearest at h
  show J g κ 6 0 [(0, .ref (κ.1 15)), (1, .int v1), (2, .int v2), (3, .int v3), (4, .int v4), (5, .int v5)] [] (LM κ τ (LC κ (x_added, x_asked, x_eR, x_et, x_oR, x_ot, x_bR, x_bD, x_bQ, x_bW, x_bS, x_bM, x_bT, x_bn, x_tg, x_tb, x_ts, x_fg, x_fb, x_fV, x_fS, x_fn, x_cg, x_cb, x_cB, x_cq, x_vHeld, x_vRed, x_vTal, x_vLis)))
  refine w_iload (pc := 0) (q := 5) G dV_nearest_0 rfl ?_
  obtain ⟨r2, e2, h⟩ := bd h
  refine w_callS (pc := 2) (av := [.int v5]) (rest := []) (v := some (.int r2)) (L' := (LM κ τ (LC κ (x_added, x_asked, x_eR, x_et, x_oR, x_ot, x_bR, x_bD, x_bQ, x_bW, x_bS, x_bM, x_bT, x_bn, x_tg, x_tb, x_ts, x_fg, x_fb, x_fV, x_fS, x_fn, x_cg, x_cb, x_cB, x_cq, x_vHeld, x_vRed, x_vTal, x_vLis)))) G cb_V_isAxis_V_nearest wd439 wd438 (met_V_isAxis κ (LM κ τ (LC κ (x_added, x_asked, x_eR, x_et, x_oR, x_ot, x_bR, x_bD, x_bQ, x_bW, x_bS, x_bM, x_bT, x_bn, x_tg, x_tb, x_ts, x_fg, x_fb, x_fV, x_fS, x_fn, x_cg, x_cb, x_cB, x_cq, x_vHeld, x_vRed, x_vTal, x_vLis))) F v5  e2) rfl rfl rfl (Nat.le_of_ble_eq_true rfl) dV_nearest_2 ?_
  refine w_if_eq (pc := 5) (tgt := 22) G dV_nearest_5 (by decide) (fun c5 => ?_) (fun c5 => ?_)
  · have h := if_t c5 h
    refine w_sipush (pc := 22) (v := (1000 : Int32)) G dV_nearest_22 (by decide) ?_
    obtain rfl := Option.some.inj h
    exact w_iret (pc := 25) G dV_nearest_25 Fh
  · have h := if_f c5 h
    refine w_aload_n (pc := 8) (q := 0) G dV_nearest_8 rfl rfl ?_
    refine w_iload_n (pc := 9) (q := 1) G dV_nearest_9 rfl rfl ?_
    refine w_iload_n (pc := 10) (q := 2) G dV_nearest_10 rfl rfl ?_
    refine w_iload_n (pc := 11) (q := 3) G dV_nearest_11 rfl rfl ?_
    refine w_iload (pc := 12) (q := 4) G dV_nearest_12 rfl ?_
    refine w_bipush (pc := 14) (v := (30 : Int32)) G dV_nearest_14 (by decide) ?_
    obtain ⟨r16, e16, h⟩ := bd h
    refine w_callV (pc := 16) (av := [.int v1, .int v2, .int v3, .int v4, .int (30 : Int32)]) (rest := []) (v := some (.int r16.1)) (L' := (LM κ τ (LC κ (x_added, r16.2, x_eR, x_et, x_oR, x_ot, x_bR, x_bD, x_bQ, x_bW, x_bS, x_bM, x_bT, x_bn, x_tg, x_tb, x_ts, x_fg, x_fb, x_fV, x_fS, x_fn, x_cg, x_cb, x_cB, x_cq, x_vHeld, x_vRed, x_vTal, x_vLis)))) (T := TV) (fs := fl_V κ (x_added, x_asked, x_eR, x_et, x_oR, x_ot, x_bR, x_bD, x_bQ, x_bW, x_bS, x_bM, x_bT, x_bn, x_tg, x_tb, x_ts, x_fg, x_fb, x_fV, x_fS, x_fn, x_cg, x_cb, x_cB, x_cq, x_vHeld, x_vRed, x_vTal, x_vLis)) G 15 1 12 (by decide) lb_V rfl cb_V_ask_V_nearest wd166 ws0 wd164 (met_V_ask κ τ F v1 v2 v3 v4 (30 : Int32)  e16) rfl rfl rfl (Nat.le_of_ble_eq_true rfl) dV_nearest_16 ?_
    refine w_if_ne (pc := 19) (tgt := 26) G dV_nearest_19 (by decide) (fun c19 => ?_) (fun c19 => ?_)
    · have h := if_t c19 h
      refine w_sipush (pc := 22) (v := (1000 : Int32)) G dV_nearest_22 (by decide) ?_
      obtain rfl := Option.some.inj h
      exact w_iret (pc := 25) G dV_nearest_25 Fh
    · have h := if_f c19 h
      refine w_aload_n (pc := 26) (q := 0) G dV_nearest_26 rfl rfl ?_
      refine w_get (pc := 27) (v := .ref (κ.1 111)) (fs := fl_V κ (x_added, r16.2, x_eR, x_et, x_oR, x_ot, x_bR, x_bD, x_bQ, x_bW, x_bS, x_bM, x_bT, x_bn, x_tg, x_tb, x_ts, x_fg, x_fb, x_fV, x_fS, x_fn, x_cg, x_cb, x_cB, x_cq, x_vHeld, x_vRed, x_vTal, x_vLis)) G 15 (by decide) lb_V rfl wsV_ok 7 (by decide) wd130 gf_V_7 dV_nearest_27 ?_
      refine w_aload_n (pc := 30) (q := 0) G dV_nearest_30 rfl rfl ?_
      obtain ⟨r31, e31, h⟩ := bd h
      refine w_callV (pc := 31) (av := []) (rest := [.ref (κ.1 111)]) (v := some (.ref (κ.1 38))) (L' := (LM κ τ (LC κ (x_added, r16.2, x_eR, x_et, x_oR, x_ot, r31.1, r31.2.1, r31.2.2.1, r31.2.2.2.1, x_bS, x_bM, r31.2.2.2.2.1, r31.2.2.2.2.2.1, x_tg, x_tb, x_ts, x_fg, x_fb, x_fV, x_fS, x_fn, x_cg, x_cb, x_cB, x_cq, x_vHeld, r31.2.2.2.2.2.2, x_vTal, x_vLis)))) (T := TV) (fs := fl_V κ (x_added, r16.2, x_eR, x_et, x_oR, x_ot, x_bR, x_bD, x_bQ, x_bW, x_bS, x_bM, x_bT, x_bn, x_tg, x_tb, x_ts, x_fg, x_fb, x_fV, x_fS, x_fn, x_cg, x_cb, x_cB, x_cq, x_vHeld, x_vRed, x_vTal, x_vLis)) G 15 1 12 (by decide) lb_V rfl cb_V_readyBasis_V_nearest wd236 ws5 wd234 (met_V_readyBasis κ τ F   e31) rfl rfl rfl (Nat.le_of_ble_eq_true rfl) dV_nearest_31 ?_
      refine w_aload_n (pc := 34) (q := 0) G dV_nearest_34 rfl rfl ?_
      refine w_get (pc := 35) (v := .ref (κ.1 23)) (fs := fl_V κ (x_added, r16.2, x_eR, x_et, x_oR, x_ot, r31.1, r31.2.1, r31.2.2.1, r31.2.2.2.1, x_bS, x_bM, r31.2.2.2.2.1, r31.2.2.2.2.2.1, x_tg, x_tb, x_ts, x_fg, x_fb, x_fV, x_fS, x_fn, x_cg, x_cb, x_cB, x_cq, x_vHeld, r31.2.2.2.2.2.2, x_vTal, x_vLis)) G 15 (by decide) lb_V rfl wsV_ok 1 (by decide) wd124 gf_V_1 dV_nearest_35 ?_
      obtain ⟨r38, e38, h⟩ := bd h
      refine w_callV (pc := 38) (av := [.ref (κ.1 38), .ref (κ.1 23)]) (rest := []) (v := none) (L' := (LM κ τ (LC κ (x_added, r16.2, x_eR, x_et, x_oR, x_ot, r31.1, r31.2.1, r31.2.2.1, r31.2.2.2.1, r38.1, x_bM, r31.2.2.2.2.1, r31.2.2.2.2.2.1, x_tg, x_tb, x_ts, x_fg, x_fb, x_fV, x_fS, x_fn, r38.2.1, r38.2.2.1, r38.2.2.2.1, r38.2.2.2.2, x_vHeld, r31.2.2.2.2.2.2, x_vTal, x_vLis)))) (T := TC) (fs := fl_C κ (x_added, r16.2, x_eR, x_et, x_oR, x_ot, r31.1, r31.2.1, r31.2.2.1, r31.2.2.2.1, x_bS, x_bM, r31.2.2.2.2.1, r31.2.2.2.2.2.1, x_tg, x_tb, x_ts, x_fg, x_fb, x_fV, x_fS, x_fn, x_cg, x_cb, x_cB, x_cq, x_vHeld, r31.2.2.2.2.2.2, x_vTal, x_vLis)) G 111 6 4 (by decide) lb_C rfl cb_C_approach_V_nearest wd460 wd461 wd459 (met_C_approach κ τ F   e38) rfl rfl rfl (Nat.le_of_ble_eq_true rfl) dV_nearest_38 ?_
      refine w_aload_n (pc := 41) (q := 0) G dV_nearest_41 rfl rfl ?_
      refine w_get (pc := 42) (v := .ref (κ.1 111)) (fs := fl_V κ (x_added, r16.2, x_eR, x_et, x_oR, x_ot, r31.1, r31.2.1, r31.2.2.1, r31.2.2.2.1, r38.1, x_bM, r31.2.2.2.2.1, r31.2.2.2.2.2.1, x_tg, x_tb, x_ts, x_fg, x_fb, x_fV, x_fS, x_fn, r38.2.1, r38.2.2.1, r38.2.2.2.1, r38.2.2.2.2, x_vHeld, r31.2.2.2.2.2.2, x_vTal, x_vLis)) G 15 (by decide) lb_V rfl wsV_ok 7 (by decide) wd130 gf_V_7 dV_nearest_42 ?_
      refine w_iload (pc := 45) (q := 5) G dV_nearest_45 rfl ?_
      obtain ⟨r47, e47, h⟩ := bd h
      refine w_callV (pc := 47) (av := [.int v5]) (rest := []) (v := some (.int r47)) (L' := (LM κ τ (LC κ (x_added, r16.2, x_eR, x_et, x_oR, x_ot, r31.1, r31.2.1, r31.2.2.1, r31.2.2.2.1, r38.1, x_bM, r31.2.2.2.2.1, r31.2.2.2.2.2.1, x_tg, x_tb, x_ts, x_fg, x_fb, x_fV, x_fS, x_fn, r38.2.1, r38.2.2.1, r38.2.2.2.1, r38.2.2.2.2, x_vHeld, r31.2.2.2.2.2.2, x_vTal, x_vLis)))) (T := TC) (fs := fl_C κ (x_added, r16.2, x_eR, x_et, x_oR, x_ot, r31.1, r31.2.1, r31.2.2.1, r31.2.2.2.1, r38.1, x_bM, r31.2.2.2.2.1, r31.2.2.2.2.2.1, x_tg, x_tb, x_ts, x_fg, x_fb, x_fV, x_fS, x_fn, r38.2.1, r38.2.2.1, r38.2.2.2.1, r38.2.2.2.2, x_vHeld, r31.2.2.2.2.2.2, x_vTal, x_vLis)) G 111 6 4 (by decide) lb_C rfl cb_C_coordinate_V_nearest wd481 wd482 wd480 (met_C_coordinate κ τ F v5  e47) rfl rfl rfl (Nat.le_of_ble_eq_true rfl) dV_nearest_47 ?_
      obtain rfl := Option.some.inj h
      exact w_iret (pc := 50) G dV_nearest_50 Fh
