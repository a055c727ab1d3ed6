def rm_K_goal_T : Room := { frames := 0, cells := 0, slots := 0, locals := 0 }
theorem dK_goal_0 : decode cK_goal 0 = .ok (.aload_n 0, 1) := by decide +kernel
theorem dK_goal_1 : decode cK_goal 1 = .ok (.getfield 9, 3) := by decide +kernel
theorem dK_goal_4 : decode cK_goal 4 = .ok (.areturn, 1) := by decide +kernel
noncomputable def K_goal (F : Nat)    : Option (Unit) := some ()
set_option maxHeartbeats 8000000 in
set_option maxRecDepth 100000 in
theorem met_K_goal_T (κ : ctx) (τ : MS) (F : Nat) {x_added : Nat → Nat → Int64} {x_asked : Nat → Int64} {x_eR : Nat → Nat → Int64} {x_et : Nat → Int64} {x_oR : Nat → Nat → Int64} {x_ot : Nat → Int64} {x_bR : Nat → Nat → Int64} {x_bD : Nat → Nat → Int64} {x_bQ : Nat → Int64} {x_bW : Nat → Int64} {x_bS : Nat → Nat → Int64} {x_bM : Nat → Nat → Int64} {x_bT : Nat → Int64} {x_bn : Int32} {x_tg : Nat → Int64} {x_tb : Int64} {x_ts : Nat → Int32} {x_fg : Nat → Int64} {x_fb : Int64} {x_fV : Nat → Nat → Int64} {x_fS : Nat → Int64} {x_fn : Int32} {x_cg : Nat → Int64} {x_cb : Int64} {x_cB : Nat → Int64} {x_cq : Int64} {x_vHeld : Int32} {x_vRed : Int32} {x_vTal : Int32} {x_vLis : Int32}  {out : Unit} (h : K_goal F    = some out) : Mt yK_goal cK_goal 1 (some (.array .long)) rm_K_goal_T κ [.ref (κ.1 63)] (LM κ τ (LC κ (x_added, x_asked, x_eR, x_et, x_oR, x_ot, x_bR, x_bD, x_bQ, x_bW, x_bS, x_bM, x_bT, x_bn, x_tg, x_tb, x_ts, x_fg, x_fb, x_fV, x_fS, x_fn, x_cg, x_cb, x_cB, x_cq, x_vHeld, x_vRed, x_vTal, x_vLis))) (some (.ref (κ.1 64))) (LM κ τ (LC κ (x_added, x_asked, x_eR, x_et, x_oR, x_ot, x_bR, x_bD, x_bQ, x_bW, x_bS, x_bM, x_bT, x_bn, x_tg, x_tb, x_ts, x_fg, x_fb, x_fV, x_fS, x_fn, x_cg, x_cb, x_cB, x_cq, x_vHeld, x_vRed, x_vTal, x_vLis))) := by
  refine Mt.of (by decide) (Nat.le_of_ble_eq_true rfl) ?_
  intro g G Fh
  unfold K_goal at h
  show J g κ 1 0 [(0, .ref (κ.1 63))] [] (LM κ τ (LC κ (x_added, x_asked, x_eR, x_et, x_oR, x_ot, x_bR, x_bD, x_bQ, x_bW, x_bS, x_bM, x_bT, x_bn, x_tg, x_tb, x_ts, x_fg, x_fb, x_fV, x_fS, x_fn, x_cg, x_cb, x_cB, x_cq, x_vHeld, x_vRed, x_vTal, x_vLis)))
  refine w_aload_n (pc := 0) (q := 0) G dK_goal_0 rfl rfl ?_
  refine w_get (pc := 1) (v := .ref (κ.1 64)) (fs := fl_T κ (x_added, x_asked, x_eR, x_et, x_oR, x_ot, x_bR, x_bD, x_bQ, x_bW, x_bS, x_bM, x_bT, x_bn, x_tg, x_tb, x_ts, x_fg, x_fb, x_fV, x_fS, x_fn, x_cg, x_cb, x_cB, x_cq, x_vHeld, x_vRed, x_vTal, x_vLis)) G 63 (by decide) lb_T rfl wsT_ok 0 (by decide) wd79 gf_T_0 dK_goal_1 ?_
  obtain rfl := Option.some.inj h
  exact w_aret (pc := 4) G (Or.inr ⟨_, rfl⟩) dK_goal_4 Fh
def rm_K_setBudget_T : Room := { frames := 0, cells := 0, slots := 0, locals := 0 }
theorem dK_setBudget_0 : decode cK_setBudget 0 = .ok (.aload_n 0, 1) := by decide +kernel
theorem dK_setBudget_1 : decode cK_setBudget 1 = .ok (.lload_n 1, 1) := by decide +kernel
theorem dK_setBudget_2 : decode cK_setBudget 2 = .ok (.putfield 15, 3) := by decide +kernel
theorem dK_setBudget_5 : decode cK_setBudget 5 = .ok (.return_, 1) := by decide +kernel
noncomputable def K_setBudget (F : Nat)  (x_tb : Int64) (v1 : Int64) : Option (Int64) := some v1
set_option maxHeartbeats 8000000 in
set_option maxRecDepth 100000 in
theorem met_K_setBudget_T (κ : ctx) (τ : MS) (F : Nat) {x_added : Nat → Nat → Int64} {x_asked : Nat → Int64} {x_eR : Nat → Nat → Int64} {x_et : Nat → Int64} {x_oR : Nat → Nat → Int64} {x_ot : Nat → Int64} {x_bR : Nat → Nat → Int64} {x_bD : Nat → Nat → Int64} {x_bQ : Nat → Int64} {x_bW : Nat → Int64} {x_bS : Nat → Nat → Int64} {x_bM : Nat → Nat → Int64} {x_bT : Nat → Int64} {x_bn : Int32} {x_tg : Nat → Int64} {x_tb : Int64} {x_ts : Nat → Int32} {x_fg : Nat → Int64} {x_fb : Int64} {x_fV : Nat → Nat → Int64} {x_fS : Nat → Int64} {x_fn : Int32} {x_cg : Nat → Int64} {x_cb : Int64} {x_cB : Nat → Int64} {x_cq : Int64} {x_vHeld : Int32} {x_vRed : Int32} {x_vTal : Int32} {x_vLis : Int32} (v1 : Int64) {out : Int64} (h : K_setBudget F  x_tb v1 = some out) : Mt yK_setBudget cK_setBudget 3 none rm_K_setBudget_T κ [.ref (κ.1 63), .long v1] (LM κ τ (LC κ (x_added, x_asked, x_eR, x_et, x_oR, x_ot, x_bR, x_bD, x_bQ, x_bW, x_bS, x_bM, x_bT, x_bn, x_tg, x_tb, x_ts, x_fg, x_fb, x_fV, x_fS, x_fn, x_cg, x_cb, x_cB, x_cq, x_vHeld, x_vRed, x_vTal, x_vLis))) none (LM κ τ (LC κ (x_added, x_asked, x_eR, x_et, x_oR, x_ot, x_bR, x_bD, x_bQ, x_bW, x_bS, x_bM, x_bT, x_bn, x_tg, out, x_ts, x_fg, x_fb, x_fV, x_fS, x_fn, x_cg, x_cb, x_cB, x_cq, x_vHeld, x_vRed, x_vTal, x_vLis))) := by
  refine Mt.of (by decide) (Nat.le_of_ble_eq_true rfl) ?_
  intro g G Fh
  unfold K_setBudget at h
  show J g κ 3 0 [(0, .ref (κ.1 63)), (1, .long v1)] [] (LM κ τ (LC κ (x_added, x_asked, x_eR, x_et, x_oR, x_ot, x_bR, x_bD, x_bQ, x_bW, x_bS, x_bM, x_bT, x_bn, x_tg, x_tb, x_ts, x_fg, x_fb, x_fV, x_fS, x_fn, x_cg, x_cb, x_cB, x_cq, x_vHeld, x_vRed, x_vTal, x_vLis)))
  refine w_aload_n (pc := 0) (q := 0) G dK_setBudget_0 rfl rfl ?_
  refine w_lload_n (pc := 1) (q := 1) G dK_setBudget_1 rfl rfl ?_
  refine w_put (pc := 2) (fs := fl_T κ (x_added, x_asked, x_eR, x_et, x_oR, x_ot, x_bR, x_bD, x_bQ, x_bW, x_bS, x_bM, x_bT, x_bn, x_tg, x_tb, x_ts, x_fg, x_fb, x_fV, x_fS, x_fn, x_cg, x_cb, x_cB, x_cq, x_vHeld, x_vRed, x_vTal, x_vLis)) (L1 := (LM κ τ (LC κ (x_added, x_asked, x_eR, x_et, x_oR, x_ot, x_bR, x_bD, x_bQ, x_bW, x_bS, x_bM, x_bT, x_bn, x_tg, v1, x_ts, x_fg, x_fb, x_fV, x_fS, x_fn, x_cg, x_cb, x_cB, x_cq, x_vHeld, x_vRed, x_vTal, x_vLis)))) G 63 (by decide) lb_T rfl wsT_ok tyT tyT_ok nmT 1 (by decide) wd80 rfl rfl rfl (Nat.le_of_ble_eq_true rfl) dK_setBudget_2 upf_tb ?_
  obtain rfl := Option.some.inj h
  exact w_vret (pc := 5) G dK_setBudget_5 Fh
def rm_K_wants_T : Room := { frames := 0, cells := 0, slots := 0, locals := 0 }
theorem dK_wants_0 : decode cK_wants 0 = .ok (.lload_n 1, 1) := by decide +kernel
theorem dK_wants_1 : decode cK_wants 1 = .ok (.aload_n 0, 1) := by decide +kernel
theorem dK_wants_2 : decode cK_wants 2 = .ok (.getfield 15, 3) := by decide +kernel
theorem dK_wants_5 : decode cK_wants 5 = .ok (.lcmp, 1) := by decide +kernel
theorem dK_wants_6 : decode cK_wants 6 = .ok (.ifCond .gt 7, 3) := by decide +kernel
theorem dK_wants_9 : decode cK_wants 9 = .ok (.iconst 1, 1) := by decide +kernel
theorem dK_wants_10 : decode cK_wants 10 = .ok (.goto 4, 3) := by decide +kernel
theorem dK_wants_13 : decode cK_wants 13 = .ok (.iconst 0, 1) := by decide +kernel
theorem dK_wants_14 : decode cK_wants 14 = .ok (.ireturn, 1) := by decide +kernel
noncomputable def K_wants (F : Nat)  (x_tb : Int64) (v1 : Int64) : Option (Int32) := if x_tb < v1 then some (0 : Int32) else some (1 : Int32)
set_option maxHeartbeats 8000000 in
set_option maxRecDepth 100000 in
theorem met_K_wants_T (κ : ctx) (τ : MS) (F : Nat) {x_added : Nat → Nat → Int64} {x_asked : Nat → Int64} {x_eR : Nat → Nat → Int64} {x_et : Nat → Int64} {x_oR : Nat → Nat → Int64} {x_ot : Nat → Int64} {x_bR : Nat → Nat → Int64} {x_bD : Nat → Nat → Int64} {x_bQ : Nat → Int64} {x_bW : Nat → Int64} {x_bS : Nat → Nat → Int64} {x_bM : Nat → Nat → Int64} {x_bT : Nat → Int64} {x_bn : Int32} {x_tg : Nat → Int64} {x_tb : Int64} {x_ts : Nat → Int32} {x_fg : Nat → Int64} {x_fb : Int64} {x_fV : Nat → Nat → Int64} {x_fS : Nat → Int64} {x_fn : Int32} {x_cg : Nat → Int64} {x_cb : Int64} {x_cB : Nat → Int64} {x_cq : Int64} {x_vHeld : Int32} {x_vRed : Int32} {x_vTal : Int32} {x_vLis : Int32} (v1 : Int64) {out : Int32} (h : K_wants F  x_tb v1 = some out) : Mt yK_wants cK_wants 3 (some .boolean) rm_K_wants_T κ [.ref (κ.1 63), .long v1] (LM κ τ (LC κ (x_added, x_asked, x_eR, x_et, x_oR, x_ot, x_bR, x_bD, x_bQ, x_bW, x_bS, x_bM, x_bT, x_bn, x_tg, x_tb, x_ts, x_fg, x_fb, x_fV, x_fS, x_fn, x_cg, x_cb, x_cB, x_cq, x_vHeld, x_vRed, x_vTal, x_vLis))) (some (.int out)) (LM κ τ (LC κ (x_added, x_asked, x_eR, x_et, x_oR, x_ot, x_bR, x_bD, x_bQ, x_bW, x_bS, x_bM, x_bT, x_bn, x_tg, x_tb, x_ts, x_fg, x_fb, x_fV, x_fS, x_fn, x_cg, x_cb, x_cB, x_cq, x_vHeld, x_vRed, x_vTal, x_vLis))) := by
  refine Mt.of (by decide) (Nat.le_of_ble_eq_true rfl) ?_
  intro g G Fh
  unfold K_wants at h
  show J g κ 3 0 [(0, .ref (κ.1 63)), (1, .long v1)] [] (LM κ τ (LC κ (x_added, x_asked, x_eR, x_et, x_oR, x_ot, x_bR, x_bD, x_bQ, x_bW, x_bS, x_bM, x_bT, x_bn, x_tg, x_tb, x_ts, x_fg, x_fb, x_fV, x_fS, x_fn, x_cg, x_cb, x_cB, x_cq, x_vHeld, x_vRed, x_vTal, x_vLis)))
  refine w_lload_n (pc := 0) (q := 1) G dK_wants_0 rfl rfl ?_
  refine w_aload_n (pc := 1) (q := 0) G dK_wants_1 rfl rfl ?_
  refine w_get (pc := 2) (v := .long x_tb) (fs := fl_T κ (x_added, x_asked, x_eR, x_et, x_oR, x_ot, x_bR, x_bD, x_bQ, x_bW, x_bS, x_bM, x_bT, x_bn, x_tg, x_tb, x_ts, x_fg, x_fb, x_fV, x_fS, x_fn, x_cg, x_cb, x_cB, x_cq, x_vHeld, x_vRed, x_vTal, x_vLis)) G 63 (by decide) lb_T rfl wsT_ok 1 (by decide) wd80 gf_T_1 dK_wants_2 ?_
  refine w_lc_gt (pc := 5) (tgt := 13) G dK_wants_5 dK_wants_6 (by decide) (fun c5 => ?_) (fun c5 => ?_)
  · have h := if_t c5 h
    refine w_iconst (pc := 13) (v := (0 : Int32)) G dK_wants_13 (by decide) ?_
    obtain rfl := Option.some.inj h
    exact w_zret (pc := 14) G rfl dK_wants_14 Fh
  · have h := if_f c5 h
    refine w_iconst (pc := 9) (v := (1 : Int32)) G dK_wants_9 (by decide) ?_
    refine w_goto (pc := 10) (tgt := 14) G dK_wants_10 (by decide) ?_
    obtain rfl := Option.some.inj h
    exact w_zret (pc := 14) G rfl dK_wants_14 Fh
def rm_K_goal_F : Room := { frames := 0, cells := 0, slots := 0, locals := 0 }
set_option maxHeartbeats 8000000 in
set_option maxRecDepth 100000 in
theorem met_K_goal_F (κ : ctx) (τ : MS) (F : Nat) {x_added : Nat → Nat → Int64} {x_asked : Nat → Int64} {x_eR : Nat → Nat → Int64} {x_et : Nat → Int64} {x_oR : Nat → Nat → Int64} {x_ot : Nat → Int64} {x_bR : Nat → Nat → Int64} {x_bD : Nat → Nat → Int64} {x_bQ : Nat → Int64} {x_bW : Nat → Int64} {x_bS : Nat → Nat → Int64} {x_bM : Nat → Nat → Int64} {x_bT : Nat → Int64} {x_bn : Int32} {x_tg : Nat → Int64} {x_tb : Int64} {x_ts : Nat → Int32} {x_fg : Nat → Int64} {x_fb : Int64} {x_fV : Nat → Nat → Int64} {x_fS : Nat → Int64} {x_fn : Int32} {x_cg : Nat → Int64} {x_cb : Int64} {x_cB : Nat → Int64} {x_cq : Int64} {x_vHeld : Int32} {x_vRed : Int32} {x_vTal : Int32} {x_vLis : Int32}  {out : Unit} (h : K_goal F    = some out) : Mt yK_goal cK_goal 1 (some (.array .long)) rm_K_goal_F κ [.ref (κ.1 66)] (LM κ τ (LC κ (x_added, x_asked, x_eR, x_et, x_oR, x_ot, x_bR, x_bD, x_bQ, x_bW, x_bS, x_bM, x_bT, x_bn, x_tg, x_tb, x_ts, x_fg, x_fb, x_fV, x_fS, x_fn, x_cg, x_cb, x_cB, x_cq, x_vHeld, x_vRed, x_vTal, x_vLis))) (some (.ref (κ.1 67))) (LM κ τ (LC κ (x_added, x_asked, x_eR, x_et, x_oR, x_ot, x_bR, x_bD, x_bQ, x_bW, x_bS, x_bM, x_bT, x_bn, x_tg, x_tb, x_ts, x_fg, x_fb, x_fV, x_fS, x_fn, x_cg, x_cb, x_cB, x_cq, x_vHeld, x_vRed, x_vTal, x_vLis))) := by
  refine Mt.of (by decide) (Nat.le_of_ble_eq_true rfl) ?_
  intro g G Fh
  unfold K_goal at h
  show J g κ 1 0 [(0, .ref (κ.1 66))] [] (LM κ τ (LC κ (x_added, x_asked, x_eR, x_et, x_oR, x_ot, x_bR, x_bD, x_bQ, x_bW, x_bS, x_bM, x_bT, x_bn, x_tg, x_tb, x_ts, x_fg, x_fb, x_fV, x_fS, x_fn, x_cg, x_cb, x_cB, x_cq, x_vHeld, x_vRed, x_vTal, x_vLis)))
  refine w_aload_n (pc := 0) (q := 0) G dK_goal_0 rfl rfl ?_
  refine w_get (pc := 1) (v := .ref (κ.1 67)) (fs := fl_F κ (x_added, x_asked, x_eR, x_et, x_oR, x_ot, x_bR, x_bD, x_bQ, x_bW, x_bS, x_bM, x_bT, x_bn, x_tg, x_tb, x_ts, x_fg, x_fb, x_fV, x_fS, x_fn, x_cg, x_cb, x_cB, x_cq, x_vHeld, x_vRed, x_vTal, x_vLis)) G 66 (by decide) lb_F rfl wsF_ok 0 (by decide) wd79 gf_F_0 dK_goal_1 ?_
  obtain rfl := Option.some.inj h
  exact w_aret (pc := 4) G (Or.inr ⟨_, rfl⟩) dK_goal_4 Fh
def rm_K_setBudget_F : Room := { frames := 0, cells := 0, slots := 0, locals := 0 }
set_option maxHeartbeats 8000000 in
set_option maxRecDepth 100000 in
theorem met_K_setBudget_F (κ : ctx) (τ : MS) (F : Nat) {x_added : Nat → Nat → Int64} {x_asked : Nat → Int64} {x_eR : Nat → Nat → Int64} {x_et : Nat → Int64} {x_oR : Nat → Nat → Int64} {x_ot : Nat → Int64} {x_bR : Nat → Nat → Int64} {x_bD : Nat → Nat → Int64} {x_bQ : Nat → Int64} {x_bW : Nat → Int64} {x_bS : Nat → Nat → Int64} {x_bM : Nat → Nat → Int64} {x_bT : Nat → Int64} {x_bn : Int32} {x_tg : Nat → Int64} {x_tb : Int64} {x_ts : Nat → Int32} {x_fg : Nat → Int64} {x_fb : Int64} {x_fV : Nat → Nat → Int64} {x_fS : Nat → Int64} {x_fn : Int32} {x_cg : Nat → Int64} {x_cb : Int64} {x_cB : Nat → Int64} {x_cq : Int64} {x_vHeld : Int32} {x_vRed : Int32} {x_vTal : Int32} {x_vLis : Int32} (v1 : Int64) {out : Int64} (h : K_setBudget F  x_fb v1 = some out) : Mt yK_setBudget cK_setBudget 3 none rm_K_setBudget_F κ [.ref (κ.1 66), .long v1] (LM κ τ (LC κ (x_added, x_asked, x_eR, x_et, x_oR, x_ot, x_bR, x_bD, x_bQ, x_bW, x_bS, x_bM, x_bT, x_bn, x_tg, x_tb, x_ts, x_fg, x_fb, x_fV, x_fS, x_fn, x_cg, x_cb, x_cB, x_cq, x_vHeld, x_vRed, x_vTal, x_vLis))) none (LM κ τ (LC κ (x_added, x_asked, x_eR, x_et, x_oR, x_ot, x_bR, x_bD, x_bQ, x_bW, x_bS, x_bM, x_bT, x_bn, x_tg, x_tb, x_ts, x_fg, out, x_fV, x_fS, x_fn, x_cg, x_cb, x_cB, x_cq, x_vHeld, x_vRed, x_vTal, x_vLis))) := by
  refine Mt.of (by decide) (Nat.le_of_ble_eq_true rfl) ?_
  intro g G Fh
  unfold K_setBudget at h
  show J g κ 3 0 [(0, .ref (κ.1 66)), (1, .long v1)] [] (LM κ τ (LC κ (x_added, x_asked, x_eR, x_et, x_oR, x_ot, x_bR, x_bD, x_bQ, x_bW, x_bS, x_bM, x_bT, x_bn, x_tg, x_tb, x_ts, x_fg, x_fb, x_fV, x_fS, x_fn, x_cg, x_cb, x_cB, x_cq, x_vHeld, x_vRed, x_vTal, x_vLis)))
  refine w_aload_n (pc := 0) (q := 0) G dK_setBudget_0 rfl rfl ?_
  refine w_lload_n (pc := 1) (q := 1) G dK_setBudget_1 rfl rfl ?_
  refine w_put (pc := 2) (fs := fl_F κ (x_added, x_asked, x_eR, x_et, x_oR, x_ot, x_bR, x_bD, x_bQ, x_bW, x_bS, x_bM, x_bT, x_bn, x_tg, x_tb, x_ts, x_fg, x_fb, x_fV, x_fS, x_fn, x_cg, x_cb, x_cB, x_cq, x_vHeld, x_vRed, x_vTal, x_vLis)) (L1 := (LM κ τ (LC κ (x_added, x_asked, x_eR, x_et, x_oR, x_ot, x_bR, x_bD, x_bQ, x_bW, x_bS, x_bM, x_bT, x_bn, x_tg, x_tb, x_ts, x_fg, v1, x_fV, x_fS, x_fn, x_cg, x_cb, x_cB, x_cq, x_vHeld, x_vRed, x_vTal, x_vLis)))) G 66 (by decide) lb_F rfl wsF_ok tyF tyF_ok nmF 1 (by decide) wd80 rfl rfl rfl (Nat.le_of_ble_eq_true rfl) dK_setBudget_2 upf_fb ?_
  obtain rfl := Option.some.inj h
  exact w_vret (pc := 5) G dK_setBudget_5 Fh
def rm_K_wants_F : Room := { frames := 0, cells := 0, slots := 0, locals := 0 }
set_option maxHeartbeats 8000000 in
set_option maxRecDepth 100000 in
theorem met_K_wants_F (κ : ctx) (τ : MS) (F : Nat) {x_added : Nat → Nat → Int64} {x_asked : Nat → Int64} {x_eR : Nat → Nat → Int64} {x_et : Nat → Int64} {x_oR : Nat → Nat → Int64} {x_ot : Nat → Int64} {x_bR : Nat → Nat → Int64} {x_bD : Nat → Nat → Int64} {x_bQ : Nat → Int64} {x_bW : Nat → Int64} {x_bS : Nat → Nat → Int64} {x_bM : Nat → Nat → Int64} {x_bT : Nat → Int64} {x_bn : Int32} {x_tg : Nat → Int64} {x_tb : Int64} {x_ts : Nat → Int32} {x_fg : Nat → Int64} {x_fb : Int64} {x_fV : Nat → Nat → Int64} {x_fS : Nat → Int64} {x_fn : Int32} {x_cg : Nat → Int64} {x_cb : Int64} {x_cB : Nat → Int64} {x_cq : Int64} {x_vHeld : Int32} {x_vRed : Int32} {x_vTal : Int32} {x_vLis : Int32} (v1 : Int64) {out : Int32} (h : K_wants F  x_fb v1 = some out) : Mt yK_wants cK_wants 3 (some .boolean) rm_K_wants_F κ [.ref (κ.1 66), .long v1] (LM κ τ (LC κ (x_added, x_asked, x_eR, x_et, x_oR, x_ot, x_bR, x_bD, x_bQ, x_bW, x_bS, x_bM, x_bT, x_bn, x_tg, x_tb, x_ts, x_fg, x_fb, x_fV, x_fS, x_fn, x_cg, x_cb, x_cB, x_cq, x_vHeld, x_vRed, x_vTal, x_vLis))) (some (.int out)) (LM κ τ (LC κ (x_added, x_asked, x_eR, x_et, x_oR, x_ot, x_bR, x_bD, x_bQ, x_bW, x_bS, x_bM, x_bT, x_bn, x_tg, x_tb, x_ts, x_fg, x_fb, x_fV, x_fS, x_fn, x_cg, x_cb, x_cB, x_cq, x_vHeld, x_vRed, x_vTal, x_vLis))) := by
  refine Mt.of (by decide) (Nat.le_of_ble_eq_true rfl) ?_
  intro g G Fh
  unfold K_wants at h
  show J g κ 3 0 [(0, .ref (κ.1 66)), (1, .long v1)] [] (LM κ τ (LC κ (x_added, x_asked, x_eR, x_et, x_oR, x_ot, x_bR, x_bD, x_bQ, x_bW, x_bS, x_bM, x_bT, x_bn, x_tg, x_tb, x_ts, x_fg, x_fb, x_fV, x_fS, x_fn, x_cg, x_cb, x_cB, x_cq, x_vHeld, x_vRed, x_vTal, x_vLis)))
  refine w_lload_n (pc := 0) (q := 1) G dK_wants_0 rfl rfl ?_
  refine w_aload_n (pc := 1) (q := 0) G dK_wants_1 rfl rfl ?_
  refine w_get (pc := 2) (v := .long x_fb) (fs := fl_F κ (x_added, x_asked, x_eR, x_et, x_oR, x_ot, x_bR, x_bD, x_bQ, x_bW, x_bS, x_bM, x_bT, x_bn, x_tg, x_tb, x_ts, x_fg, x_fb, x_fV, x_fS, x_fn, x_cg, x_cb, x_cB, x_cq, x_vHeld, x_vRed, x_vTal, x_vLis)) G 66 (by decide) lb_F rfl wsF_ok 1 (by decide) wd80 gf_F_1 dK_wants_2 ?_
  refine w_lc_gt (pc := 5) (tgt := 13) G dK_wants_5 dK_wants_6 (by decide) (fun c5 => ?_) (fun c5 => ?_)
  · have h := if_t c5 h
    refine w_iconst (pc := 13) (v := (0 : Int32)) G dK_wants_13 (by decide) ?_
    obtain rfl := Option.some.inj h
    exact w_zret (pc := 14) G rfl dK_wants_14 Fh
  · have h := if_f c5 h
    refine w_iconst (pc := 9) (v := (1 : Int32)) G dK_wants_9 (by decide) ?_
    refine w_goto (pc := 10) (tgt := 14) G dK_wants_10 (by decide) ?_
    obtain rfl := Option.some.inj h
    exact w_zret (pc := 14) G rfl dK_wants_14 Fh
def rm_K_goal_C : Room := { frames := 0, cells := 0, slots := 0, locals := 0 }
set_option maxHeartbeats 8000000 in
set_option maxRecDepth 100000 in
theorem met_K_goal_C (κ : ctx) (τ : MS) (F : Nat) {x_added : Nat → Nat → Int64} {x_asked : Nat → Int64} {x_eR : Nat → Nat → Int64} {x_et : Nat → Int64} {x_oR : Nat → Nat → Int64} {x_ot : Nat → Int64} {x_bR : Nat → Nat → Int64} {x_bD : Nat → Nat → Int64} {x_bQ : Nat → Int64} {x_bW : Nat → Int64} {x_bS : Nat → Nat → Int64} {x_bM : Nat → Nat → Int64} {x_bT : Nat → Int64} {x_bn : Int32} {x_tg : Nat → Int64} {x_tb : Int64} {x_ts : Nat → Int32} {x_fg : Nat → Int64} {x_fb : Int64} {x_fV : Nat → Nat → Int64} {x_fS : Nat → Int64} {x_fn : Int32} {x_cg : Nat → Int64} {x_cb : Int64} {x_cB : Nat → Int64} {x_cq : Int64} {x_vHeld : Int32} {x_vRed : Int32} {x_vTal : Int32} {x_vLis : Int32}  {out : Unit} (h : K_goal F    = some out) : Mt yK_goal cK_goal 1 (some (.array .long)) rm_K_goal_C κ [.ref (κ.1 111)] (LM κ τ (LC κ (x_added, x_asked, x_eR, x_et, x_oR, x_ot, x_bR, x_bD, x_bQ, x_bW, x_bS, x_bM, x_bT, x_bn, x_tg, x_tb, x_ts, x_fg, x_fb, x_fV, x_fS, x_fn, x_cg, x_cb, x_cB, x_cq, x_vHeld, x_vRed, x_vTal, x_vLis))) (some (.ref (κ.1 112))) (LM κ τ (LC κ (x_added, x_asked, x_eR, x_et, x_oR, x_ot, x_bR, x_bD, x_bQ, x_bW, x_bS, x_bM, x_bT, x_bn, x_tg, x_tb, x_ts, x_fg, x_fb, x_fV, x_fS, x_fn, x_cg, x_cb, x_cB, x_cq, x_vHeld, x_vRed, x_vTal, x_vLis))) := by
  refine Mt.of (by decide) (Nat.le_of_ble_eq_true rfl) ?_
  intro g G Fh
  unfold K_goal at h
  show J g κ 1 0 [(0, .ref (κ.1 111))] [] (LM κ τ (LC κ (x_added, x_asked, x_eR, x_et, x_oR, x_ot, x_bR, x_bD, x_bQ, x_bW, x_bS, x_bM, x_bT, x_bn, x_tg, x_tb, x_ts, x_fg, x_fb, x_fV, x_fS, x_fn, x_cg, x_cb, x_cB, x_cq, x_vHeld, x_vRed, x_vTal, x_vLis)))
  refine w_aload_n (pc := 0) (q := 0) G dK_goal_0 rfl rfl ?_
  refine w_get (pc := 1) (v := .ref (κ.1 112)) (fs := fl_C κ (x_added, x_asked, x_eR, x_et, x_oR, x_ot, x_bR, x_bD, x_bQ, x_bW, x_bS, x_bM, x_bT, x_bn, x_tg, x_tb, x_ts, x_fg, x_fb, x_fV, x_fS, x_fn, x_cg, x_cb, x_cB, x_cq, x_vHeld, x_vRed, x_vTal, x_vLis)) G 111 (by decide) lb_C rfl wsC_ok 0 (by decide) wd79 gf_C_0 dK_goal_1 ?_
  obtain rfl := Option.some.inj h
  exact w_aret (pc := 4) G (Or.inr ⟨_, rfl⟩) dK_goal_4 Fh
def rm_K_setBudget_C : Room := { frames := 0, cells := 0, slots := 0, locals := 0 }
set_option maxHeartbeats 8000000 in
set_option maxRecDepth 100000 in
theorem met_K_setBudget_C (κ : ctx) (τ : MS) (F : Nat) {x_added : Nat → Nat → Int64} {x_asked : Nat → Int64} {x_eR : Nat → Nat → Int64} {x_et : Nat → Int64} {x_oR : Nat → Nat → Int64} {x_ot : Nat → Int64} {x_bR : Nat → Nat → Int64} {x_bD : Nat → Nat → Int64} {x_bQ : Nat → Int64} {x_bW : Nat → Int64} {x_bS : Nat → Nat → Int64} {x_bM : Nat → Nat → Int64} {x_bT : Nat → Int64} {x_bn : Int32} {x_tg : Nat → Int64} {x_tb : Int64} {x_ts : Nat → Int32} {x_fg : Nat → Int64} {x_fb : Int64} {x_fV : Nat → Nat → Int64} {x_fS : Nat → Int64} {x_fn : Int32} {x_cg : Nat → Int64} {x_cb : Int64} {x_cB : Nat → Int64} {x_cq : Int64} {x_vHeld : Int32} {x_vRed : Int32} {x_vTal : Int32} {x_vLis : Int32} (v1 : Int64) {out : Int64} (h : K_setBudget F  x_cb v1 = some out) : Mt yK_setBudget cK_setBudget 3 none rm_K_setBudget_C κ [.ref (κ.1 111), .long v1] (LM κ τ (LC κ (x_added, x_asked, x_eR, x_et, x_oR, x_ot, x_bR, x_bD, x_bQ, x_bW, x_bS, x_bM, x_bT, x_bn, x_tg, x_tb, x_ts, x_fg, x_fb, x_fV, x_fS, x_fn, x_cg, x_cb, x_cB, x_cq, x_vHeld, x_vRed, x_vTal, x_vLis))) none (LM κ τ (LC κ (x_added, x_asked, x_eR, x_et, x_oR, x_ot, x_bR, x_bD, x_bQ, x_bW, x_bS, x_bM, x_bT, x_bn, x_tg, x_tb, x_ts, x_fg, x_fb, x_fV, x_fS, x_fn, x_cg, out, x_cB, x_cq, x_vHeld, x_vRed, x_vTal, x_vLis))) := by
  refine Mt.of (by decide) (Nat.le_of_ble_eq_true rfl) ?_
  intro g G Fh
  unfold K_setBudget at h
  show J g κ 3 0 [(0, .ref (κ.1 111)), (1, .long v1)] [] (LM κ τ (LC κ (x_added, x_asked, x_eR, x_et, x_oR, x_ot, x_bR, x_bD, x_bQ, x_bW, x_bS, x_bM, x_bT, x_bn, x_tg, x_tb, x_ts, x_fg, x_fb, x_fV, x_fS, x_fn, x_cg, x_cb, x_cB, x_cq, x_vHeld, x_vRed, x_vTal, x_vLis)))
  refine w_aload_n (pc := 0) (q := 0) G dK_setBudget_0 rfl rfl ?_
  refine w_lload_n (pc := 1) (q := 1) G dK_setBudget_1 rfl rfl ?_
  refine w_put (pc := 2) (fs := fl_C κ (x_added, x_asked, x_eR, x_et, x_oR, x_ot, x_bR, x_bD, x_bQ, x_bW, x_bS, x_bM, x_bT, x_bn, x_tg, x_tb, x_ts, x_fg, x_fb, x_fV, x_fS, x_fn, x_cg, x_cb, x_cB, x_cq, x_vHeld, x_vRed, x_vTal, x_vLis)) (L1 := (LM κ τ (LC κ (x_added, x_asked, x_eR, x_et, x_oR, x_ot, x_bR, x_bD, x_bQ, x_bW, x_bS, x_bM, x_bT, x_bn, x_tg, x_tb, x_ts, x_fg, x_fb, x_fV, x_fS, x_fn, x_cg, v1, x_cB, x_cq, x_vHeld, x_vRed, x_vTal, x_vLis)))) G 111 (by decide) lb_C rfl wsC_ok tyC tyC_ok nmC 1 (by decide) wd80 rfl rfl rfl (Nat.le_of_ble_eq_true rfl) dK_setBudget_2 upf_cb ?_
  obtain rfl := Option.some.inj h
  exact w_vret (pc := 5) G dK_setBudget_5 Fh
def rm_K_wants_C : Room := { frames := 0, cells := 0, slots := 0, locals := 0 }
set_option maxHeartbeats 8000000 in
set_option maxRecDepth 100000 in
theorem met_K_wants_C (κ : ctx) (τ : MS) (F : Nat) {x_added : Nat → Nat → Int64} {x_asked : Nat → Int64} {x_eR : Nat → Nat → Int64} {x_et : Nat → Int64} {x_oR : Nat → Nat → Int64} {x_ot : Nat → Int64} {x_bR : Nat → Nat → Int64} {x_bD : Nat → Nat → Int64} {x_bQ : Nat → Int64} {x_bW : Nat → Int64} {x_bS : Nat → Nat → Int64} {x_bM : Nat → Nat → Int64} {x_bT : Nat → Int64} {x_bn : Int32} {x_tg : Nat → Int64} {x_tb : Int64} {x_ts : Nat → Int32} {x_fg : Nat → Int64} {x_fb : Int64} {x_fV : Nat → Nat → Int64} {x_fS : Nat → Int64} {x_fn : Int32} {x_cg : Nat → Int64} {x_cb : Int64} {x_cB : Nat → Int64} {x_cq : Int64} {x_vHeld : Int32} {x_vRed : Int32} {x_vTal : Int32} {x_vLis : Int32} (v1 : Int64) {out : Int32} (h : K_wants F  x_cb v1 = some out) : Mt yK_wants cK_wants 3 (some .boolean) rm_K_wants_C κ [.ref (κ.1 111), .long v1] (LM κ τ (LC κ (x_added, x_asked, x_eR, x_et, x_oR, x_ot, x_bR, x_bD, x_bQ, x_bW, x_bS, x_bM, x_bT, x_bn, x_tg, x_tb, x_ts, x_fg, x_fb, x_fV, x_fS, x_fn, x_cg, x_cb, x_cB, x_cq, x_vHeld, x_vRed, x_vTal, x_vLis))) (some (.int out)) (LM κ τ (LC κ (x_added, x_asked, x_eR, x_et, x_oR, x_ot, x_bR, x_bD, x_bQ, x_bW, x_bS, x_bM, x_bT, x_bn, x_tg, x_tb, x_ts, x_fg, x_fb, x_fV, x_fS, x_fn, x_cg, x_cb, x_cB, x_cq, x_vHeld, x_vRed, x_vTal, x_vLis))) := by
  refine Mt.of (by decide) (Nat.le_of_ble_eq_true rfl) ?_
  intro g G Fh
  unfold K_wants at h
  show J g κ 3 0 [(0, .ref (κ.1 111)), (1, .long v1)] [] (LM κ τ (LC κ (x_added, x_asked, x_eR, x_et, x_oR, x_ot, x_bR, x_bD, x_bQ, x_bW, x_bS, x_bM, x_bT, x_bn, x_tg, x_tb, x_ts, x_fg, x_fb, x_fV, x_fS, x_fn, x_cg, x_cb, x_cB, x_cq, x_vHeld, x_vRed, x_vTal, x_vLis)))
  refine w_lload_n (pc := 0) (q := 1) G dK_wants_0 rfl rfl ?_
  refine w_aload_n (pc := 1) (q := 0) G dK_wants_1 rfl rfl ?_
  refine w_get (pc := 2) (v := .long x_cb) (fs := fl_C κ (x_added, x_asked, x_eR, x_et, x_oR, x_ot, x_bR, x_bD, x_bQ, x_bW, x_bS, x_bM, x_bT, x_bn, x_tg, x_tb, x_ts, x_fg, x_fb, x_fV, x_fS, x_fn, x_cg, x_cb, x_cB, x_cq, x_vHeld, x_vRed, x_vTal, x_vLis)) G 111 (by decide) lb_C rfl wsC_ok 1 (by decide) wd80 gf_C_1 dK_wants_2 ?_
  refine w_lc_gt (pc := 5) (tgt := 13) G dK_wants_5 dK_wants_6 (by decide) (fun c5 => ?_) (fun c5 => ?_)
  · have h := if_t c5 h
    refine w_iconst (pc := 13) (v := (0 : Int32)) G dK_wants_13 (by decide) ?_
    obtain rfl := Option.some.inj h
    exact w_zret (pc := 14) G rfl dK_wants_14 Fh
  · have h := if_f c5 h
    refine w_iconst (pc := 9) (v := (1 : Int32)) G dK_wants_9 (by decide) ?_
    refine w_goto (pc := 10) (tgt := 14) G dK_wants_10 (by decide) ?_
    obtain rfl := Option.some.inj h
    exact w_zret (pc := 14) G rfl dK_wants_14 Fh
def rm_T_upTo : Room := { frames := 0, cells := 0, slots := 0, locals := 0 }
theorem dT_upTo_0 : decode cT_upTo 0 = .ok (.aload_n 0, 1) := by decide +kernel
theorem dT_upTo_1 : decode cT_upTo 1 = .ok (.getfield 9, 3) := by decide +kernel
theorem dT_upTo_4 : decode cT_upTo 4 = .ok (.iload_n 1, 1) := by decide +kernel
theorem dT_upTo_5 : decode cT_upTo 5 = .ok (.iaload, 1) := by decide +kernel
theorem dT_upTo_6 : decode cT_upTo 6 = .ok (.ireturn, 1) := by decide +kernel
noncomputable def T_upTo (F : Nat)  (x_ts : Nat → Int32) (v1 : Int32) : Option (Int32) := gd (vp_in v1 41) (some (x_ts v1.toNatClampNeg))
set_option maxHeartbeats 8000000 in
set_option maxRecDepth 100000 in
theorem met_T_upTo (κ : ctx) (τ : MS) (F : Nat) {x_added : Nat → Nat → Int64} {x_asked : Nat → Int64} {x_eR : Nat → Nat → Int64} {x_et : Nat → Int64} {x_oR : Nat → Nat → Int64} {x_ot : Nat → Int64} {x_bR : Nat → Nat → Int64} {x_bD : Nat → Nat → Int64} {x_bQ : Nat → Int64} {x_bW : Nat → Int64} {x_bS : Nat → Nat → Int64} {x_bM : Nat → Nat → Int64} {x_bT : Nat → Int64} {x_bn : Int32} {x_tg : Nat → Int64} {x_tb : Int64} {x_ts : Nat → Int32} {x_fg : Nat → Int64} {x_fb : Int64} {x_fV : Nat → Nat → Int64} {x_fS : Nat → Int64} {x_fn : Int32} {x_cg : Nat → Int64} {x_cb : Int64} {x_cB : Nat → Int64} {x_cq : Int64} {x_vHeld : Int32} {x_vRed : Int32} {x_vTal : Int32} {x_vLis : Int32} (v1 : Int32) {out : Int32} (h : T_upTo F  x_ts v1 = some out) : Mt yT_upTo cT_upTo 2 (some .int) rm_T_upTo κ [.ref (κ.1 63), .int v1] (LM κ τ (LC κ (x_added, x_asked, x_eR, x_et, x_oR, x_ot, x_bR, x_bD, x_bQ, x_bW, x_bS, x_bM, x_bT, x_bn, x_tg, x_tb, x_ts, x_fg, x_fb, x_fV, x_fS, x_fn, x_cg, x_cb, x_cB, x_cq, x_vHeld, x_vRed, x_vTal, x_vLis))) (some (.int out)) (LM κ τ (LC κ (x_added, x_asked, x_eR, x_et, x_oR, x_ot, x_bR, x_bD, x_bQ, x_bW, x_bS, x_bM, x_bT, x_bn, x_tg, x_tb, x_ts, x_fg, x_fb, x_fV, x_fS, x_fn, x_cg, x_cb, x_cB, x_cq, x_vHeld, x_vRed, x_vTal, x_vLis))) := by
  refine Mt.of (by decide) (Nat.le_of_ble_eq_true rfl) ?_
  intro g G Fh
  unfold T_upTo at h
  show J g κ 2 0 [(0, .ref (κ.1 63)), (1, .int v1)] [] (LM κ τ (LC κ (x_added, x_asked, x_eR, x_et, x_oR, x_ot, x_bR, x_bD, x_bQ, x_bW, x_bS, x_bM, x_bT, x_bn, x_tg, x_tb, x_ts, x_fg, x_fb, x_fV, x_fS, x_fn, x_cg, x_cb, x_cB, x_cq, x_vHeld, x_vRed, x_vTal, x_vLis)))
  refine w_aload_n (pc := 0) (q := 0) G dT_upTo_0 rfl rfl ?_
  refine w_get (pc := 1) (v := .ref (κ.1 65)) (fs := fl_T κ (x_added, x_asked, x_eR, x_et, x_oR, x_ot, x_bR, x_bD, x_bQ, x_bW, x_bS, x_bM, x_bT, x_bn, x_tg, x_tb, x_ts, x_fg, x_fb, x_fV, x_fS, x_fn, x_cg, x_cb, x_cB, x_cq, x_vHeld, x_vRed, x_vTal, x_vLis)) G 63 (by decide) lb_T rfl wsT_ok 2 (by decide) wd78 gf_T_2 dT_upTo_1 ?_
  refine w_iload_n (pc := 4) (q := 1) G dT_upTo_4 rfl rfl ?_
  obtain ⟨i5, h⟩ := gd_some h
  refine w_iald (pc := 5) (n := 41) (f := x_ts) G 65 (by decide) lk_ts i5 dT_upTo_5 ?_
  obtain rfl := Option.some.inj h
  exact w_iret (pc := 6) G dT_upTo_6 Fh
def rm_T_meet : Room := { frames := 1, cells := 0, slots := 0, locals := 22 }
theorem dT_meet_0 : decode cT_meet 0 = .ok (.aload_n 0, 1) := by decide +kernel
theorem dT_meet_1 : decode cT_meet 1 = .ok (.lload_n 2, 1) := by decide +kernel
theorem dT_meet_2 : decode cT_meet 2 = .ok (.invokevirtual 33, 3) := by decide +kernel
theorem dT_meet_5 : decode cT_meet 5 = .ok (.ifCond .eq 14, 3) := by decide +kernel
theorem dT_meet_8 : decode cT_meet 8 = .ok (.aload_n 0, 1) := by decide +kernel
theorem dT_meet_9 : decode cT_meet 9 = .ok (.getfield 9, 3) := by decide +kernel
theorem dT_meet_12 : decode cT_meet 12 = .ok (.lload_n 2, 1) := by decide +kernel
theorem dT_meet_13 : decode cT_meet 13 = .ok (.l2i, 1) := by decide +kernel
theorem dT_meet_14 : decode cT_meet 14 = .ok (.dup2, 1) := by decide +kernel
theorem dT_meet_15 : decode cT_meet 15 = .ok (.iaload, 1) := by decide +kernel
theorem dT_meet_16 : decode cT_meet 16 = .ok (.iconst 1, 1) := by decide +kernel
theorem dT_meet_17 : decode cT_meet 17 = .ok (.iadd, 1) := by decide +kernel
theorem dT_meet_18 : decode cT_meet 18 = .ok (.iastore, 1) := by decide +kernel
theorem dT_meet_19 : decode cT_meet 19 = .ok (.return_, 1) := by decide +kernel
theorem cb_K_wants_T_T_meet : CB yK_wants cK_wants 3 (some .boolean) rm_K_wants_T rm_T_meet 1 := ⟨wd402, wd4, by decide +kernel, rfl, rfl, by decide⟩
noncomputable def T_meet (F : Nat)  (x_tb : Int64) (x_ts : Nat → Int32) (v2 : Int64) : Option ((Nat → Int32)) := (K_wants F x_tb v2).bind (fun r2 => if r2 = 0 then some x_ts else gd (vp_in v2.toInt32 41) (gd (vp_in v2.toInt32 41) (some (upd x_ts v2.toInt32.toNatClampNeg ((x_ts v2.toInt32.toNatClampNeg) + (1 : Int32))))))
set_option maxHeartbeats 8000000 in
set_option maxRecDepth 100000 in
theorem met_T_meet (κ : ctx) (τ : MS) (F : Nat) {x_added : Nat → Nat → Int64} {x_asked : Nat → Int64} {x_eR : Nat → Nat → Int64} {x_et : Nat → Int64} {x_oR : Nat → Nat → Int64} {x_ot : Nat → Int64} {x_bR : Nat → Nat → Int64} {x_bD : Nat → Nat → Int64} {x_bQ : Nat → Int64} {x_bW : Nat → Int64} {x_bS : Nat → Nat → Int64} {x_bM : Nat → Nat → Int64} {x_bT : Nat → Int64} {x_bn : Int32} {x_tg : Nat → Int64} {x_tb : Int64} {x_ts : Nat → Int32} {x_fg : Nat → Int64} {x_fb : Int64} {x_fV : Nat → Nat → Int64} {x_fS : Nat → Int64} {x_fn : Int32} {x_cg : Nat → Int64} {x_cb : Int64} {x_cB : Nat → Int64} {x_cq : Int64} {x_vHeld : Int32} {x_vRed : Int32} {x_vTal : Int32} {x_vLis : Int32} (v2 : Int64) {out : (Nat → Int32)} (h : T_meet F  x_tb x_ts v2 = some out) : Mt yT_meet cT_meet 4 none rm_T_meet κ [.ref (κ.1 63), .ref (κ.1 (52 + (0 : Int32).toNatClampNeg)), .long v2] (LM κ τ (LC κ (x_added, x_asked, x_eR, x_et, x_oR, x_ot, x_bR, x_bD, x_bQ, x_bW, x_bS, x_bM, x_bT, x_bn, x_tg, x_tb, x_ts, x_fg, x_fb, x_fV, x_fS, x_fn, x_cg, x_cb, x_cB, x_cq, x_vHeld, x_vRed, x_vTal, x_vLis))) none (LM κ τ (LC κ (x_added, x_asked, x_eR, x_et, x_oR, x_ot, x_bR, x_bD, x_bQ, x_bW, x_bS, x_bM, x_bT, x_bn, x_tg, x_tb, out, x_fg, x_fb, x_fV, x_fS, x_fn, x_cg, x_cb, x_cB, x_cq, x_vHeld, x_vRed, x_vTal, x_vLis))) := by
  refine Mt.of (by decide) (Nat.le_of_ble_eq_true rfl) ?_
  intro g G Fh
  unfold T_meet at h
  show J g κ 4 0 [(0, .ref (κ.1 63)), (1, .ref (κ.1 (52 + (0 : Int32).toNatClampNeg))), (2, .long v2)] [] (LM κ τ (LC κ (x_added, x_asked, x_eR, x_et, x_oR, x_ot, x_bR, x_bD, x_bQ, x_bW, x_bS, x_bM, x_bT, x_bn, x_tg, x_tb, x_ts, x_fg, x_fb, x_fV, x_fS, x_fn, x_cg, x_cb, x_cB, x_cq, x_vHeld, x_vRed, x_vTal, x_vLis)))
  refine w_aload_n (pc := 0) (q := 0) G dT_meet_0 rfl rfl ?_
  refine w_lload_n (pc := 1) (q := 2) G dT_meet_1 rfl rfl ?_
  obtain ⟨r2, e2, h⟩ := bd h
  refine w_callU (pc := 2) (av := [.long v2]) (rest := []) (v := some (.int r2)) (L' := (LM κ τ (LC κ (x_added, x_asked, x_eR, x_et, x_oR, x_ot, x_bR, x_bD, x_bQ, x_bW, x_bS, x_bM, x_bT, x_bn, x_tg, x_tb, x_ts, x_fg, x_fb, x_fV, x_fS, x_fn, x_cg, x_cb, x_cB, x_cq, x_vHeld, x_vRed, x_vTal, x_vLis)))) (T := TT) (fs := fl_T κ (x_added, x_asked, x_eR, x_et, x_oR, x_ot, x_bR, x_bD, x_bQ, x_bW, x_bS, x_bM, x_bT, x_bn, x_tg, x_tb, x_ts, x_fg, x_fb, x_fV, x_fS, x_fn, x_cg, x_cb, x_cB, x_cq, x_vHeld, x_vRed, x_vTal, x_vLis)) G 63 4 3 (by decide) lb_T rfl cb_K_wants_T_T_meet wd422 wd423 wd424 wd401 wd399 (by decide) rfl (met_K_wants_T κ τ F v2  e2) rfl rfl rfl (Nat.le_of_ble_eq_true rfl) dT_meet_2 ?_
  refine w_if_eq (pc := 5) (tgt := 19) G dT_meet_5 (by decide) (fun c5 => ?_) (fun c5 => ?_)
  · have h := if_t c5 h
    obtain rfl := Option.some.inj h
    exact w_vret (pc := 19) G dT_meet_19 Fh
  · have h := if_f c5 h
    refine w_aload_n (pc := 8) (q := 0) G dT_meet_8 rfl rfl ?_
    refine w_get (pc := 9) (v := .ref (κ.1 65)) (fs := fl_T κ (x_added, x_asked, x_eR, x_et, x_oR, x_ot, x_bR, x_bD, x_bQ, x_bW, x_bS, x_bM, x_bT, x_bn, x_tg, x_tb, x_ts, x_fg, x_fb, x_fV, x_fS, x_fn, x_cg, x_cb, x_cB, x_cq, x_vHeld, x_vRed, x_vTal, x_vLis)) G 63 (by decide) lb_T rfl wsT_ok 2 (by decide) wd78 gf_T_2 dT_meet_9 ?_
    refine w_lload_n (pc := 12) (q := 2) G dT_meet_12 rfl rfl ?_
    refine w_l2i (pc := 13) G dT_meet_13 ?_
    refine w_dup2_11 (pc := 14) G dT_meet_14 rfl rfl ?_
    obtain ⟨i15, h⟩ := gd_some h
    refine w_iald (pc := 15) (n := 41) (f := x_ts) G 65 (by decide) lk_ts i15 dT_meet_15 ?_
    refine w_iconst (pc := 16) (v := (1 : Int32)) G dT_meet_16 (by decide) ?_
    refine w_iadd (pc := 17) G dT_meet_17 ?_
    obtain ⟨i18, h⟩ := gd_some h
    refine w_iast (pc := 18) (n := 41) (f := x_ts) (L1 := (LM κ τ (LC κ (x_added, x_asked, x_eR, x_et, x_oR, x_ot, x_bR, x_bD, x_bQ, x_bW, x_bS, x_bM, x_bT, x_bn, x_tg, x_tb, upd x_ts v2.toInt32.toNatClampNeg ((x_ts v2.toInt32.toNatClampNeg) + (1 : Int32)), x_fg, x_fb, x_fV, x_fS, x_fn, x_cg, x_cb, x_cB, x_cq, x_vHeld, x_vRed, x_vTal, x_vLis)))) G 65 (by decide) lk_ts i18 dT_meet_18 up_ts ?_
    obtain rfl := Option.some.inj h
    exact w_vret (pc := 19) G dT_meet_19 Fh
def rm_F_coordinate : Room := { frames := 0, cells := 0, slots := 0, locals := 0 }
theorem dF_coordinate_0 : decode cF_coordinate 0 = .ok (.iload_n 1, 1) := by decide +kernel
theorem dF_coordinate_1 : decode cF_coordinate 1 = .ok (.aload_n 0, 1) := by decide +kernel
theorem dF_coordinate_2 : decode cF_coordinate 2 = .ok (.getfield 20, 3) := by decide +kernel
theorem dF_coordinate_5 : decode cF_coordinate 5 = .ok (.if_icmp .ge 15, 3) := by decide +kernel
theorem dF_coordinate_8 : decode cF_coordinate 8 = .ok (.aload_n 0, 1) := by decide +kernel
theorem dF_coordinate_9 : decode cF_coordinate 9 = .ok (.getfield 11, 3) := by decide +kernel
theorem dF_coordinate_12 : decode cF_coordinate 12 = .ok (.iload_n 1, 1) := by decide +kernel
theorem dF_coordinate_13 : decode cF_coordinate 13 = .ok (.aaload, 1) := by decide +kernel
theorem dF_coordinate_14 : decode cF_coordinate 14 = .ok (.iload_n 2, 1) := by decide +kernel
theorem dF_coordinate_15 : decode cF_coordinate 15 = .ok (.laload, 1) := by decide +kernel
theorem dF_coordinate_16 : decode cF_coordinate 16 = .ok (.l2i, 1) := by decide +kernel
theorem dF_coordinate_17 : decode cF_coordinate 17 = .ok (.goto 6, 3) := by decide +kernel
theorem dF_coordinate_20 : decode cF_coordinate 20 = .ok (.sipush 1000, 3) := by decide +kernel
theorem dF_coordinate_23 : decode cF_coordinate 23 = .ok (.ireturn, 1) := by decide +kernel
noncomputable def F_coordinate (F : Nat)  (x_fV : Nat → Nat → Int64) (x_fn : Int32) (v1 : Int32) (v2 : Int32) : Option (Int32) := if x_fn ≤ v1 then some (1000 : Int32) else gd (vp_in v1 41) (gd (vp_in v2 4) (some (((x_fV v1.toNatClampNeg) v2.toNatClampNeg).toInt32)))
set_option maxHeartbeats 8000000 in
set_option maxRecDepth 100000 in
theorem met_F_coordinate (κ : ctx) (τ : MS) (F : Nat) {x_added : Nat → Nat → Int64} {x_asked : Nat → Int64} {x_eR : Nat → Nat → Int64} {x_et : Nat → Int64} {x_oR : Nat → Nat → Int64} {x_ot : Nat → Int64} {x_bR : Nat → Nat → Int64} {x_bD : Nat → Nat → Int64} {x_bQ : Nat → Int64} {x_bW : Nat → Int64} {x_bS : Nat → Nat → Int64} {x_bM : Nat → Nat → Int64} {x_bT : Nat → Int64} {x_bn : Int32} {x_tg : Nat → Int64} {x_tb : Int64} {x_ts : Nat → Int32} {x_fg : Nat → Int64} {x_fb : Int64} {x_fV : Nat → Nat → Int64} {x_fS : Nat → Int64} {x_fn : Int32} {x_cg : Nat → Int64} {x_cb : Int64} {x_cB : Nat → Int64} {x_cq : Int64} {x_vHeld : Int32} {x_vRed : Int32} {x_vTal : Int32} {x_vLis : Int32} (v1 : Int32) (v2 : Int32) {out : Int32} (h : F_coordinate F  x_fV x_fn v1 v2 = some out) : Mt yF_coordinate cF_coordinate 3 (some .int) rm_F_coordinate κ [.ref (κ.1 66), .int v1, .int v2] (LM κ τ (LC κ (x_added, x_asked, x_eR, x_et, x_oR, x_ot, x_bR, x_bD, x_bQ, x_bW, x_bS, x_bM, x_bT, x_bn, x_tg, x_tb, x_ts, x_fg, x_fb, x_fV, x_fS, x_fn, x_cg, x_cb, x_cB, x_cq, x_vHeld, x_vRed, x_vTal, x_vLis))) (some (.int out)) (LM κ τ (LC κ (x_added, x_asked, x_eR, x_et, x_oR, x_ot, x_bR, x_bD, x_bQ, x_bW, x_bS, x_bM, x_bT, x_bn, x_tg, x_tb, x_ts, x_fg, x_fb, x_fV, x_fS, x_fn, x_cg, x_cb, x_cB, x_cq, x_vHeld, x_vRed, x_vTal, x_vLis))) := by
  refine Mt.of (by decide) (Nat.le_of_ble_eq_true rfl) ?_
  intro g G Fh
  unfold F_coordinate at h
  show J g κ 3 0 [(0, .ref (κ.1 66)), (1, .int v1), (2, .int v2)] [] (LM κ τ (LC κ (x_added, x_asked, x_eR, x_et, x_oR, x_ot, x_bR, x_bD, x_bQ, x_bW, x_bS, x_bM, x_bT, x_bn, x_tg, x_tb, x_ts, x_fg, x_fb, x_fV, x_fS, x_fn, x_cg, x_cb, x_cB, x_cq, x_vHeld, x_vRed, x_vTal, x_vLis)))
  refine w_iload_n (pc := 0) (q := 1) G dF_coordinate_0 rfl rfl ?_
  refine w_aload_n (pc := 1) (q := 0) G dF_coordinate_1 rfl rfl ?_
  refine w_get (pc := 2) (v := .int x_fn) (fs := fl_F κ (x_added, x_asked, x_eR, x_et, x_oR, x_ot, x_bR, x_bD, x_bQ, x_bW, x_bS, x_bM, x_bT, x_bn, x_tg, x_tb, x_ts, x_fg, x_fb, x_fV, x_fS, x_fn, x_cg, x_cb, x_cB, x_cq, x_vHeld, x_vRed, x_vTal, x_vLis)) G 66 (by decide) lb_F rfl wsF_ok 4 (by decide) wd98 gf_F_4 dF_coordinate_2 ?_
  refine w_icmp_ge (pc := 5) (tgt := 20) G dF_coordinate_5 (by decide) (fun c5 => ?_) (fun c5 => ?_)
  · have h := if_t c5 h
    refine w_sipush (pc := 20) (v := (1000 : Int32)) G dF_coordinate_20 (by decide) ?_
    obtain rfl := Option.some.inj h
    exact w_iret (pc := 23) G dF_coordinate_23 Fh
  · have h := if_f c5 h
    refine w_aload_n (pc := 8) (q := 0) G dF_coordinate_8 rfl rfl ?_
    refine w_get (pc := 9) (v := .ref (κ.1 68)) (fs := fl_F κ (x_added, x_asked, x_eR, x_et, x_oR, x_ot, x_bR, x_bD, x_bQ, x_bW, x_bS, x_bM, x_bT, x_bn, x_tg, x_tb, x_ts, x_fg, x_fb, x_fV, x_fS, x_fn, x_cg, x_cb, x_cB, x_cq, x_vHeld, x_vRed, x_vTal, x_vLis)) G 66 (by decide) lb_F rfl wsF_ok 2 (by decide) wd96 gf_F_2 dF_coordinate_9 ?_
    refine w_iload_n (pc := 12) (q := 1) G dF_coordinate_12 rfl rfl ?_
    obtain ⟨i13, h⟩ := gd_some h
    refine w_aald (pc := 13) (n := 41) (f := og κ 69 41) (b := κ.1 (69 + v1.toNatClampNeg)) G 68 (by decide) lo_fV i13 (og_at (ixlt i13)) dF_coordinate_13 ?_
    refine w_iload_n (pc := 14) (q := 2) G dF_coordinate_14 rfl rfl ?_
    obtain ⟨i15, h⟩ := gd_some h
    refine w_lald (pc := 15) (n := 4) (f := (x_fV v1.toNatClampNeg)) G (69 + v1.toNatClampNeg) (nw_fV (ixlt i13)) (lk_fV (ixlt i13)) i15 dF_coordinate_15 ?_
    refine w_l2i (pc := 16) G dF_coordinate_16 ?_
    refine w_goto (pc := 17) (tgt := 23) G dF_coordinate_17 (by decide) ?_
    obtain rfl := Option.some.inj h
    exact w_iret (pc := 23) G dF_coordinate_23 Fh
def rm_F_precedes : Room := { frames := 1, cells := 0, slots := 0, locals := 22 }
theorem dF_precedes_0 : decode cF_precedes 0 = .ok (.lload_n 2, 1) := by decide +kernel
theorem dF_precedes_1 : decode cF_precedes 1 = .ok (.aload_n 0, 1) := by decide +kernel
theorem dF_precedes_2 : decode cF_precedes 2 = .ok (.getfield 16, 3) := by decide +kernel
theorem dF_precedes_5 : decode cF_precedes 5 = .ok (.iload 4, 2) := by decide +kernel
theorem dF_precedes_7 : decode cF_precedes 7 = .ok (.laload, 1) := by decide +kernel
theorem dF_precedes_8 : decode cF_precedes 8 = .ok (.lcmp, 1) := by decide +kernel
theorem dF_precedes_9 : decode cF_precedes 9 = .ok (.ifCond .lt 29, 3) := by decide +kernel
theorem dF_precedes_12 : decode cF_precedes 12 = .ok (.lload_n 2, 1) := by decide +kernel
theorem dF_precedes_13 : decode cF_precedes 13 = .ok (.aload_n 0, 1) := by decide +kernel
theorem dF_precedes_14 : decode cF_precedes 14 = .ok (.getfield 16, 3) := by decide +kernel
theorem dF_precedes_17 : decode cF_precedes 17 = .ok (.iload 4, 2) := by decide +kernel
theorem dF_precedes_19 : decode cF_precedes 19 = .ok (.laload, 1) := by decide +kernel
theorem dF_precedes_20 : decode cF_precedes 20 = .ok (.lcmp, 1) := by decide +kernel
theorem dF_precedes_21 : decode cF_precedes 21 = .ok (.ifCond .ne 21, 3) := by decide +kernel
theorem dF_precedes_24 : decode cF_precedes 24 = .ok (.aload_n 1, 1) := by decide +kernel
theorem dF_precedes_25 : decode cF_precedes 25 = .ok (.aload_n 0, 1) := by decide +kernel
theorem dF_precedes_26 : decode cF_precedes 26 = .ok (.getfield 11, 3) := by decide +kernel
theorem dF_precedes_29 : decode cF_precedes 29 = .ok (.iload 4, 2) := by decide +kernel
theorem dF_precedes_31 : decode cF_precedes 31 = .ok (.aaload, 1) := by decide +kernel
theorem dF_precedes_32 : decode cF_precedes 32 = .ok (.invokestatic 52, 3) := by decide +kernel
theorem dF_precedes_35 : decode cF_precedes 35 = .ok (.ifCond .eq 7, 3) := by decide +kernel
theorem dF_precedes_38 : decode cF_precedes 38 = .ok (.iconst 1, 1) := by decide +kernel
theorem dF_precedes_39 : decode cF_precedes 39 = .ok (.goto 4, 3) := by decide +kernel
theorem dF_precedes_42 : decode cF_precedes 42 = .ok (.iconst 0, 1) := by decide +kernel
theorem dF_precedes_43 : decode cF_precedes 43 = .ok (.ireturn, 1) := by decide +kernel
theorem cb_V_comesBefore_F_precedes : CB yV_comesBefore cV_comesBefore 3 (some .boolean) rm_V_comesBefore rm_F_precedes 2 := ⟨wd389, wd1, by decide +kernel, rfl, rfl, by decide⟩
noncomputable def F_precedes (F : Nat)  (x_bS : Nat → Nat → Int64) (x_fV : Nat → Nat → Int64) (x_fS : Nat → Int64) (v2 : Int64) (v4 : Int32) : Option (Int32) := gd (vp_in v4 41) (if v2 < (x_fS v4.toNatClampNeg) then some (1 : Int32) else gd (vp_in v4 41) (if v2 = (x_fS v4.toNatClampNeg) then gd (vp_in v4 41) ((V_comesBefore F (x_bS (0 : Int32).toNatClampNeg) (x_fV v4.toNatClampNeg) ).bind (fun r32 => if r32 = 0 then some (0 : Int32) else some (1 : Int32))) else some (0 : Int32)))
set_option maxHeartbeats 8000000 in
set_option maxRecDepth 100000 in
theorem met_F_precedes (κ : ctx) (τ : MS) (F : Nat) {x_added : Nat → Nat → Int64} {x_asked : Nat → Int64} {x_eR : Nat → Nat → Int64} {x_et : Nat → Int64} {x_oR : Nat → Nat → Int64} {x_ot : Nat → Int64} {x_bR : Nat → Nat → Int64} {x_bD : Nat → Nat → Int64} {x_bQ : Nat → Int64} {x_bW : Nat → Int64} {x_bS : Nat → Nat → Int64} {x_bM : Nat → Nat → Int64} {x_bT : Nat → Int64} {x_bn : Int32} {x_tg : Nat → Int64} {x_tb : Int64} {x_ts : Nat → Int32} {x_fg : Nat → Int64} {x_fb : Int64} {x_fV : Nat → Nat → Int64} {x_fS : Nat → Int64} {x_fn : Int32} {x_cg : Nat → Int64} {x_cb : Int64} {x_cB : Nat → Int64} {x_cq : Int64} {x_vHeld : Int32} {x_vRed : Int32} {x_vTal : Int32} {x_vLis : Int32} (v2 : Int64) (v4 : Int32) {out : Int32} (h : F_precedes F  x_bS x_fV x_fS v2 v4 = some out) : Mt yF_precedes cF_precedes 5 (some .boolean) rm_F_precedes κ [.ref (κ.1 66), .ref (κ.1 (52 + (0 : Int32).toNatClampNeg)), .long v2, .int v4] (LM κ τ (LC κ (x_added, x_asked, x_eR, x_et, x_oR, x_ot, x_bR, x_bD, x_bQ, x_bW, x_bS, x_bM, x_bT, x_bn, x_tg, x_tb, x_ts, x_fg, x_fb, x_fV, x_fS, x_fn, x_cg, x_cb, x_cB, x_cq, x_vHeld, x_vRed, x_vTal, x_vLis))) (some (.int out)) (LM κ τ (LC κ (x_added, x_asked, x_eR, x_et, x_oR, x_ot, x_bR, x_bD, x_bQ, x_bW, x_bS, x_bM, x_bT, x_bn, x_tg, x_tb, x_ts, x_fg, x_fb, x_fV, x_fS, x_fn, x_cg, x_cb, x_cB, x_cq, x_vHeld, x_vRed, x_vTal, x_vLis))) := by
  refine Mt.of (by decide) (Nat.le_of_ble_eq_true rfl) ?_
  intro g G Fh
  unfold F_precedes at h
  show J g κ 5 0 [(0, .ref (κ.1 66)), (1, .ref (κ.1 (52 + (0 : Int32).toNatClampNeg))), (2, .long v2), (4, .int v4)] [] (LM κ τ (LC κ (x_added, x_asked, x_eR, x_et, x_oR, x_ot, x_bR, x_bD, x_bQ, x_bW, x_bS, x_bM, x_bT, x_bn, x_tg, x_tb, x_ts, x_fg, x_fb, x_fV, x_fS, x_fn, x_cg, x_cb, x_cB, x_cq, x_vHeld, x_vRed, x_vTal, x_vLis)))
  refine w_lload_n (pc := 0) (q := 2) G dF_precedes_0 rfl rfl ?_
  refine w_aload_n (pc := 1) (q := 0) G dF_precedes_1 rfl rfl ?_
  refine w_get (pc := 2) (v := .ref (κ.1 110)) (fs := fl_F κ (x_added, x_asked, x_eR, x_et, x_oR, x_ot, x_bR, x_bD, x_bQ, x_bW, x_bS, x_bM, x_bT, x_bn, x_tg, x_tb, x_ts, x_fg, x_fb, x_fV, x_fS, x_fn, x_cg, x_cb, x_cB, x_cq, x_vHeld, x_vRed, x_vTal, x_vLis)) G 66 (by decide) lb_F rfl wsF_ok 3 (by decide) wd97 gf_F_3 dF_precedes_2 ?_
  refine w_iload (pc := 5) (q := 3) G dF_precedes_5 rfl ?_
  obtain ⟨i7, h⟩ := gd_some h
  refine w_lald (pc := 7) (n := 41) (f := x_fS) G 110 (by decide) lk_fS i7 dF_precedes_7 ?_
  refine w_lc_lt (pc := 8) (tgt := 38) G dF_precedes_8 dF_precedes_9 (by decide) (fun c8 => ?_) (fun c8 => ?_)
  · have h := if_t c8 h
    refine w_iconst (pc := 38) (v := (1 : Int32)) G dF_precedes_38 (by decide) ?_
    refine w_goto (pc := 39) (tgt := 43) G dF_precedes_39 (by decide) ?_
    obtain rfl := Option.some.inj h
    exact w_zret (pc := 43) G rfl dF_precedes_43 Fh
  · have h := if_f c8 h
    refine w_lload_n (pc := 12) (q := 2) G dF_precedes_12 rfl rfl ?_
    refine w_aload_n (pc := 13) (q := 0) G dF_precedes_13 rfl rfl ?_
    refine w_get (pc := 14) (v := .ref (κ.1 110)) (fs := fl_F κ (x_added, x_asked, x_eR, x_et, x_oR, x_ot, x_bR, x_bD, x_bQ, x_bW, x_bS, x_bM, x_bT, x_bn, x_tg, x_tb, x_ts, x_fg, x_fb, x_fV, x_fS, x_fn, x_cg, x_cb, x_cB, x_cq, x_vHeld, x_vRed, x_vTal, x_vLis)) G 66 (by decide) lb_F rfl wsF_ok 3 (by decide) wd97 gf_F_3 dF_precedes_14 ?_
    refine w_iload (pc := 17) (q := 3) G dF_precedes_17 rfl ?_
    obtain ⟨i19, h⟩ := gd_some h
    refine w_lald (pc := 19) (n := 41) (f := x_fS) G 110 (by decide) lk_fS i19 dF_precedes_19 ?_
    refine w_lc_ne (pc := 20) (tgt := 42) G dF_precedes_20 dF_precedes_21 (by decide) (fun c20 => ?_) (fun c20 => ?_)
    · have h := if_t c20 h
      refine w_aload_n (pc := 24) (q := 1) G dF_precedes_24 rfl rfl ?_
      refine w_aload_n (pc := 25) (q := 0) G dF_precedes_25 rfl rfl ?_
      refine w_get (pc := 26) (v := .ref (κ.1 68)) (fs := fl_F κ (x_added, x_asked, x_eR, x_et, x_oR, x_ot, x_bR, x_bD, x_bQ, x_bW, x_bS, x_bM, x_bT, x_bn, x_tg, x_tb, x_ts, x_fg, x_fb, x_fV, x_fS, x_fn, x_cg, x_cb, x_cB, x_cq, x_vHeld, x_vRed, x_vTal, x_vLis)) G 66 (by decide) lb_F rfl wsF_ok 2 (by decide) wd96 gf_F_2 dF_precedes_26 ?_
      refine w_iload (pc := 29) (q := 3) G dF_precedes_29 rfl ?_
      obtain ⟨i31, h⟩ := gd_some h
      refine w_aald (pc := 31) (n := 41) (f := og κ 69 41) (b := κ.1 (69 + v4.toNatClampNeg)) G 68 (by decide) lo_fV i31 (og_at (ixlt i31)) dF_precedes_31 ?_
      obtain ⟨r32, e32, h⟩ := bd h
      refine w_callSN (pc := 32) (av := [.ref (κ.1 (52 + (0 : Int32).toNatClampNeg)), .ref (κ.1 (69 + v4.toNatClampNeg))]) (rest := []) (v := some (.int r32)) (L' := (LM κ τ (LC κ (x_added, x_asked, x_eR, x_et, x_oR, x_ot, x_bR, x_bD, x_bQ, x_bW, x_bS, x_bM, x_bT, x_bn, x_tg, x_tb, x_ts, x_fg, x_fb, x_fV, x_fS, x_fn, x_cg, x_cb, x_cB, x_cq, x_vHeld, x_vRed, x_vTal, x_vLis)))) G cb_V_comesBefore_F_precedes wd388 wd407 (met_V_comesBefore κ (LM κ τ (LC κ (x_added, x_asked, x_eR, x_et, x_oR, x_ot, x_bR, x_bD, x_bQ, x_bW, x_bS, x_bM, x_bT, x_bn, x_tg, x_tb, x_ts, x_fg, x_fb, x_fV, x_fS, x_fn, x_cg, x_cb, x_cB, x_cq, x_vHeld, x_vRed, x_vTal, x_vLis))) F  (52 + (0 : Int32).toNatClampNeg) (nw_bS z05) (x_bS (0 : Int32).toNatClampNeg) (lk_bS z05) (69 + v4.toNatClampNeg) (nw_fV (ixlt i31)) (x_fV v4.toNatClampNeg) (lk_fV (ixlt i31)) e32) rfl rfl rfl (Nat.le_of_ble_eq_true rfl) dF_precedes_32 ?_
      refine w_if_eq (pc := 35) (tgt := 42) G dF_precedes_35 (by decide) (fun c35 => ?_) (fun c35 => ?_)
      · have h := if_t c35 h
        refine w_iconst (pc := 42) (v := (0 : Int32)) G dF_precedes_42 (by decide) ?_
        obtain rfl := Option.some.inj h
        exact w_zret (pc := 43) G rfl dF_precedes_43 Fh
      · have h := if_f c35 h
        refine w_iconst (pc := 38) (v := (1 : Int32)) G dF_precedes_38 (by decide) ?_
        refine w_goto (pc := 39) (tgt := 43) G dF_precedes_39 (by decide) ?_
        obtain rfl := Option.some.inj h
        exact w_zret (pc := 43) G rfl dF_precedes_43 Fh
    · have h := if_f c20 h
      refine w_iconst (pc := 42) (v := (0 : Int32)) G dF_precedes_42 (by decide) ?_
      obtain rfl := Option.some.inj h
      exact w_zret (pc := 43) G rfl dF_precedes_43 Fh
def rm_F_insert : Room := { frames := 2, cells := 0, slots := 0, locals := 91 }
theorem dF_insert_0 : decode cF_insert 0 = .ok (.aload_n 0, 1) := by decide +kernel
theorem dF_insert_1 : decode cF_insert 1 = .ok (.aload_n 0, 1) := by decide +kernel
theorem dF_insert_2 : decode cF_insert 2 = .ok (.getfield 20, 3) := by decide +kernel
theorem dF_insert_5 : decode cF_insert 5 = .ok (.iconst 1, 1) := by decide +kernel
theorem dF_insert_6 : decode cF_insert 6 = .ok (.iadd, 1) := by decide +kernel
theorem dF_insert_7 : decode cF_insert 7 = .ok (.bipush 41, 2) := by decide +kernel
theorem dF_insert_9 : decode cF_insert 9 = .ok (.invokestatic 56, 3) := by decide +kernel
theorem dF_insert_12 : decode cF_insert 12 = .ok (.putfield 20, 3) := by decide +kernel
theorem dF_insert_15 : decode cF_insert 15 = .ok (.aload_n 0, 1) := by decide +kernel
theorem dF_insert_16 : decode cF_insert 16 = .ok (.getfield 20, 3) := by decide +kernel
theorem dF_insert_19 : decode cF_insert 19 = .ok (.iconst 1, 1) := by decide +kernel
theorem dF_insert_20 : decode cF_insert 20 = .ok (.isub, 1) := by decide +kernel
theorem dF_insert_21 : decode cF_insert 21 = .ok (.istore 5, 2) := by decide +kernel
theorem dF_insert_23 : decode cF_insert 23 = .ok (.iload 5, 2) := by decide +kernel
theorem dF_insert_25 : decode cF_insert 25 = .ok (.iload 4, 2) := by decide +kernel
theorem dF_insert_27 : decode cF_insert 27 = .ok (.if_icmp .le 44, 3) := by decide +kernel
theorem dF_insert_30 : decode cF_insert 30 = .ok (.aload_n 0, 1) := by decide +kernel
theorem dF_insert_31 : decode cF_insert 31 = .ok (.getfield 11, 3) := by decide +kernel
theorem dF_insert_34 : decode cF_insert 34 = .ok (.iload 5, 2) := by decide +kernel
theorem dF_insert_36 : decode cF_insert 36 = .ok (.iconst 1, 1) := by decide +kernel
theorem dF_insert_37 : decode cF_insert 37 = .ok (.isub, 1) := by decide +kernel
theorem dF_insert_38 : decode cF_insert 38 = .ok (.aaload, 1) := by decide +kernel
theorem dF_insert_39 : decode cF_insert 39 = .ok (.aload_n 0, 1) := by decide +kernel
theorem dF_insert_40 : decode cF_insert 40 = .ok (.getfield 11, 3) := by decide +kernel
theorem dF_insert_43 : decode cF_insert 43 = .ok (.iload 5, 2) := by decide +kernel
theorem dF_insert_45 : decode cF_insert 45 = .ok (.aaload, 1) := by decide +kernel
theorem dF_insert_46 : decode cF_insert 46 = .ok (.invokestatic 62, 3) := by decide +kernel
theorem dF_insert_49 : decode cF_insert 49 = .ok (.aload_n 0, 1) := by decide +kernel
theorem dF_insert_50 : decode cF_insert 50 = .ok (.getfield 16, 3) := by decide +kernel
theorem dF_insert_53 : decode cF_insert 53 = .ok (.iload 5, 2) := by decide +kernel
theorem dF_insert_55 : decode cF_insert 55 = .ok (.aload_n 0, 1) := by decide +kernel
theorem dF_insert_56 : decode cF_insert 56 = .ok (.getfield 16, 3) := by decide +kernel
theorem dF_insert_59 : decode cF_insert 59 = .ok (.iload 5, 2) := by decide +kernel
theorem dF_insert_61 : decode cF_insert 61 = .ok (.iconst 1, 1) := by decide +kernel
theorem dF_insert_62 : decode cF_insert 62 = .ok (.isub, 1) := by decide +kernel
theorem dF_insert_63 : decode cF_insert 63 = .ok (.laload, 1) := by decide +kernel
theorem dF_insert_64 : decode cF_insert 64 = .ok (.lastore, 1) := by decide +kernel
theorem dF_insert_65 : decode cF_insert 65 = .ok (.iinc 5 (-1), 3) := by decide +kernel
theorem dF_insert_68 : decode cF_insert 68 = .ok (.goto (-45), 3) := by decide +kernel
theorem dF_insert_71 : decode cF_insert 71 = .ok (.aload_n 1, 1) := by decide +kernel
theorem dF_insert_72 : decode cF_insert 72 = .ok (.aload_n 0, 1) := by decide +kernel
theorem dF_insert_73 : decode cF_insert 73 = .ok (.getfield 11, 3) := by decide +kernel
theorem dF_insert_76 : decode cF_insert 76 = .ok (.iload 4, 2) := by decide +kernel
theorem dF_insert_78 : decode cF_insert 78 = .ok (.aaload, 1) := by decide +kernel
theorem dF_insert_79 : decode cF_insert 79 = .ok (.invokestatic 62, 3) := by decide +kernel
theorem dF_insert_82 : decode cF_insert 82 = .ok (.aload_n 0, 1) := by decide +kernel
theorem dF_insert_83 : decode cF_insert 83 = .ok (.getfield 16, 3) := by decide +kernel
theorem dF_insert_86 : decode cF_insert 86 = .ok (.iload 4, 2) := by decide +kernel
theorem dF_insert_88 : decode cF_insert 88 = .ok (.lload_n 2, 1) := by decide +kernel
theorem dF_insert_89 : decode cF_insert 89 = .ok (.lastore, 1) := by decide +kernel
theorem dF_insert_90 : decode cF_insert 90 = .ok (.return_, 1) := by decide +kernel
theorem cb_V_copy_F_insert : CB yV_copy cV_copy 2 none rm_V_copy rm_F_insert 2 := ⟨wd170, wd1, by decide +kernel, rfl, rfl, by decide⟩
noncomputable def lF_insert_23 (F : Nat) (v2 : Int64) (v4 : Int32) : Nat → Int32 → (Nat → Nat → Int64) → (Nat → Int64) → Option ((Nat → Nat → Int64) × (Nat → Int64))
  | 0, _, _, _ => none
  | n + 1, v5, x_fV, x_fS => if v5 ≤ v4 then some (x_fV, x_fS) else gd (vp_in (v5 - (1 : Int32)) 41) (gd (vp_in v5 41) (gd (¬ ((v5 - (1 : Int32)).toNatClampNeg) = v5.toNatClampNeg) ((V_copy F (x_fV (v5 - (1 : Int32)).toNatClampNeg) (x_fV v5.toNatClampNeg) ).bind (fun r46 => gd (vp_in (v5 - (1 : Int32)) 41) (gd (vp_in v5 41) (lF_insert_23 F  v2 v4 n (v5 + (-1)) (va_up x_fV v5.toNatClampNeg r46) (vp_updL x_fS v5.toNatClampNeg (x_fS (v5 - (1 : Int32)).toNatClampNeg))))))))
set_option maxHeartbeats 8000000 in
set_option maxRecDepth 100000 in
theorem lF_insert_23_ok {g : Gm} {κ : ctx} (G : OK g κ RF cF_insert 6 none rm_F_insert) (τ : MS) (F : Nat) {x_added : Nat → Nat → Int64} {x_asked : Nat → Int64} {x_eR : Nat → Nat → Int64} {x_et : Nat → Int64} {x_oR : Nat → Nat → Int64} {x_ot : Nat → Int64} {x_bR : Nat → Nat → Int64} {x_bD : Nat → Nat → Int64} {x_bQ : Nat → Int64} {x_bW : Nat → Int64} {x_bS : Nat → Nat → Int64} {x_bM : Nat → Nat → Int64} {x_bT : Nat → Int64} {x_bn : Int32} {x_tg : Nat → Int64} {x_tb : Int64} {x_ts : Nat → Int32} {x_fg : Nat → Int64} {x_fb : Int64} {x_fn : Int32} {x_cg : Nat → Int64} {x_cb : Int64} {x_cB : Nat → Int64} {x_cq : Int64} {x_vHeld : Int32} {x_vRed : Int32} {x_vTal : Int32} {x_vLis : Int32} (v2 : Int64) (v4 : Int32) : ∀ (n : Nat) (v5 : Int32) (x_fV : Nat → Nat → Int64) (x_fS : Nat → Int64) (out : (Nat → Nat → Int64) × (Nat → Int64)), lF_insert_23 F   v2 v4 n v5 x_fV x_fS = some out → (J g κ 6 71 [(0, .ref (κ.1 66)), (1, .ref (κ.1 (52 + (0 : Int32).toNatClampNeg))), (2, .long v2), (4, .int v4)] [] (LM κ τ (LC κ (x_added, x_asked, x_eR, x_et, x_oR, x_ot, x_bR, x_bD, x_bQ, x_bW, x_bS, x_bM, x_bT, x_bn, x_tg, x_tb, x_ts, x_fg, x_fb, out.1, out.2, x_fn, x_cg, x_cb, x_cB, x_cq, x_vHeld, x_vRed, x_vTal, x_vLis)))) → J g κ 6 23 [(0, .ref (κ.1 66)), (1, .ref (κ.1 (52 + (0 : Int32).toNatClampNeg))), (2, .long v2), (4, .int v4), (5, .int v5)] [] (LM κ τ (LC κ (x_added, x_asked, x_eR, x_et, x_oR, x_ot, x_bR, x_bD, x_bQ, x_bW, x_bS, x_bM, x_bT, x_bn, x_tg, x_tb, x_ts, x_fg, x_fb, x_fV, x_fS, x_fn, x_cg, x_cb, x_cB, x_cq, x_vHeld, x_vRed, x_vTal, x_vLis))) := by
  intro n
  induction n with
  | zero =>
    intro v5 x_fV x_fS
    intro out h
    rw [lF_insert_23] at h
    cases h
  | succ n ih =>
    intro v5 x_fV x_fS out h K
    rw [lF_insert_23] at h
    refine w_iload (pc := 23) (q := 4) G dF_insert_23 rfl ?_
    refine w_iload (pc := 25) (q := 3) G dF_insert_25 rfl ?_
    refine w_icmp_le (pc := 27) (tgt := 71) G dF_insert_27 (by decide) (fun c27 => ?_) (fun c27 => ?_)
    · have h := if_t c27 h
      obtain rfl := Option.some.inj h
      refine w_sub (lv' := [(0, .ref (κ.1 66)), (1, .ref (κ.1 (52 + (0 : Int32).toNatClampNeg))), (2, .long v2), (4, .int v4)]) [0, 1, 2, 3] rfl ?_
      exact K
    · have h := if_f c27 h
      refine w_aload_n (pc := 30) (q := 0) G dF_insert_30 rfl rfl ?_
      refine w_get (pc := 31) (v := .ref (κ.1 68)) (fs := fl_F κ (x_added, x_asked, x_eR, x_et, x_oR, x_ot, x_bR, x_bD, x_bQ, x_bW, x_bS, x_bM, x_bT, x_bn, x_tg, x_tb, x_ts, x_fg, x_fb, x_fV, x_fS, x_fn, x_cg, x_cb, x_cB, x_cq, x_vHeld, x_vRed, x_vTal, x_vLis)) G 66 (by decide) lb_F rfl wsF_ok 2 (by decide) wd96 gf_F_2 dF_insert_31 ?_
      refine w_iload (pc := 34) (q := 4) G dF_insert_34 rfl ?_
      refine w_iconst (pc := 36) (v := (1 : Int32)) G dF_insert_36 (by decide) ?_
      refine w_isub (pc := 37) G dF_insert_37 ?_
      obtain ⟨i38, h⟩ := gd_some h
      refine w_aald (pc := 38) (n := 41) (f := og κ 69 41) (b := κ.1 (69 + (v5 - (1 : Int32)).toNatClampNeg)) G 68 (by decide) lo_fV i38 (og_at (ixlt i38)) dF_insert_38 ?_
      refine w_aload_n (pc := 39) (q := 0) G dF_insert_39 rfl rfl ?_
      refine w_get (pc := 40) (v := .ref (κ.1 68)) (fs := fl_F κ (x_added, x_asked, x_eR, x_et, x_oR, x_ot, x_bR, x_bD, x_bQ, x_bW, x_bS, x_bM, x_bT, x_bn, x_tg, x_tb, x_ts, x_fg, x_fb, x_fV, x_fS, x_fn, x_cg, x_cb, x_cB, x_cq, x_vHeld, x_vRed, x_vTal, x_vLis)) G 66 (by decide) lb_F rfl wsF_ok 2 (by decide) wd96 gf_F_2 dF_insert_40 ?_
      refine w_iload (pc := 43) (q := 4) G dF_insert_43 rfl ?_
      obtain ⟨i45, h⟩ := gd_some h
      refine w_aald (pc := 45) (n := 41) (f := og κ 69 41) (b := κ.1 (69 + v5.toNatClampNeg)) G 68 (by decide) lo_fV i45 (og_at (ixlt i45)) dF_insert_45 ?_
      obtain ⟨ne46, h⟩ := gd_some h
      obtain ⟨r46, e46, h⟩ := bd h
      refine w_callSN (pc := 46) (av := [.ref (κ.1 (69 + (v5 - (1 : Int32)).toNatClampNeg)), .ref (κ.1 (69 + v5.toNatClampNeg))]) (rest := []) (v := none) (L' := (LM κ τ (LC κ (x_added, x_asked, x_eR, x_et, x_oR, x_ot, x_bR, x_bD, x_bQ, x_bW, x_bS, x_bM, x_bT, x_bn, x_tg, x_tb, x_ts, x_fg, x_fb, va_up x_fV v5.toNatClampNeg r46, x_fS, x_fn, x_cg, x_cb, x_cB, x_cq, x_vHeld, x_vRed, x_vTal, x_vLis)))) G cb_V_copy_F_insert wd169 wd415 (Mt.eqw (up_fV (ixlt i45)) (met_V_copy κ (LM κ τ (LC κ (x_added, x_asked, x_eR, x_et, x_oR, x_ot, x_bR, x_bD, x_bQ, x_bW, x_bS, x_bM, x_bT, x_bn, x_tg, x_tb, x_ts, x_fg, x_fb, x_fV, x_fS, x_fn, x_cg, x_cb, x_cB, x_cq, x_vHeld, x_vRed, x_vTal, x_vLis))) F  (69 + (v5 - (1 : Int32)).toNatClampNeg) (nw_fV (ixlt i38)) (x_fV (v5 - (1 : Int32)).toNatClampNeg) (lk_fV (ixlt i38)) (69 + v5.toNatClampNeg) (nw_fV (ixlt i45)) (x_fV v5.toNatClampNeg) (lk_fV (ixlt i45)) (fun q => ne46 (by omega)) e46)) rfl rfl rfl (Nat.le_of_ble_eq_true rfl) dF_insert_46 ?_
      refine w_aload_n (pc := 49) (q := 0) G dF_insert_49 rfl rfl ?_
      refine w_get (pc := 50) (v := .ref (κ.1 110)) (fs := fl_F κ (x_added, x_asked, x_eR, x_et, x_oR, x_ot, x_bR, x_bD, x_bQ, x_bW, x_bS, x_bM, x_bT, x_bn, x_tg, x_tb, x_ts, x_fg, x_fb, va_up x_fV v5.toNatClampNeg r46, x_fS, x_fn, x_cg, x_cb, x_cB, x_cq, x_vHeld, x_vRed, x_vTal, x_vLis)) G 66 (by decide) lb_F rfl wsF_ok 3 (by decide) wd97 gf_F_3 dF_insert_50 ?_
      refine w_iload (pc := 53) (q := 4) G dF_insert_53 rfl ?_
      refine w_aload_n (pc := 55) (q := 0) G dF_insert_55 rfl rfl ?_
      refine w_get (pc := 56) (v := .ref (κ.1 110)) (fs := fl_F κ (x_added, x_asked, x_eR, x_et, x_oR, x_ot, x_bR, x_bD, x_bQ, x_bW, x_bS, x_bM, x_bT, x_bn, x_tg, x_tb, x_ts, x_fg, x_fb, va_up x_fV v5.toNatClampNeg r46, x_fS, x_fn, x_cg, x_cb, x_cB, x_cq, x_vHeld, x_vRed, x_vTal, x_vLis)) G 66 (by decide) lb_F rfl wsF_ok 3 (by decide) wd97 gf_F_3 dF_insert_56 ?_
      refine w_iload (pc := 59) (q := 4) G dF_insert_59 rfl ?_
      refine w_iconst (pc := 61) (v := (1 : Int32)) G dF_insert_61 (by decide) ?_
      refine w_isub (pc := 62) G dF_insert_62 ?_
      obtain ⟨i63, h⟩ := gd_some h
      refine w_lald (pc := 63) (n := 41) (f := x_fS) G 110 (by decide) lk_fS i63 dF_insert_63 ?_
      obtain ⟨i64, h⟩ := gd_some h
      refine w_last (pc := 64) (n := 41) (f := x_fS) (L1 := (LM κ τ (LC κ (x_added, x_asked, x_eR, x_et, x_oR, x_ot, x_bR, x_bD, x_bQ, x_bW, x_bS, x_bM, x_bT, x_bn, x_tg, x_tb, x_ts, x_fg, x_fb, va_up x_fV v5.toNatClampNeg r46, vp_updL x_fS v5.toNatClampNeg (x_fS (v5 - (1 : Int32)).toNatClampNeg), x_fn, x_cg, x_cb, x_cB, x_cq, x_vHeld, x_vRed, x_vTal, x_vLis)))) G 110 (by decide) lk_fS i64 dF_insert_64 up_fS ?_
      refine w_iinc (pc := 65) (q0 := 4) (v := (v5 + (-1))) (lv' := [(5, .int (v5 + (-1))), (0, .ref (κ.1 66)), (1, .ref (κ.1 (52 + (0 : Int32).toNatClampNeg))), (2, .long v2), (4, .int v4)]) G dF_insert_65 rfl rfl (by decide) rfl ?_
      refine w_goto (pc := 68) (tgt := 23) G dF_insert_68 (by decide) ?_
      refine w_sub (lv' := [(0, .ref (κ.1 66)), (1, .ref (κ.1 (52 + (0 : Int32).toNatClampNeg))), (2, .long v2), (4, .int v4), (5, .int (v5 + (-1)))]) [1, 2, 3, 4, 0] rfl ?_
      exact ih (v5 + (-1)) (va_up x_fV v5.toNatClampNeg r46) (vp_updL x_fS v5.toNatClampNeg (x_fS (v5 - (1 : Int32)).toNatClampNeg)) out h K
noncomputable def F_insert (F : Nat)  (x_bS : Nat → Nat → Int64) (x_fV : Nat → Nat → Int64) (x_fS : Nat → Int64) (x_fn : Int32) (v2 : Int64) (v4 : Int32) : Option ((Nat → Nat → Int64) × (Nat → Int64) × Int32) := (lF_insert_23 F  v2 v4 F ((if (41 : Int32) < (x_fn + (1 : Int32)) then (41 : Int32) else (x_fn + (1 : Int32))) - (1 : Int32)) x_fV x_fS).bind (fun o23_7 => gd (vp_in v4 41) ((V_copy F (x_bS (0 : Int32).toNatClampNeg) (o23_7.1 v4.toNatClampNeg) ).bind (fun r79 => gd (vp_in v4 41) (some (va_up o23_7.1 v4.toNatClampNeg r79, vp_updL o23_7.2 v4.toNatClampNeg v2, (if (41 : Int32) < (x_fn + (1 : Int32)) then (41 : Int32) else (x_fn + (1 : Int32))))))))
set_option maxHeartbeats 8000000 in
set_option maxRecDepth 100000 in
theorem met_F_insert (κ : ctx) (τ : MS) (F : Nat) {x_added : Nat → Nat → Int64} {x_asked : Nat → Int64} {x_eR : Nat → Nat → Int64} {x_et : Nat → Int64} {x_oR : Nat → Nat → Int64} {x_ot : Nat → Int64} {x_bR : Nat → Nat → Int64} {x_bD : Nat → Nat → Int64} {x_bQ : Nat → Int64} {x_bW : Nat → Int64} {x_bS : Nat → Nat → Int64} {x_bM : Nat → Nat → Int64} {x_bT : Nat → Int64} {x_bn : Int32} {x_tg : Nat → Int64} {x_tb : Int64} {x_ts : Nat → Int32} {x_fg : Nat → Int64} {x_fb : Int64} {x_fV : Nat → Nat → Int64} {x_fS : Nat → Int64} {x_fn : Int32} {x_cg : Nat → Int64} {x_cb : Int64} {x_cB : Nat → Int64} {x_cq : Int64} {x_vHeld : Int32} {x_vRed : Int32} {x_vTal : Int32} {x_vLis : Int32} (v2 : Int64) (v4 : Int32) {out : (Nat → Nat → Int64) × (Nat → Int64) × Int32} (h : F_insert F  x_bS x_fV x_fS x_fn v2 v4 = some out) : Mt yF_insert cF_insert 6 none rm_F_insert κ [.ref (κ.1 66), .ref (κ.1 (52 + (0 : Int32).toNatClampNeg)), .long v2, .int v4] (LM κ τ (LC κ (x_added, x_asked, x_eR, x_et, x_oR, x_ot, x_bR, x_bD, x_bQ, x_bW, x_bS, x_bM, x_bT, x_bn, x_tg, x_tb, x_ts, x_fg, x_fb, x_fV, x_fS, x_fn, x_cg, x_cb, x_cB, x_cq, x_vHeld, x_vRed, x_vTal, x_vLis))) none (LM κ τ (LC κ (x_added, x_asked, x_eR, x_et, x_oR, x_ot, x_bR, x_bD, x_bQ, x_bW, x_bS, x_bM, x_bT, x_bn, x_tg, x_tb, x_ts, x_fg, x_fb, out.1, out.2.1, out.2.2, x_cg, x_cb, x_cB, x_cq, x_vHeld, x_vRed, x_vTal, x_vLis))) := by
  refine Mt.of (by decide) (Nat.le_of_ble_eq_true rfl) ?_
  intro g G Fh
  unfold F_insert at h
  show J g κ 6 0 [(0, .ref (κ.1 66)), (1, .ref (κ.1 (52 + (0 : Int32).toNatClampNeg))), (2, .long v2), (4, .int v4)] [] (LM κ τ (LC κ (x_added, x_asked, x_eR, x_et, x_oR, x_ot, x_bR, x_bD, x_bQ, x_bW, x_bS, x_bM, x_bT, x_bn, x_tg, x_tb, x_ts, x_fg, x_fb, x_fV, x_fS, x_fn, x_cg, x_cb, x_cB, x_cq, x_vHeld, x_vRed, x_vTal, x_vLis)))
  refine w_aload_n (pc := 0) (q := 0) G dF_insert_0 rfl rfl ?_
  refine w_aload_n (pc := 1) (q := 0) G dF_insert_1 rfl rfl ?_
  refine w_get (pc := 2) (v := .int x_fn) (fs := fl_F κ (x_added, x_asked, x_eR, x_et, x_oR, x_ot, x_bR, x_bD, x_bQ, x_bW, x_bS, x_bM, x_bT, x_bn, x_tg, x_tb, x_ts, x_fg, x_fb, x_fV, x_fS, x_fn, x_cg, x_cb, x_cB, x_cq, x_vHeld, x_vRed, x_vTal, x_vLis)) G 66 (by decide) lb_F rfl wsF_ok 4 (by decide) wd98 gf_F_4 dF_insert_2 ?_
  refine w_iconst (pc := 5) (v := (1 : Int32)) G dF_insert_5 (by decide) ?_
  refine w_iadd (pc := 6) G dF_insert_6 ?_
  refine w_bipush (pc := 7) (v := (41 : Int32)) G dF_insert_7 (by decide) ?_
  refine w_min (pc := 9) G wd412 wd413 wd10 wd414 (by decide) (Nat.le_of_ble_eq_true rfl) dF_insert_9 ?_
  refine w_put (pc := 12) (fs := fl_F κ (x_added, x_asked, x_eR, x_et, x_oR, x_ot, x_bR, x_bD, x_bQ, x_bW, x_bS, x_bM, x_bT, x_bn, x_tg, x_tb, x_ts, x_fg, x_fb, x_fV, x_fS, x_fn, x_cg, x_cb, x_cB, x_cq, x_vHeld, x_vRed, x_vTal, x_vLis)) (L1 := (LM κ τ (LC κ (x_added, x_asked, x_eR, x_et, x_oR, x_ot, x_bR, x_bD, x_bQ, x_bW, x_bS, x_bM, x_bT, x_bn, x_tg, x_tb, x_ts, x_fg, x_fb, x_fV, x_fS, (if (41 : Int32) < (x_fn + (1 : Int32)) then (41 : Int32) else (x_fn + (1 : Int32))), x_cg, x_cb, x_cB, x_cq, x_vHeld, x_vRed, x_vTal, x_vLis)))) G 66 (by decide) lb_F rfl wsF_ok tyF tyF_ok nmF 4 (by decide) wd98 rfl rfl rfl (Nat.le_of_ble_eq_true rfl) dF_insert_12 upf_fn ?_
  refine w_aload_n (pc := 15) (q := 0) G dF_insert_15 rfl rfl ?_
  refine w_get (pc := 16) (v := .int (if (41 : Int32) < (x_fn + (1 : Int32)) then (41 : Int32) else (x_fn + (1 : Int32)))) (fs := fl_F κ (x_added, x_asked, x_eR, x_et, x_oR, x_ot, x_bR, x_bD, x_bQ, x_bW, x_bS, x_bM, x_bT, x_bn, x_tg, x_tb, x_ts, x_fg, x_fb, x_fV, x_fS, (if (41 : Int32) < (x_fn + (1 : Int32)) then (41 : Int32) else (x_fn + (1 : Int32))), x_cg, x_cb, x_cB, x_cq, x_vHeld, x_vRed, x_vTal, x_vLis)) G 66 (by decide) lb_F rfl wsF_ok 4 (by decide) wd98 gf_F_4 dF_insert_16 ?_
  refine w_iconst (pc := 19) (v := (1 : Int32)) G dF_insert_19 (by decide) ?_
  refine w_isub (pc := 20) G dF_insert_20 ?_
  refine w_istore (pc := 21) (lv' := [(5, .int ((if (41 : Int32) < (x_fn + (1 : Int32)) then (41 : Int32) else (x_fn + (1 : Int32))) - (1 : Int32))), (0, .ref (κ.1 66)), (1, .ref (κ.1 (52 + (0 : Int32).toNatClampNeg))), (2, .long v2), (4, .int v4)]) G dF_insert_21 (by decide) rfl ?_
  refine w_sub (lv' := [(0, .ref (κ.1 66)), (1, .ref (κ.1 (52 + (0 : Int32).toNatClampNeg))), (2, .long v2), (4, .int v4), (5, .int ((if (41 : Int32) < (x_fn + (1 : Int32)) then (41 : Int32) else (x_fn + (1 : Int32))) - (1 : Int32)))]) [1, 2, 3, 4, 0] rfl ?_
  obtain ⟨o23_7, eo23_7, h⟩ := bd h
  refine lF_insert_23_ok G τ F  v2 v4 F ((if (41 : Int32) < (x_fn + (1 : Int32)) then (41 : Int32) else (x_fn + (1 : Int32))) - (1 : Int32)) x_fV x_fS o23_7 eo23_7 ?_
  refine w_aload_n (pc := 71) (q := 1) G dF_insert_71 rfl rfl ?_
  refine w_aload_n (pc := 72) (q := 0) G dF_insert_72 rfl rfl ?_
  refine w_get (pc := 73) (v := .ref (κ.1 68)) (fs := fl_F κ (x_added, x_asked, x_eR, x_et, x_oR, x_ot, x_bR, x_bD, x_bQ, x_bW, x_bS, x_bM, x_bT, x_bn, x_tg, x_tb, x_ts, x_fg, x_fb, o23_7.1, o23_7.2, (if (41 : Int32) < (x_fn + (1 : Int32)) then (41 : Int32) else (x_fn + (1 : Int32))), x_cg, x_cb, x_cB, x_cq, x_vHeld, x_vRed, x_vTal, x_vLis)) G 66 (by decide) lb_F rfl wsF_ok 2 (by decide) wd96 gf_F_2 dF_insert_73 ?_
  refine w_iload (pc := 76) (q := 3) G dF_insert_76 rfl ?_
  obtain ⟨i78, h⟩ := gd_some h
  refine w_aald (pc := 78) (n := 41) (f := og κ 69 41) (b := κ.1 (69 + v4.toNatClampNeg)) G 68 (by decide) lo_fV i78 (og_at (ixlt i78)) dF_insert_78 ?_
  obtain ⟨r79, e79, h⟩ := bd h
  refine w_callSN (pc := 79) (av := [.ref (κ.1 (52 + (0 : Int32).toNatClampNeg)), .ref (κ.1 (69 + v4.toNatClampNeg))]) (rest := []) (v := none) (L' := (LM κ τ (LC κ (x_added, x_asked, x_eR, x_et, x_oR, x_ot, x_bR, x_bD, x_bQ, x_bW, x_bS, x_bM, x_bT, x_bn, x_tg, x_tb, x_ts, x_fg, x_fb, va_up o23_7.1 v4.toNatClampNeg r79, o23_7.2, (if (41 : Int32) < (x_fn + (1 : Int32)) then (41 : Int32) else (x_fn + (1 : Int32))), x_cg, x_cb, x_cB, x_cq, x_vHeld, x_vRed, x_vTal, x_vLis)))) G cb_V_copy_F_insert wd169 wd415 (Mt.eqw (up_fV (ixlt i78)) (met_V_copy κ (LM κ τ (LC κ (x_added, x_asked, x_eR, x_et, x_oR, x_ot, x_bR, x_bD, x_bQ, x_bW, x_bS, x_bM, x_bT, x_bn, x_tg, x_tb, x_ts, x_fg, x_fb, o23_7.1, o23_7.2, (if (41 : Int32) < (x_fn + (1 : Int32)) then (41 : Int32) else (x_fn + (1 : Int32))), x_cg, x_cb, x_cB, x_cq, x_vHeld, x_vRed, x_vTal, x_vLis))) F  (52 + (0 : Int32).toNatClampNeg) (nw_bS z05) (x_bS (0 : Int32).toNatClampNeg) (lk_bS z05) (69 + v4.toNatClampNeg) (nw_fV (ixlt i78)) (o23_7.1 v4.toNatClampNeg) (lk_fV (ixlt i78)) (by have := z05; have := (ixlt i78); omega) e79)) rfl rfl rfl (Nat.le_of_ble_eq_true rfl) dF_insert_79 ?_
  refine w_aload_n (pc := 82) (q := 0) G dF_insert_82 rfl rfl ?_
  refine w_get (pc := 83) (v := .ref (κ.1 110)) (fs := fl_F κ (x_added, x_asked, x_eR, x_et, x_oR, x_ot, x_bR, x_bD, x_bQ, x_bW, x_bS, x_bM, x_bT, x_bn, x_tg, x_tb, x_ts, x_fg, x_fb, va_up o23_7.1 v4.toNatClampNeg r79, o23_7.2, (if (41 : Int32) < (x_fn + (1 : Int32)) then (41 : Int32) else (x_fn + (1 : Int32))), x_cg, x_cb, x_cB, x_cq, x_vHeld, x_vRed, x_vTal, x_vLis)) G 66 (by decide) lb_F rfl wsF_ok 3 (by decide) wd97 gf_F_3 dF_insert_83 ?_
  refine w_iload (pc := 86) (q := 3) G dF_insert_86 rfl ?_
  refine w_lload_n (pc := 88) (q := 2) G dF_insert_88 rfl rfl ?_
  obtain ⟨i89, h⟩ := gd_some h
  refine w_last (pc := 89) (n := 41) (f := o23_7.2) (L1 := (LM κ τ (LC κ (x_added, x_asked, x_eR, x_et, x_oR, x_ot, x_bR, x_bD, x_bQ, x_bW, x_bS, x_bM, x_bT, x_bn, x_tg, x_tb, x_ts, x_fg, x_fb, va_up o23_7.1 v4.toNatClampNeg r79, vp_updL o23_7.2 v4.toNatClampNeg v2, (if (41 : Int32) < (x_fn + (1 : Int32)) then (41 : Int32) else (x_fn + (1 : Int32))), x_cg, x_cb, x_cB, x_cq, x_vHeld, x_vRed, x_vTal, x_vLis)))) G 110 (by decide) lk_fS i89 dF_insert_89 up_fS ?_
  obtain rfl := Option.some.inj h
  exact w_vret (pc := 90) G dF_insert_90 Fh
def rm_F_meet : Room := { frames := 3, cells := 0, slots := 0, locals := 116 }
theorem dF_meet_0 : decode cF_meet 0 = .ok (.aload_n 0, 1) := by decide +kernel
theorem dF_meet_1 : decode cF_meet 1 = .ok (.lload_n 2, 1) := by decide +kernel
theorem dF_meet_2 : decode cF_meet 2 = .ok (.invokevirtual 40, 3) := by decide +kernel
theorem dF_meet_5 : decode cF_meet 5 = .ok (.ifCond .ne 4, 3) := by decide +kernel
theorem dF_meet_8 : decode cF_meet 8 = .ok (.return_, 1) := by decide +kernel
theorem dF_meet_9 : decode cF_meet 9 = .ok (.aload_n 0, 1) := by decide +kernel
theorem dF_meet_10 : decode cF_meet 10 = .ok (.getfield 20, 3) := by decide +kernel
theorem dF_meet_13 : decode cF_meet 13 = .ok (.istore 4, 2) := by decide +kernel
theorem dF_meet_15 : decode cF_meet 15 = .ok (.iload 4, 2) := by decide +kernel
theorem dF_meet_17 : decode cF_meet 17 = .ok (.ifCond .le 22, 3) := by decide +kernel
theorem dF_meet_20 : decode cF_meet 20 = .ok (.aload_n 0, 1) := by decide +kernel
theorem dF_meet_21 : decode cF_meet 21 = .ok (.aload_n 1, 1) := by decide +kernel
theorem dF_meet_22 : decode cF_meet 22 = .ok (.lload_n 2, 1) := by decide +kernel
theorem dF_meet_23 : decode cF_meet 23 = .ok (.iload 4, 2) := by decide +kernel
theorem dF_meet_25 : decode cF_meet 25 = .ok (.iconst 1, 1) := by decide +kernel
theorem dF_meet_26 : decode cF_meet 26 = .ok (.isub, 1) := by decide +kernel
theorem dF_meet_27 : decode cF_meet 27 = .ok (.invokevirtual 44, 3) := by decide +kernel
theorem dF_meet_30 : decode cF_meet 30 = .ok (.ifCond .eq 9, 3) := by decide +kernel
theorem dF_meet_33 : decode cF_meet 33 = .ok (.iinc 4 (-1), 3) := by decide +kernel
theorem dF_meet_36 : decode cF_meet 36 = .ok (.goto (-21), 3) := by decide +kernel
theorem dF_meet_39 : decode cF_meet 39 = .ok (.iload 4, 2) := by decide +kernel
theorem dF_meet_41 : decode cF_meet 41 = .ok (.bipush 41, 2) := by decide +kernel
theorem dF_meet_43 : decode cF_meet 43 = .ok (.if_icmp .ge 11, 3) := by decide +kernel
theorem dF_meet_46 : decode cF_meet 46 = .ok (.aload_n 0, 1) := by decide +kernel
theorem dF_meet_47 : decode cF_meet 47 = .ok (.aload_n 1, 1) := by decide +kernel
theorem dF_meet_48 : decode cF_meet 48 = .ok (.lload_n 2, 1) := by decide +kernel
theorem dF_meet_49 : decode cF_meet 49 = .ok (.iload 4, 2) := by decide +kernel
theorem dF_meet_51 : decode cF_meet 51 = .ok (.invokevirtual 48, 3) := by decide +kernel
theorem dF_meet_54 : decode cF_meet 54 = .ok (.aload_n 0, 1) := by decide +kernel
theorem dF_meet_55 : decode cF_meet 55 = .ok (.getfield 20, 3) := by decide +kernel
theorem dF_meet_58 : decode cF_meet 58 = .ok (.bipush 41, 2) := by decide +kernel
theorem dF_meet_60 : decode cF_meet 60 = .ok (.if_icmp .ne 14, 3) := by decide +kernel
theorem dF_meet_63 : decode cF_meet 63 = .ok (.aload_n 0, 1) := by decide +kernel
theorem dF_meet_64 : decode cF_meet 64 = .ok (.aload_n 0, 1) := by decide +kernel
theorem dF_meet_65 : decode cF_meet 65 = .ok (.getfield 16, 3) := by decide +kernel
theorem dF_meet_68 : decode cF_meet 68 = .ok (.bipush 40, 2) := by decide +kernel
theorem dF_meet_70 : decode cF_meet 70 = .ok (.laload, 1) := by decide +kernel
theorem dF_meet_71 : decode cF_meet 71 = .ok (.invokevirtual 32, 3) := by decide +kernel
theorem dF_meet_74 : decode cF_meet 74 = .ok (.return_, 1) := by decide +kernel
theorem cb_K_setBudget_F_F_meet : CB yK_setBudget cK_setBudget 3 none rm_K_setBudget_F rm_F_meet 1 := ⟨wd358, wd4, by decide +kernel, rfl, rfl, by decide⟩
theorem cb_K_wants_F_F_meet : CB yK_wants cK_wants 3 (some .boolean) rm_K_wants_F rm_F_meet 1 := ⟨wd402, wd4, by decide +kernel, rfl, rfl, by decide⟩
theorem cb_F_insert_F_meet : CB yF_insert cF_insert 6 none rm_F_insert rm_F_meet 3 := ⟨wd411, wd6, by decide +kernel, rfl, rfl, by decide⟩
theorem cb_F_precedes_F_meet : CB yF_precedes cF_precedes 5 (some .boolean) rm_F_precedes rm_F_meet 3 := ⟨wd406, wd6, by decide +kernel, rfl, rfl, by decide⟩
noncomputable def lF_meet_15 (F : Nat) (x_bS : Nat → Nat → Int64) (x_fV : Nat → Nat → Int64) (x_fS : Nat → Int64) (v2 : Int64) : Nat → Int32 → Option (Int32)
  | 0, _ => none
  | n + 1, v4 => if v4 ≤ 0 then some (v4) else (F_precedes F x_bS x_fV x_fS v2 (v4 - (1 : Int32))).bind (fun r27 => if r27 = 0 then some (v4) else lF_meet_15 F  x_bS x_fV x_fS v2 n (v4 + (-1)))
set_option maxHeartbeats 8000000 in
set_option maxRecDepth 100000 in
theorem lF_meet_15_ok {g : Gm} {κ : ctx} (G : OK g κ RF cF_meet 5 none rm_F_meet) (τ : MS) (F : Nat) {x_added : Nat → Nat → Int64} {x_asked : Nat → Int64} {x_eR : Nat → Nat → Int64} {x_et : Nat → Int64} {x_oR : Nat → Nat → Int64} {x_ot : Nat → Int64} {x_bR : Nat → Nat → Int64} {x_bD : Nat → Nat → Int64} {x_bQ : Nat → Int64} {x_bW : Nat → Int64} {x_bS : Nat → Nat → Int64} {x_bM : Nat → Nat → Int64} {x_bT : Nat → Int64} {x_bn : Int32} {x_tg : Nat → Int64} {x_tb : Int64} {x_ts : Nat → Int32} {x_fg : Nat → Int64} {x_fb : Int64} {x_fV : Nat → Nat → Int64} {x_fS : Nat → Int64} {x_fn : Int32} {x_cg : Nat → Int64} {x_cb : Int64} {x_cB : Nat → Int64} {x_cq : Int64} {x_vHeld : Int32} {x_vRed : Int32} {x_vTal : Int32} {x_vLis : Int32} (v2 : Int64) : ∀ (n : Nat) (v4 : Int32) (out : Int32), lF_meet_15 F  x_bS x_fV x_fS v2 n v4 = some out → (J g κ 5 39 [(0, .ref (κ.1 66)), (1, .ref (κ.1 (52 + (0 : Int32).toNatClampNeg))), (2, .long v2), (4, .int out)] [] (LM κ τ (LC κ (x_added, x_asked, x_eR, x_et, x_oR, x_ot, x_bR, x_bD, x_bQ, x_bW, x_bS, x_bM, x_bT, x_bn, x_tg, x_tb, x_ts, x_fg, x_fb, x_fV, x_fS, x_fn, x_cg, x_cb, x_cB, x_cq, x_vHeld, x_vRed, x_vTal, x_vLis)))) → J g κ 5 15 [(0, .ref (κ.1 66)), (1, .ref (κ.1 (52 + (0 : Int32).toNatClampNeg))), (2, .long v2), (4, .int v4)] [] (LM κ τ (LC κ (x_added, x_asked, x_eR, x_et, x_oR, x_ot, x_bR, x_bD, x_bQ, x_bW, x_bS, x_bM, x_bT, x_bn, x_tg, x_tb, x_ts, x_fg, x_fb, x_fV, x_fS, x_fn, x_cg, x_cb, x_cB, x_cq, x_vHeld, x_vRed, x_vTal, x_vLis))) := by
  intro n
  induction n with
  | zero =>
    intro v4
    intro out h
    rw [lF_meet_15] at h
    cases h
  | succ n ih =>
    intro v4 out h K
    rw [lF_meet_15] at h
    refine w_iload (pc := 15) (q := 3) G dF_meet_15 rfl ?_
    refine w_if_le (pc := 17) (tgt := 39) G dF_meet_17 (by decide) (fun c17 => ?_) (fun c17 => ?_)
    · have h := if_t c17 h
      obtain rfl := Option.some.inj h
      refine w_sub (lv' := [(0, .ref (κ.1 66)), (1, .ref (κ.1 (52 + (0 : Int32).toNatClampNeg))), (2, .long v2), (4, .int v4)]) [0, 1, 2, 3] rfl ?_
      exact K
    · have h := if_f c17 h
      refine w_aload_n (pc := 20) (q := 0) G dF_meet_20 rfl rfl ?_
      refine w_aload_n (pc := 21) (q := 1) G dF_meet_21 rfl rfl ?_
      refine w_lload_n (pc := 22) (q := 2) G dF_meet_22 rfl rfl ?_
      refine w_iload (pc := 23) (q := 3) G dF_meet_23 rfl ?_
      refine w_iconst (pc := 25) (v := (1 : Int32)) G dF_meet_25 (by decide) ?_
      refine w_isub (pc := 26) G dF_meet_26 ?_
      obtain ⟨r27, e27, h⟩ := bd h
      refine w_callV (pc := 27) (av := [.ref (κ.1 (52 + (0 : Int32).toNatClampNeg)), .long v2, .int (v4 - (1 : Int32))]) (rest := []) (v := some (.int r27)) (L' := (LM κ τ (LC κ (x_added, x_asked, x_eR, x_et, x_oR, x_ot, x_bR, x_bD, x_bQ, x_bW, x_bS, x_bM, x_bT, x_bn, x_tg, x_tb, x_ts, x_fg, x_fb, x_fV, x_fS, x_fn, x_cg, x_cb, x_cB, x_cq, x_vHeld, x_vRed, x_vTal, x_vLis)))) (T := TF) (fs := fl_F κ (x_added, x_asked, x_eR, x_et, x_oR, x_ot, x_bR, x_bD, x_bQ, x_bW, x_bS, x_bM, x_bT, x_bn, x_tg, x_tb, x_ts, x_fg, x_fb, x_fV, x_fS, x_fn, x_cg, x_cb, x_cB, x_cq, x_vHeld, x_vRed, x_vTal, x_vLis)) G 66 5 5 (by decide) lb_F rfl cb_F_precedes_F_meet wd405 ws16 wd403 (met_F_precedes κ τ F v2 (v4 - (1 : Int32))  e27) rfl rfl rfl (Nat.le_of_ble_eq_true rfl) dF_meet_27 ?_
      refine w_if_eq (pc := 30) (tgt := 39) G dF_meet_30 (by decide) (fun c30 => ?_) (fun c30 => ?_)
      · have h := if_t c30 h
        obtain rfl := Option.some.inj h
        refine w_sub (lv' := [(0, .ref (κ.1 66)), (1, .ref (κ.1 (52 + (0 : Int32).toNatClampNeg))), (2, .long v2), (4, .int v4)]) [0, 1, 2, 3] rfl ?_
        exact K
      · have h := if_f c30 h
        refine w_iinc (pc := 33) (q0 := 3) (v := (v4 + (-1))) (lv' := [(4, .int (v4 + (-1))), (0, .ref (κ.1 66)), (1, .ref (κ.1 (52 + (0 : Int32).toNatClampNeg))), (2, .long v2)]) G dF_meet_33 rfl rfl (by decide) rfl ?_
        refine w_goto (pc := 36) (tgt := 15) G dF_meet_36 (by decide) ?_
        refine w_sub (lv' := [(0, .ref (κ.1 66)), (1, .ref (κ.1 (52 + (0 : Int32).toNatClampNeg))), (2, .long v2), (4, .int (v4 + (-1)))]) [1, 2, 3, 0] rfl ?_
        exact ih (v4 + (-1)) out h K
noncomputable def F_meet (F : Nat)  (x_bS : Nat → Nat → Int64) (x_fb : Int64) (x_fV : Nat → Nat → Int64) (x_fS : Nat → Int64) (x_fn : Int32) (v2 : Int64) : Option (Int64 × (Nat → Nat → Int64) × (Nat → Int64) × Int32) := (K_wants F x_fb v2).bind (fun r2 => if r2 = 0 then some (x_fb, x_fV, x_fS, x_fn) else (lF_meet_15 F  x_bS x_fV x_fS v2 F x_fn).bind (fun o15_13 => if (41 : Int32) ≤ o15_13 then if x_fn = (41 : Int32) then gd (vp_in (40 : Int32) 41) ((K_setBudget F x_fb (x_fS (40 : Int32).toNatClampNeg)).bind (fun r71 => some (r71, x_fV, x_fS, x_fn))) else some (x_fb, x_fV, x_fS, x_fn) else (F_insert F x_bS x_fV x_fS x_fn v2 o15_13).bind (fun r51 => if r51.2.2 = (41 : Int32) then gd (vp_in (40 : Int32) 41) ((K_setBudget F x_fb (r51.2.1 (40 : Int32).toNatClampNeg)).bind (fun r71 => some (r71, r51.1, r51.2.1, r51.2.2))) else some (x_fb, r51.1, r51.2.1, r51.2.2))))
set_option maxHeartbeats 8000000 in
set_option maxRecDepth 100000 in
theorem met_F_meet (κ : ctx) (τ : MS) (F : Nat) {x_added : Nat → Nat → Int64} {x_asked : Nat → Int64} {x_eR : Nat → Nat → Int64} {x_et : Nat → Int64} {x_oR : Nat → Nat → Int64} {x_ot : Nat → Int64} {x_bR : Nat → Nat → Int64} {x_bD : Nat → Nat → Int64} {x_bQ : Nat → Int64} {x_bW : Nat → Int64} {x_bS : Nat → Nat → Int64} {x_bM : Nat → Nat → Int64} {x_bT : Nat → Int64} {x_bn : Int32} {x_tg : Nat → Int64} {x_tb : Int64} {x_ts : Nat → Int32} {x_fg : Nat → Int64} {x_fb : Int64} {x_fV : Nat → Nat → Int64} {x_fS : Nat → Int64} {x_fn : Int32} {x_cg : Nat → Int64} {x_cb : Int64} {x_cB : Nat → Int64} {x_cq : Int64} {x_vHeld : Int32} {x_vRed : Int32} {x_vTal : Int32} {x_vLis : Int32} (v2 : Int64) {out : Int64 × (Nat → Nat → Int64) × (Nat → Int64) × Int32} (h : F_meet F  x_bS x_fb x_fV x_fS x_fn v2 = some out) : Mt yF_meet cF_meet 5 none rm_F_meet κ [.ref (κ.1 66), .ref (κ.1 (52 + (0 : Int32).toNatClampNeg)), .long v2] (LM κ τ (LC κ (x_added, x_asked, x_eR, x_et, x_oR, x_ot, x_bR, x_bD, x_bQ, x_bW, x_bS, x_bM, x_bT, x_bn, x_tg, x_tb, x_ts, x_fg, x_fb, x_fV, x_fS, x_fn, x_cg, x_cb, x_cB, x_cq, x_vHeld, x_vRed, x_vTal, x_vLis))) none (LM κ τ (LC κ (x_added, x_asked, x_eR, x_et, x_oR, x_ot, x_bR, x_bD, x_bQ, x_bW, x_bS, x_bM, x_bT, x_bn, x_tg, x_tb, x_ts, x_fg, out.1, out.2.1, out.2.2.1, out.2.2.2, x_cg, x_cb, x_cB, x_cq, x_vHeld, x_vRed, x_vTal, x_vLis))) := by
  refine Mt.of (by decide) (Nat.le_of_ble_eq_true rfl) ?_
  intro g G Fh
  unfold F_meet at h
  show J g κ 5 0 [(0, .ref (κ.1 66)), (1, .ref (κ.1 (52 + (0 : Int32).toNatClampNeg))), (2, .long v2)] [] (LM κ τ (LC κ (x_added, x_asked, x_eR, x_et, x_oR, x_ot, x_bR, x_bD, x_bQ, x_bW, x_bS, x_bM, x_bT, x_bn, x_tg, x_tb, x_ts, x_fg, x_fb, x_fV, x_fS, x_fn, x_cg, x_cb, x_cB, x_cq, x_vHeld, x_vRed, x_vTal, x_vLis)))
  refine w_aload_n (pc := 0) (q := 0) G dF_meet_0 rfl rfl ?_
  refine w_lload_n (pc := 1) (q := 2) G dF_meet_1 rfl rfl ?_
  obtain ⟨r2, e2, h⟩ := bd h
  refine w_callU (pc := 2) (av := [.long v2]) (rest := []) (v := some (.int r2)) (L' := (LM κ τ (LC κ (x_added, x_asked, x_eR, x_et, x_oR, x_ot, x_bR, x_bD, x_bQ, x_bW, x_bS, x_bM, x_bT, x_bn, x_tg, x_tb, x_ts, x_fg, x_fb, x_fV, x_fS, x_fn, x_cg, x_cb, x_cB, x_cq, x_vHeld, x_vRed, x_vTal, x_vLis)))) (T := TF) (fs := fl_F κ (x_added, x_asked, x_eR, x_et, x_oR, x_ot, x_bR, x_bD, x_bQ, x_bW, x_bS, x_bM, x_bT, x_bn, x_tg, x_tb, x_ts, x_fg, x_fb, x_fV, x_fS, x_fn, x_cg, x_cb, x_cB, x_cq, x_vHeld, x_vRed, x_vTal, x_vLis)) G 66 5 5 (by decide) lb_F rfl cb_K_wants_F_F_meet wd397 wd398 wd400 wd401 wd399 (by decide) rfl (met_K_wants_F κ τ F v2  e2) rfl rfl rfl (Nat.le_of_ble_eq_true rfl) dF_meet_2 ?_
  refine w_if_ne (pc := 5) (tgt := 9) G dF_meet_5 (by decide) (fun c5 => ?_) (fun c5 => ?_)
  · have h := if_t c5 h
    obtain rfl := Option.some.inj h
    exact w_vret (pc := 8) G dF_meet_8 Fh
  · have h := if_f c5 h
    refine w_aload_n (pc := 9) (q := 0) G dF_meet_9 rfl rfl ?_
    refine w_get (pc := 10) (v := .int x_fn) (fs := fl_F κ (x_added, x_asked, x_eR, x_et, x_oR, x_ot, x_bR, x_bD, x_bQ, x_bW, x_bS, x_bM, x_bT, x_bn, x_tg, x_tb, x_ts, x_fg, x_fb, x_fV, x_fS, x_fn, x_cg, x_cb, x_cB, x_cq, x_vHeld, x_vRed, x_vTal, x_vLis)) G 66 (by decide) lb_F rfl wsF_ok 4 (by decide) wd98 gf_F_4 dF_meet_10 ?_
    refine w_istore (pc := 13) (lv' := [(4, .int x_fn), (0, .ref (κ.1 66)), (1, .ref (κ.1 (52 + (0 : Int32).toNatClampNeg))), (2, .long v2)]) G dF_meet_13 (by decide) rfl ?_
    refine w_sub (lv' := [(0, .ref (κ.1 66)), (1, .ref (κ.1 (52 + (0 : Int32).toNatClampNeg))), (2, .long v2), (4, .int x_fn)]) [1, 2, 3, 0] rfl ?_
    obtain ⟨o15_13, eo15_13, h⟩ := bd h
    refine lF_meet_15_ok G τ F  v2 F x_fn o15_13 eo15_13 ?_
    refine w_iload (pc := 39) (q := 3) G dF_meet_39 rfl ?_
    refine w_bipush (pc := 41) (v := (41 : Int32)) G dF_meet_41 (by decide) ?_
    refine w_icmp_ge (pc := 43) (tgt := 54) G dF_meet_43 (by decide) (fun c43 => ?_) (fun c43 => ?_)
    · have h := if_t c43 h
      refine w_aload_n (pc := 54) (q := 0) G dF_meet_54 rfl rfl ?_
      refine w_get (pc := 55) (v := .int x_fn) (fs := fl_F κ (x_added, x_asked, x_eR, x_et, x_oR, x_ot, x_bR, x_bD, x_bQ, x_bW, x_bS, x_bM, x_bT, x_bn, x_tg, x_tb, x_ts, x_fg, x_fb, x_fV, x_fS, x_fn, x_cg, x_cb, x_cB, x_cq, x_vHeld, x_vRed, x_vTal, x_vLis)) G 66 (by decide) lb_F rfl wsF_ok 4 (by decide) wd98 gf_F_4 dF_meet_55 ?_
      refine w_bipush (pc := 58) (v := (41 : Int32)) G dF_meet_58 (by decide) ?_
      refine w_icmp_ne (pc := 60) (tgt := 74) G dF_meet_60 (by decide) (fun c60 => ?_) (fun c60 => ?_)
      · have h := if_t c60 h
        refine w_aload_n (pc := 63) (q := 0) G dF_meet_63 rfl rfl ?_
        refine w_aload_n (pc := 64) (q := 0) G dF_meet_64 rfl rfl ?_
        refine w_get (pc := 65) (v := .ref (κ.1 110)) (fs := fl_F κ (x_added, x_asked, x_eR, x_et, x_oR, x_ot, x_bR, x_bD, x_bQ, x_bW, x_bS, x_bM, x_bT, x_bn, x_tg, x_tb, x_ts, x_fg, x_fb, x_fV, x_fS, x_fn, x_cg, x_cb, x_cB, x_cq, x_vHeld, x_vRed, x_vTal, x_vLis)) G 66 (by decide) lb_F rfl wsF_ok 3 (by decide) wd97 gf_F_3 dF_meet_65 ?_
        refine w_bipush (pc := 68) (v := (40 : Int32)) G dF_meet_68 (by decide) ?_
        obtain ⟨i70, h⟩ := gd_some h
        refine w_lald (pc := 70) (n := 41) (f := x_fS) G 110 (by decide) lk_fS i70 dF_meet_70 ?_
        obtain ⟨r71, e71, h⟩ := bd h
        refine w_callU (pc := 71) (av := [.long (x_fS (40 : Int32).toNatClampNeg)]) (rest := []) (v := none) (L' := (LM κ τ (LC κ (x_added, x_asked, x_eR, x_et, x_oR, x_ot, x_bR, x_bD, x_bQ, x_bW, x_bS, x_bM, x_bT, x_bn, x_tg, x_tb, x_ts, x_fg, r71, x_fV, x_fS, x_fn, x_cg, x_cb, x_cB, x_cq, x_vHeld, x_vRed, x_vTal, x_vLis)))) (T := TF) (fs := fl_F κ (x_added, x_asked, x_eR, x_et, x_oR, x_ot, x_bR, x_bD, x_bQ, x_bW, x_bS, x_bM, x_bT, x_bn, x_tg, x_tb, x_ts, x_fg, x_fb, x_fV, x_fS, x_fn, x_cg, x_cb, x_cB, x_cq, x_vHeld, x_vRed, x_vTal, x_vLis)) G 66 5 5 (by decide) lb_F rfl cb_K_setBudget_F_F_meet wd416 wd417 wd418 wd357 wd355 (by decide) rfl (met_K_setBudget_F κ τ F (x_fS (40 : Int32).toNatClampNeg)  e71) rfl rfl rfl (Nat.le_of_ble_eq_true rfl) dF_meet_71 ?_
        obtain rfl := Option.some.inj h
        exact w_vret (pc := 74) G dF_meet_74 Fh
      · have h := if_f c60 h
        obtain rfl := Option.some.inj h
        exact w_vret (pc := 74) G dF_meet_74 Fh
    · have h := if_f c43 h
      refine w_aload_n (pc := 46) (q := 0) G dF_meet_46 rfl rfl ?_
      refine w_aload_n (pc := 47) (q := 1) G dF_meet_47 rfl rfl ?_
      refine w_lload_n (pc := 48) (q := 2) G dF_meet_48 rfl rfl ?_
      refine w_iload (pc := 49) (q := 3) G dF_meet_49 rfl ?_
      obtain ⟨r51, e51, h⟩ := bd h
      refine w_callV (pc := 51) (av := [.ref (κ.1 (52 + (0 : Int32).toNatClampNeg)), .long v2, .int o15_13]) (rest := []) (v := none) (L' := (LM κ τ (LC κ (x_added, x_asked, x_eR, x_et, x_oR, x_ot, x_bR, x_bD, x_bQ, x_bW, x_bS, x_bM, x_bT, x_bn, x_tg, x_tb, x_ts, x_fg, x_fb, r51.1, r51.2.1, r51.2.2, x_cg, x_cb, x_cB, x_cq, x_vHeld, x_vRed, x_vTal, x_vLis)))) (T := TF) (fs := fl_F κ (x_added, x_asked, x_eR, x_et, x_oR, x_ot, x_bR, x_bD, x_bQ, x_bW, x_bS, x_bM, x_bT, x_bn, x_tg, x_tb, x_ts, x_fg, x_fb, x_fV, x_fS, x_fn, x_cg, x_cb, x_cB, x_cq, x_vHeld, x_vRed, x_vTal, x_vLis)) G 66 5 5 (by decide) lb_F rfl cb_F_insert_F_meet wd410 ws17 wd408 (met_F_insert κ τ F v2 o15_13  e51) rfl rfl rfl (Nat.le_of_ble_eq_true rfl) dF_meet_51 ?_
      refine w_aload_n (pc := 54) (q := 0) G dF_meet_54 rfl rfl ?_
      refine w_get (pc := 55) (v := .int r51.2.2) (fs := fl_F κ (x_added, x_asked, x_eR, x_et, x_oR, x_ot, x_bR, x_bD, x_bQ, x_bW, x_bS, x_bM, x_bT, x_bn, x_tg, x_tb, x_ts, x_fg, x_fb, r51.1, r51.2.1, r51.2.2, x_cg, x_cb, x_cB, x_cq, x_vHeld, x_vRed, x_vTal, x_vLis)) G 66 (by decide) lb_F rfl wsF_ok 4 (by decide) wd98 gf_F_4 dF_meet_55 ?_
      refine w_bipush (pc := 58) (v := (41 : Int32)) G dF_meet_58 (by decide) ?_
      refine w_icmp_ne (pc := 60) (tgt := 74) G dF_meet_60 (by decide) (fun c60 => ?_) (fun c60 => ?_)
      · have h := if_t c60 h
        refine w_aload_n (pc := 63) (q := 0) G dF_meet_63 rfl rfl ?_
        refine w_aload_n (pc := 64) (q := 0) G dF_meet_64 rfl rfl ?_
        refine w_get (pc := 65) (v := .ref (κ.1 110)) (fs := fl_F κ (x_added, x_asked, x_eR, x_et, x_oR, x_ot, x_bR, x_bD, x_bQ, x_bW, x_bS, x_bM, x_bT, x_bn, x_tg, x_tb, x_ts, x_fg, x_fb, r51.1, r51.2.1, r51.2.2, x_cg, x_cb, x_cB, x_cq, x_vHeld, x_vRed, x_vTal, x_vLis)) G 66 (by decide) lb_F rfl wsF_ok 3 (by decide) wd97 gf_F_3 dF_meet_65 ?_
        refine w_bipush (pc := 68) (v := (40 : Int32)) G dF_meet_68 (by decide) ?_
        obtain ⟨i70, h⟩ := gd_some h
        refine w_lald (pc := 70) (n := 41) (f := r51.2.1) G 110 (by decide) lk_fS i70 dF_meet_70 ?_
        obtain ⟨r71, e71, h⟩ := bd h
        refine w_callU (pc := 71) (av := [.long (r51.2.1 (40 : Int32).toNatClampNeg)]) (rest := []) (v := none) (L' := (LM κ τ (LC κ (x_added, x_asked, x_eR, x_et, x_oR, x_ot, x_bR, x_bD, x_bQ, x_bW, x_bS, x_bM, x_bT, x_bn, x_tg, x_tb, x_ts, x_fg, r71, r51.1, r51.2.1, r51.2.2, x_cg, x_cb, x_cB, x_cq, x_vHeld, x_vRed, x_vTal, x_vLis)))) (T := TF) (fs := fl_F κ (x_added, x_asked, x_eR, x_et, x_oR, x_ot, x_bR, x_bD, x_bQ, x_bW, x_bS, x_bM, x_bT, x_bn, x_tg, x_tb, x_ts, x_fg, x_fb, r51.1, r51.2.1, r51.2.2, x_cg, x_cb, x_cB, x_cq, x_vHeld, x_vRed, x_vTal, x_vLis)) G 66 5 5 (by decide) lb_F rfl cb_K_setBudget_F_F_meet wd416 wd417 wd418 wd357 wd355 (by decide) rfl (met_K_setBudget_F κ τ F (r51.2.1 (40 : Int32).toNatClampNeg)  e71) rfl rfl rfl (Nat.le_of_ble_eq_true rfl) dF_meet_71 ?_
        obtain rfl := Option.some.inj h
        exact w_vret (pc := 74) G dF_meet_74 Fh
      · have h := if_f c60 h
        obtain rfl := Option.some.inj h
        exact w_vret (pc := 74) G dF_meet_74 Fh
def rm_C_leastSquare : Room := { frames := 0, cells := 0, slots := 0, locals := 0 }
theorem dC_leastSquare_0 : decode cC_leastSquare 0 = .ok (.aload_n 0, 1) := by decide +kernel
theorem dC_leastSquare_1 : decode cC_leastSquare 1 = .ok (.getfield 39, 3) := by decide +kernel
theorem dC_leastSquare_4 : decode cC_leastSquare 4 = .ok (.l2i, 1) := by decide +kernel
theorem dC_leastSquare_5 : decode cC_leastSquare 5 = .ok (.ireturn, 1) := by decide +kernel
noncomputable def C_leastSquare (F : Nat)  (x_cq : Int64)  : Option (Int32) := some x_cq.toInt32
set_option maxHeartbeats 8000000 in
set_option maxRecDepth 100000 in
theorem met_C_leastSquare (κ : ctx) (τ : MS) (F : Nat) {x_added : Nat → Nat → Int64} {x_asked : Nat → Int64} {x_eR : Nat → Nat → Int64} {x_et : Nat → Int64} {x_oR : Nat → Nat → Int64} {x_ot : Nat → Int64} {x_bR : Nat → Nat → Int64} {x_bD : Nat → Nat → Int64} {x_bQ : Nat → Int64} {x_bW : Nat → Int64} {x_bS : Nat → Nat → Int64} {x_bM : Nat → Nat → Int64} {x_bT : Nat → Int64} {x_bn : Int32} {x_tg : Nat → Int64} {x_tb : Int64} {x_ts : Nat → Int32} {x_fg : Nat → Int64} {x_fb : Int64} {x_fV : Nat → Nat → Int64} {x_fS : Nat → Int64} {x_fn : Int32} {x_cg : Nat → Int64} {x_cb : Int64} {x_cB : Nat → Int64} {x_cq : Int64} {x_vHeld : Int32} {x_vRed : Int32} {x_vTal : Int32} {x_vLis : Int32}  {out : Int32} (h : C_leastSquare F  x_cq  = some out) : Mt yC_leastSquare cC_leastSquare 1 (some .int) rm_C_leastSquare κ [.ref (κ.1 111)] (LM κ τ (LC κ (x_added, x_asked, x_eR, x_et, x_oR, x_ot, x_bR, x_bD, x_bQ, x_bW, x_bS, x_bM, x_bT, x_bn, x_tg, x_tb, x_ts, x_fg, x_fb, x_fV, x_fS, x_fn, x_cg, x_cb, x_cB, x_cq, x_vHeld, x_vRed, x_vTal, x_vLis))) (some (.int out)) (LM κ τ (LC κ (x_added, x_asked, x_eR, x_et, x_oR, x_ot, x_bR, x_bD, x_bQ, x_bW, x_bS, x_bM, x_bT, x_bn, x_tg, x_tb, x_ts, x_fg, x_fb, x_fV, x_fS, x_fn, x_cg, x_cb, x_cB, x_cq, x_vHeld, x_vRed, x_vTal, x_vLis))) := by
  refine Mt.of (by decide) (Nat.le_of_ble_eq_true rfl) ?_
  intro g G Fh
  unfold C_leastSquare at h
  show J g κ 1 0 [(0, .ref (κ.1 111))] [] (LM κ τ (LC κ (x_added, x_asked, x_eR, x_et, x_oR, x_ot, x_bR, x_bD, x_bQ, x_bW, x_bS, x_bM, x_bT, x_bn, x_tg, x_tb, x_ts, x_fg, x_fb, x_fV, x_fS, x_fn, x_cg, x_cb, x_cB, x_cq, x_vHeld, x_vRed, x_vTal, x_vLis)))
  refine w_aload_n (pc := 0) (q := 0) G dC_leastSquare_0 rfl rfl ?_
  refine w_get (pc := 1) (v := .long x_cq) (fs := fl_C κ (x_added, x_asked, x_eR, x_et, x_oR, x_ot, x_bR, x_bD, x_bQ, x_bW, x_bS, x_bM, x_bT, x_bn, x_tg, x_tb, x_ts, x_fg, x_fb, x_fV, x_fS, x_fn, x_cg, x_cb, x_cB, x_cq, x_vHeld, x_vRed, x_vTal, x_vLis)) G 111 (by decide) lb_C rfl wsC_ok 3 (by decide) wd115 gf_C_3 dC_leastSquare_1 ?_
  refine w_l2i (pc := 4) G dC_leastSquare_4 ?_
  obtain rfl := Option.some.inj h
  exact w_iret (pc := 5) G dC_leastSquare_5 Fh
def rm_C_coordinate : Room := { frames := 1, cells := 0, slots := 0, locals := 20 }
theorem dC_coordinate_0 : decode cC_coordinate 0 = .ok (.aload_n 0, 1) := by decide +kernel
theorem dC_coordinate_1 : decode cC_coordinate 1 = .ok (.invokevirtual 15, 3) := by decide +kernel
theorem dC_coordinate_4 : decode cC_coordinate 4 = .ok (.iload_n 1, 1) := by decide +kernel
theorem dC_coordinate_5 : decode cC_coordinate 5 = .ok (.laload, 1) := by decide +kernel
theorem dC_coordinate_6 : decode cC_coordinate 6 = .ok (.aload_n 0, 1) := by decide +kernel
theorem dC_coordinate_7 : decode cC_coordinate 7 = .ok (.getfield 9, 3) := by decide +kernel
theorem dC_coordinate_10 : decode cC_coordinate 10 = .ok (.iload_n 1, 1) := by decide +kernel
theorem dC_coordinate_11 : decode cC_coordinate 11 = .ok (.laload, 1) := by decide +kernel
theorem dC_coordinate_12 : decode cC_coordinate 12 = .ok (.ladd, 1) := by decide +kernel
theorem dC_coordinate_13 : decode cC_coordinate 13 = .ok (.l2i, 1) := by decide +kernel
theorem dC_coordinate_14 : decode cC_coordinate 14 = .ok (.ireturn, 1) := by decide +kernel
theorem cb_K_goal_C_C_coordinate : CB yK_goal cK_goal 1 (some (.array .long)) rm_K_goal_C rm_C_coordinate 0 := ⟨wd370, wd4, by decide +kernel, rfl, rfl, by decide⟩
noncomputable def C_coordinate (F : Nat)  (x_cg : Nat → Int64) (x_cB : Nat → Int64) (v1 : Int32) : Option (Int32) := (K_goal F  ).bind (fun r1 => gd (vp_in v1 4) (gd (vp_in v1 4) (some (((x_cg v1.toNatClampNeg) + (x_cB v1.toNatClampNeg)).toInt32))))
set_option maxHeartbeats 8000000 in
set_option maxRecDepth 100000 in
theorem met_C_coordinate (κ : ctx) (τ : MS) (F : Nat) {x_added : Nat → Nat → Int64} {x_asked : Nat → Int64} {x_eR : Nat → Nat → Int64} {x_et : Nat → Int64} {x_oR : Nat → Nat → Int64} {x_ot : Nat → Int64} {x_bR : Nat → Nat → Int64} {x_bD : Nat → Nat → Int64} {x_bQ : Nat → Int64} {x_bW : Nat → Int64} {x_bS : Nat → Nat → Int64} {x_bM : Nat → Nat → Int64} {x_bT : Nat → Int64} {x_bn : Int32} {x_tg : Nat → Int64} {x_tb : Int64} {x_ts : Nat → Int32} {x_fg : Nat → Int64} {x_fb : Int64} {x_fV : Nat → Nat → Int64} {x_fS : Nat → Int64} {x_fn : Int32} {x_cg : Nat → Int64} {x_cb : Int64} {x_cB : Nat → Int64} {x_cq : Int64} {x_vHeld : Int32} {x_vRed : Int32} {x_vTal : Int32} {x_vLis : Int32} (v1 : Int32) {out : Int32} (h : C_coordinate F  x_cg x_cB v1 = some out) : Mt yC_coordinate cC_coordinate 2 (some .int) rm_C_coordinate κ [.ref (κ.1 111), .int v1] (LM κ τ (LC κ (x_added, x_asked, x_eR, x_et, x_oR, x_ot, x_bR, x_bD, x_bQ, x_bW, x_bS, x_bM, x_bT, x_bn, x_tg, x_tb, x_ts, x_fg, x_fb, x_fV, x_fS, x_fn, x_cg, x_cb, x_cB, x_cq, x_vHeld, x_vRed, x_vTal, x_vLis))) (some (.int out)) (LM κ τ (LC κ (x_added, x_asked, x_eR, x_et, x_oR, x_ot, x_bR, x_bD, x_bQ, x_bW, x_bS, x_bM, x_bT, x_bn, x_tg, x_tb, x_ts, x_fg, x_fb, x_fV, x_fS, x_fn, x_cg, x_cb, x_cB, x_cq, x_vHeld, x_vRed, x_vTal, x_vLis))) := by
  refine Mt.of (by decide) (Nat.le_of_ble_eq_true rfl) ?_
  intro g G Fh
  unfold C_coordinate at h
  show J g κ 2 0 [(0, .ref (κ.1 111)), (1, .int v1)] [] (LM κ τ (LC κ (x_added, x_asked, x_eR, x_et, x_oR, x_ot, x_bR, x_bD, x_bQ, x_bW, x_bS, x_bM, x_bT, x_bn, x_tg, x_tb, x_ts, x_fg, x_fb, x_fV, x_fS, x_fn, x_cg, x_cb, x_cB, x_cq, x_vHeld, x_vRed, x_vTal, x_vLis)))
  refine w_aload_n (pc := 0) (q := 0) G dC_coordinate_0 rfl rfl ?_
  obtain ⟨r1, e1, h⟩ := bd h
  refine w_callU (pc := 1) (av := []) (rest := []) (v := some (.ref (κ.1 112))) (L' := (LM κ τ (LC κ (x_added, x_asked, x_eR, x_et, x_oR, x_ot, x_bR, x_bD, x_bQ, x_bW, x_bS, x_bM, x_bT, x_bn, x_tg, x_tb, x_ts, x_fg, x_fb, x_fV, x_fS, x_fn, x_cg, x_cb, x_cB, x_cq, x_vHeld, x_vRed, x_vTal, x_vLis)))) (T := TC) (fs := fl_C κ (x_added, x_asked, x_eR, x_et, x_oR, x_ot, x_bR, x_bD, x_bQ, x_bW, x_bS, x_bM, x_bT, x_bn, x_tg, x_tb, x_ts, x_fg, x_fb, x_fV, x_fS, x_fn, x_cg, x_cb, x_cB, x_cq, x_vHeld, x_vRed, x_vTal, x_vLis)) G 111 6 4 (by decide) lb_C rfl cb_K_goal_C_C_coordinate wd463 wd464 wd466 wd365 wd465 (by decide) rfl (met_K_goal_C κ τ F   e1) rfl rfl rfl (Nat.le_of_ble_eq_true rfl) dC_coordinate_1 ?_
  refine w_iload_n (pc := 4) (q := 1) G dC_coordinate_4 rfl rfl ?_
  obtain ⟨i5, h⟩ := gd_some h
  refine w_lald (pc := 5) (n := 4) (f := x_cg) G 112 (by decide) lk_cg i5 dC_coordinate_5 ?_
  refine w_aload_n (pc := 6) (q := 0) G dC_coordinate_6 rfl rfl ?_
  refine w_get (pc := 7) (v := .ref (κ.1 113)) (fs := fl_C κ (x_added, x_asked, x_eR, x_et, x_oR, x_ot, x_bR, x_bD, x_bQ, x_bW, x_bS, x_bM, x_bT, x_bn, x_tg, x_tb, x_ts, x_fg, x_fb, x_fV, x_fS, x_fn, x_cg, x_cb, x_cB, x_cq, x_vHeld, x_vRed, x_vTal, x_vLis)) G 111 (by decide) lb_C rfl wsC_ok 2 (by decide) wd114 gf_C_2 dC_coordinate_7 ?_
  refine w_iload_n (pc := 10) (q := 1) G dC_coordinate_10 rfl rfl ?_
  obtain ⟨i11, h⟩ := gd_some h
  refine w_lald (pc := 11) (n := 4) (f := x_cB) G 113 (by decide) lk_cB i11 dC_coordinate_11 ?_
  refine w_ladd (pc := 12) G dC_coordinate_12 ?_
  refine w_l2i (pc := 13) G dC_coordinate_13 ?_
  obtain rfl := Option.some.inj h
  exact w_iret (pc := 14) G dC_coordinate_14 Fh
def rm_C_meet : Room := { frames := 2, cells := 0, slots := 0, locals := 91 }
theorem dC_meet_0 : decode cC_meet 0 = .ok (.lload_n 2, 1) := by decide +kernel
theorem dC_meet_1 : decode cC_meet 1 = .ok (.aload_n 0, 1) := by decide +kernel
theorem dC_meet_2 : decode cC_meet 2 = .ok (.getfield 39, 3) := by decide +kernel
theorem dC_meet_5 : decode cC_meet 5 = .ok (.lcmp, 1) := by decide +kernel
theorem dC_meet_6 : decode cC_meet 6 = .ok (.ifCond .lt 23, 3) := by decide +kernel
theorem dC_meet_9 : decode cC_meet 9 = .ok (.lload_n 2, 1) := by decide +kernel
theorem dC_meet_10 : decode cC_meet 10 = .ok (.aload_n 0, 1) := by decide +kernel
theorem dC_meet_11 : decode cC_meet 11 = .ok (.getfield 39, 3) := by decide +kernel
theorem dC_meet_14 : decode cC_meet 14 = .ok (.lcmp, 1) := by decide +kernel
theorem dC_meet_15 : decode cC_meet 15 = .ok (.ifCond .ne 32, 3) := by decide +kernel
theorem dC_meet_18 : decode cC_meet 18 = .ok (.aload_n 1, 1) := by decide +kernel
theorem dC_meet_19 : decode cC_meet 19 = .ok (.aload_n 0, 1) := by decide +kernel
theorem dC_meet_20 : decode cC_meet 20 = .ok (.getfield 9, 3) := by decide +kernel
theorem dC_meet_23 : decode cC_meet 23 = .ok (.invokestatic 53, 3) := by decide +kernel
theorem dC_meet_26 : decode cC_meet 26 = .ok (.ifCond .eq 21, 3) := by decide +kernel
theorem dC_meet_29 : decode cC_meet 29 = .ok (.aload_n 1, 1) := by decide +kernel
theorem dC_meet_30 : decode cC_meet 30 = .ok (.aload_n 0, 1) := by decide +kernel
theorem dC_meet_31 : decode cC_meet 31 = .ok (.getfield 9, 3) := by decide +kernel
theorem dC_meet_34 : decode cC_meet 34 = .ok (.invokestatic 19, 3) := by decide +kernel
theorem dC_meet_37 : decode cC_meet 37 = .ok (.aload_n 0, 1) := by decide +kernel
theorem dC_meet_38 : decode cC_meet 38 = .ok (.lload_n 2, 1) := by decide +kernel
theorem dC_meet_39 : decode cC_meet 39 = .ok (.putfield 39, 3) := by decide +kernel
theorem dC_meet_42 : decode cC_meet 42 = .ok (.aload_n 0, 1) := by decide +kernel
theorem dC_meet_43 : decode cC_meet 43 = .ok (.lload_n 2, 1) := by decide +kernel
theorem dC_meet_44 : decode cC_meet 44 = .ok (.invokevirtual 43, 3) := by decide +kernel
theorem dC_meet_47 : decode cC_meet 47 = .ok (.return_, 1) := by decide +kernel
theorem cb_V_comesBefore_C_meet : CB yV_comesBefore cV_comesBefore 3 (some .boolean) rm_V_comesBefore rm_C_meet 2 := ⟨wd389, wd1, by decide +kernel, rfl, rfl, by decide⟩
theorem cb_V_copy_C_meet : CB yV_copy cV_copy 2 none rm_V_copy rm_C_meet 2 := ⟨wd170, wd1, by decide +kernel, rfl, rfl, by decide⟩
theorem cb_K_setBudget_C_C_meet : CB yK_setBudget cK_setBudget 3 none rm_K_setBudget_C rm_C_meet 1 := ⟨wd358, wd4, by decide +kernel, rfl, rfl, by decide⟩
noncomputable def C_meet (F : Nat)  (x_bS : Nat → Nat → Int64) (x_cb : Int64) (x_cB : Nat → Int64) (x_cq : Int64) (v2 : Int64) : Option (Int64 × (Nat → Int64) × Int64) := if v2 < x_cq then (V_copy F (x_bS (0 : Int32).toNatClampNeg) x_cB ).bind (fun r34 => (K_setBudget F x_cb v2).bind (fun r44 => some (r44, r34, v2))) else if v2 = x_cq then (V_comesBefore F (x_bS (0 : Int32).toNatClampNeg) x_cB ).bind (fun r23 => if r23 = 0 then some (x_cb, x_cB, x_cq) else (V_copy F (x_bS (0 : Int32).toNatClampNeg) x_cB ).bind (fun r34 => (K_setBudget F x_cb v2).bind (fun r44 => some (r44, r34, v2)))) else some (x_cb, x_cB, x_cq)
set_option maxHeartbeats 8000000 in
set_option maxRecDepth 100000 in
theorem met_C_meet (κ : ctx) (τ : MS) (F : Nat) {x_added : Nat → Nat → Int64} {x_asked : Nat → Int64} {x_eR : Nat → Nat → Int64} {x_et : Nat → Int64} {x_oR : Nat → Nat → Int64} {x_ot : Nat → Int64} {x_bR : Nat → Nat → Int64} {x_bD : Nat → Nat → Int64} {x_bQ : Nat → Int64} {x_bW : Nat → Int64} {x_bS : Nat → Nat → Int64} {x_bM : Nat → Nat → Int64} {x_bT : Nat → Int64} {x_bn : Int32} {x_tg : Nat → Int64} {x_tb : Int64} {x_ts : Nat → Int32} {x_fg : Nat → Int64} {x_fb : Int64} {x_fV : Nat → Nat → Int64} {x_fS : Nat → Int64} {x_fn : Int32} {x_cg : Nat → Int64} {x_cb : Int64} {x_cB : Nat → Int64} {x_cq : Int64} {x_vHeld : Int32} {x_vRed : Int32} {x_vTal : Int32} {x_vLis : Int32} (v2 : Int64) {out : Int64 × (Nat → Int64) × Int64} (h : C_meet F  x_bS x_cb x_cB x_cq v2 = some out) : Mt yC_meet cC_meet 4 none rm_C_meet κ [.ref (κ.1 111), .ref (κ.1 (52 + (0 : Int32).toNatClampNeg)), .long v2] (LM κ τ (LC κ (x_added, x_asked, x_eR, x_et, x_oR, x_ot, x_bR, x_bD, x_bQ, x_bW, x_bS, x_bM, x_bT, x_bn, x_tg, x_tb, x_ts, x_fg, x_fb, x_fV, x_fS, x_fn, x_cg, x_cb, x_cB, x_cq, x_vHeld, x_vRed, x_vTal, x_vLis))) none (LM κ τ (LC κ (x_added, x_asked, x_eR, x_et, x_oR, x_ot, x_bR, x_bD, x_bQ, x_bW, x_bS, x_bM, x_bT, x_bn, x_tg, x_tb, x_ts, x_fg, x_fb, x_fV, x_fS, x_fn, x_cg, out.1, out.2.1, out.2.2, x_vHeld, x_vRed, x_vTal, x_vLis))) := by
  refine Mt.of (by decide) (Nat.le_of_ble_eq_true rfl) ?_
  intro g G Fh
  unfold C_meet at h
  show J g κ 4 0 [(0, .ref (κ.1 111)), (1, .ref (κ.1 (52 + (0 : Int32).toNatClampNeg))), (2, .long v2)] [] (LM κ τ (LC κ (x_added, x_asked, x_eR, x_et, x_oR, x_ot, x_bR, x_bD, x_bQ, x_bW, x_bS, x_bM, x_bT, x_bn, x_tg, x_tb, x_ts, x_fg, x_fb, x_fV, x_fS, x_fn, x_cg, x_cb, x_cB, x_cq, x_vHeld, x_vRed, x_vTal, x_vLis)))
  refine w_lload_n (pc := 0) (q := 2) G dC_meet_0 rfl rfl ?_
  refine w_aload_n (pc := 1) (q := 0) G dC_meet_1 rfl rfl ?_
  refine w_get (pc := 2) (v := .long x_cq) (fs := fl_C κ (x_added, x_asked, x_eR, x_et, x_oR, x_ot, x_bR, x_bD, x_bQ, x_bW, x_bS, x_bM, x_bT, x_bn, x_tg, x_tb, x_ts, x_fg, x_fb, x_fV, x_fS, x_fn, x_cg, x_cb, x_cB, x_cq, x_vHeld, x_vRed, x_vTal, x_vLis)) G 111 (by decide) lb_C rfl wsC_ok 3 (by decide) wd115 gf_C_3 dC_meet_2 ?_
  refine w_lc_lt (pc := 5) (tgt := 29) G dC_meet_5 dC_meet_6 (by decide) (fun c5 => ?_) (fun c5 => ?_)
  · have h := if_t c5 h
    refine w_aload_n (pc := 29) (q := 1) G dC_meet_29 rfl rfl ?_
    refine w_aload_n (pc := 30) (q := 0) G dC_meet_30 rfl rfl ?_
    refine w_get (pc := 31) (v := .ref (κ.1 113)) (fs := fl_C κ (x_added, x_asked, x_eR, x_et, x_oR, x_ot, x_bR, x_bD, x_bQ, x_bW, x_bS, x_bM, x_bT, x_bn, x_tg, x_tb, x_ts, x_fg, x_fb, x_fV, x_fS, x_fn, x_cg, x_cb, x_cB, x_cq, x_vHeld, x_vRed, x_vTal, x_vLis)) G 111 (by decide) lb_C rfl wsC_ok 2 (by decide) wd114 gf_C_2 dC_meet_31 ?_
    obtain ⟨r34, e34, h⟩ := bd h
    refine w_callSN (pc := 34) (av := [.ref (κ.1 (52 + (0 : Int32).toNatClampNeg)), .ref (κ.1 113)]) (rest := []) (v := none) (L' := (LM κ τ (LC κ (x_added, x_asked, x_eR, x_et, x_oR, x_ot, x_bR, x_bD, x_bQ, x_bW, x_bS, x_bM, x_bT, x_bn, x_tg, x_tb, x_ts, x_fg, x_fb, x_fV, x_fS, x_fn, x_cg, x_cb, r34, x_cq, x_vHeld, x_vRed, x_vTal, x_vLis)))) G cb_V_copy_C_meet wd169 wd390 (Mt.eqw up_cB (met_V_copy κ (LM κ τ (LC κ (x_added, x_asked, x_eR, x_et, x_oR, x_ot, x_bR, x_bD, x_bQ, x_bW, x_bS, x_bM, x_bT, x_bn, x_tg, x_tb, x_ts, x_fg, x_fb, x_fV, x_fS, x_fn, x_cg, x_cb, x_cB, x_cq, x_vHeld, x_vRed, x_vTal, x_vLis))) F  (52 + (0 : Int32).toNatClampNeg) (nw_bS z05) (x_bS (0 : Int32).toNatClampNeg) (lk_bS z05) 113 (by decide) x_cB lk_cB (by have := z05; omega) e34)) rfl rfl rfl (Nat.le_of_ble_eq_true rfl) dC_meet_34 ?_
    refine w_aload_n (pc := 37) (q := 0) G dC_meet_37 rfl rfl ?_
    refine w_lload_n (pc := 38) (q := 2) G dC_meet_38 rfl rfl ?_
    refine w_put (pc := 39) (fs := fl_C κ (x_added, x_asked, x_eR, x_et, x_oR, x_ot, x_bR, x_bD, x_bQ, x_bW, x_bS, x_bM, x_bT, x_bn, x_tg, x_tb, x_ts, x_fg, x_fb, x_fV, x_fS, x_fn, x_cg, x_cb, r34, x_cq, x_vHeld, x_vRed, x_vTal, x_vLis)) (L1 := (LM κ τ (LC κ (x_added, x_asked, x_eR, x_et, x_oR, x_ot, x_bR, x_bD, x_bQ, x_bW, x_bS, x_bM, x_bT, x_bn, x_tg, x_tb, x_ts, x_fg, x_fb, x_fV, x_fS, x_fn, x_cg, x_cb, r34, v2, x_vHeld, x_vRed, x_vTal, x_vLis)))) G 111 (by decide) lb_C rfl wsC_ok tyC tyC_ok nmC 3 (by decide) wd115 rfl rfl rfl (Nat.le_of_ble_eq_true rfl) dC_meet_39 upf_cq ?_
    refine w_aload_n (pc := 42) (q := 0) G dC_meet_42 rfl rfl ?_
    refine w_lload_n (pc := 43) (q := 2) G dC_meet_43 rfl rfl ?_
    obtain ⟨r44, e44, h⟩ := bd h
    refine w_callU (pc := 44) (av := [.long v2]) (rest := []) (v := none) (L' := (LM κ τ (LC κ (x_added, x_asked, x_eR, x_et, x_oR, x_ot, x_bR, x_bD, x_bQ, x_bW, x_bS, x_bM, x_bT, x_bn, x_tg, x_tb, x_ts, x_fg, x_fb, x_fV, x_fS, x_fn, x_cg, r44, r34, v2, x_vHeld, x_vRed, x_vTal, x_vLis)))) (T := TC) (fs := fl_C κ (x_added, x_asked, x_eR, x_et, x_oR, x_ot, x_bR, x_bD, x_bQ, x_bW, x_bS, x_bM, x_bT, x_bn, x_tg, x_tb, x_ts, x_fg, x_fb, x_fV, x_fS, x_fn, x_cg, x_cb, r34, v2, x_vHeld, x_vRed, x_vTal, x_vLis)) G 111 6 4 (by decide) lb_C rfl cb_K_setBudget_C_C_meet wd391 wd392 wd393 wd357 wd355 (by decide) rfl (met_K_setBudget_C κ τ F v2  e44) rfl rfl rfl (Nat.le_of_ble_eq_true rfl) dC_meet_44 ?_
    obtain rfl := Option.some.inj h
    exact w_vret (pc := 47) G dC_meet_47 Fh
  · have h := if_f c5 h
    refine w_lload_n (pc := 9) (q := 2) G dC_meet_9 rfl rfl ?_
    refine w_aload_n (pc := 10) (q := 0) G dC_meet_10 rfl rfl ?_
    refine w_get (pc := 11) (v := .long x_cq) (fs := fl_C κ (x_added, x_asked, x_eR, x_et, x_oR, x_ot, x_bR, x_bD, x_bQ, x_bW, x_bS, x_bM, x_bT, x_bn, x_tg, x_tb, x_ts, x_fg, x_fb, x_fV, x_fS, x_fn, x_cg, x_cb, x_cB, x_cq, x_vHeld, x_vRed, x_vTal, x_vLis)) G 111 (by decide) lb_C rfl wsC_ok 3 (by decide) wd115 gf_C_3 dC_meet_11 ?_
    refine w_lc_ne (pc := 14) (tgt := 47) G dC_meet_14 dC_meet_15 (by decide) (fun c14 => ?_) (fun c14 => ?_)
    · have h := if_t c14 h
      refine w_aload_n (pc := 18) (q := 1) G dC_meet_18 rfl rfl ?_
      refine w_aload_n (pc := 19) (q := 0) G dC_meet_19 rfl rfl ?_
      refine w_get (pc := 20) (v := .ref (κ.1 113)) (fs := fl_C κ (x_added, x_asked, x_eR, x_et, x_oR, x_ot, x_bR, x_bD, x_bQ, x_bW, x_bS, x_bM, x_bT, x_bn, x_tg, x_tb, x_ts, x_fg, x_fb, x_fV, x_fS, x_fn, x_cg, x_cb, x_cB, x_cq, x_vHeld, x_vRed, x_vTal, x_vLis)) G 111 (by decide) lb_C rfl wsC_ok 2 (by decide) wd114 gf_C_2 dC_meet_20 ?_
      obtain ⟨r23, e23, h⟩ := bd h
      refine w_callSN (pc := 23) (av := [.ref (κ.1 (52 + (0 : Int32).toNatClampNeg)), .ref (κ.1 113)]) (rest := []) (v := some (.int r23)) (L' := (LM κ τ (LC κ (x_added, x_asked, x_eR, x_et, x_oR, x_ot, x_bR, x_bD, x_bQ, x_bW, x_bS, x_bM, x_bT, x_bn, x_tg, x_tb, x_ts, x_fg, x_fb, x_fV, x_fS, x_fn, x_cg, x_cb, x_cB, x_cq, x_vHeld, x_vRed, x_vTal, x_vLis)))) G cb_V_comesBefore_C_meet wd388 wd387 (met_V_comesBefore κ (LM κ τ (LC κ (x_added, x_asked, x_eR, x_et, x_oR, x_ot, x_bR, x_bD, x_bQ, x_bW, x_bS, x_bM, x_bT, x_bn, x_tg, x_tb, x_ts, x_fg, x_fb, x_fV, x_fS, x_fn, x_cg, x_cb, x_cB, x_cq, x_vHeld, x_vRed, x_vTal, x_vLis))) F  (52 + (0 : Int32).toNatClampNeg) (nw_bS z05) (x_bS (0 : Int32).toNatClampNeg) (lk_bS z05) 113 (by decide) x_cB lk_cB e23) rfl rfl rfl (Nat.le_of_ble_eq_true rfl) dC_meet_23 ?_
      refine w_if_eq (pc := 26) (tgt := 47) G dC_meet_26 (by decide) (fun c26 => ?_) (fun c26 => ?_)
      · have h := if_t c26 h
        obtain rfl := Option.some.inj h
        exact w_vret (pc := 47) G dC_meet_47 Fh
      · have h := if_f c26 h
        refine w_aload_n (pc := 29) (q := 1) G dC_meet_29 rfl rfl ?_
        refine w_aload_n (pc := 30) (q := 0) G dC_meet_30 rfl rfl ?_
        refine w_get (pc := 31) (v := .ref (κ.1 113)) (fs := fl_C κ (x_added, x_asked, x_eR, x_et, x_oR, x_ot, x_bR, x_bD, x_bQ, x_bW, x_bS, x_bM, x_bT, x_bn, x_tg, x_tb, x_ts, x_fg, x_fb, x_fV, x_fS, x_fn, x_cg, x_cb, x_cB, x_cq, x_vHeld, x_vRed, x_vTal, x_vLis)) G 111 (by decide) lb_C rfl wsC_ok 2 (by decide) wd114 gf_C_2 dC_meet_31 ?_
        obtain ⟨r34, e34, h⟩ := bd h
        refine w_callSN (pc := 34) (av := [.ref (κ.1 (52 + (0 : Int32).toNatClampNeg)), .ref (κ.1 113)]) (rest := []) (v := none) (L' := (LM κ τ (LC κ (x_added, x_asked, x_eR, x_et, x_oR, x_ot, x_bR, x_bD, x_bQ, x_bW, x_bS, x_bM, x_bT, x_bn, x_tg, x_tb, x_ts, x_fg, x_fb, x_fV, x_fS, x_fn, x_cg, x_cb, r34, x_cq, x_vHeld, x_vRed, x_vTal, x_vLis)))) G cb_V_copy_C_meet wd169 wd390 (Mt.eqw up_cB (met_V_copy κ (LM κ τ (LC κ (x_added, x_asked, x_eR, x_et, x_oR, x_ot, x_bR, x_bD, x_bQ, x_bW, x_bS, x_bM, x_bT, x_bn, x_tg, x_tb, x_ts, x_fg, x_fb, x_fV, x_fS, x_fn, x_cg, x_cb, x_cB, x_cq, x_vHeld, x_vRed, x_vTal, x_vLis))) F  (52 + (0 : Int32).toNatClampNeg) (nw_bS z05) (x_bS (0 : Int32).toNatClampNeg) (lk_bS z05) 113 (by decide) x_cB lk_cB (by have := z05; omega) e34)) rfl rfl rfl (Nat.le_of_ble_eq_true rfl) dC_meet_34 ?_
        refine w_aload_n (pc := 37) (q := 0) G dC_meet_37 rfl rfl ?_
        refine w_lload_n (pc := 38) (q := 2) G dC_meet_38 rfl rfl ?_
        refine w_put (pc := 39) (fs := fl_C κ (x_added, x_asked, x_eR, x_et, x_oR, x_ot, x_bR, x_bD, x_bQ, x_bW, x_bS, x_bM, x_bT, x_bn, x_tg, x_tb, x_ts, x_fg, x_fb, x_fV, x_fS, x_fn, x_cg, x_cb, r34, x_cq, x_vHeld, x_vRed, x_vTal, x_vLis)) (L1 := (LM κ τ (LC κ (x_added, x_asked, x_eR, x_et, x_oR, x_ot, x_bR, x_bD, x_bQ, x_bW, x_bS, x_bM, x_bT, x_bn, x_tg, x_tb, x_ts, x_fg, x_fb, x_fV, x_fS, x_fn, x_cg, x_cb, r34, v2, x_vHeld, x_vRed, x_vTal, x_vLis)))) G 111 (by decide) lb_C rfl wsC_ok tyC tyC_ok nmC 3 (by decide) wd115 rfl rfl rfl (Nat.le_of_ble_eq_true rfl) dC_meet_39 upf_cq ?_
        refine w_aload_n (pc := 42) (q := 0) G dC_meet_42 rfl rfl ?_
        refine w_lload_n (pc := 43) (q := 2) G dC_meet_43 rfl rfl ?_
        obtain ⟨r44, e44, h⟩ := bd h
        refine w_callU (pc := 44) (av := [.long v2]) (rest := []) (v := none) (L' := (LM κ τ (LC κ (x_added, x_asked, x_eR, x_et, x_oR, x_ot, x_bR, x_bD, x_bQ, x_bW, x_bS, x_bM, x_bT, x_bn, x_tg, x_tb, x_ts, x_fg, x_fb, x_fV, x_fS, x_fn, x_cg, r44, r34, v2, x_vHeld, x_vRed, x_vTal, x_vLis)))) (T := TC) (fs := fl_C κ (x_added, x_asked, x_eR, x_et, x_oR, x_ot, x_bR, x_bD, x_bQ, x_bW, x_bS, x_bM, x_bT, x_bn, x_tg, x_tb, x_ts, x_fg, x_fb, x_fV, x_fS, x_fn, x_cg, x_cb, r34, v2, x_vHeld, x_vRed, x_vTal, x_vLis)) G 111 6 4 (by decide) lb_C rfl cb_K_setBudget_C_C_meet wd391 wd392 wd393 wd357 wd355 (by decide) rfl (met_K_setBudget_C κ τ F v2  e44) rfl rfl rfl (Nat.le_of_ble_eq_true rfl) dC_meet_44 ?_
        obtain rfl := Option.some.inj h
        exact w_vret (pc := 47) G dC_meet_47 Fh
    · have h := if_f c14 h
      obtain rfl := Option.some.inj h
      exact w_vret (pc := 47) G dC_meet_47 Fh
def rm_B_squareOutside_T : Room := { frames := 1, cells := 0, slots := 0, locals := 70 }
theorem dB_squareOutside_0 : decode cB_squareOutside 0 = .ok (.aload_n 1, 1) := by decide +kernel
theorem dB_squareOutside_1 : decode cB_squareOutside 1 = .ok (.aload_n 1, 1) := by decide +kernel
theorem dB_squareOutside_2 : decode cB_squareOutside 2 = .ok (.invokestatic 63, 3) := by decide +kernel
theorem dB_squareOutside_5 : decode cB_squareOutside 5 = .ok (.lstore_n 2, 1) := by decide +kernel
theorem dB_squareOutside_6 : decode cB_squareOutside 6 = .ok (.iconst 0, 1) := by decide +kernel
theorem dB_squareOutside_7 : decode cB_squareOutside 7 = .ok (.istore 4, 2) := by decide +kernel
theorem dB_squareOutside_9 : decode cB_squareOutside 9 = .ok (.iload 4, 2) := by decide +kernel
theorem dB_squareOutside_11 : decode cB_squareOutside 11 = .ok (.aload_n 0, 1) := by decide +kernel
theorem dB_squareOutside_12 : decode cB_squareOutside 12 = .ok (.getfield 35, 3) := by decide +kernel
theorem dB_squareOutside_15 : decode cB_squareOutside 15 = .ok (.if_icmp .ge 41, 3) := by decide +kernel
theorem dB_squareOutside_18 : decode cB_squareOutside 18 = .ok (.aload_n 0, 1) := by decide +kernel
theorem dB_squareOutside_19 : decode cB_squareOutside 19 = .ok (.getfield 16, 3) := by decide +kernel
theorem dB_squareOutside_22 : decode cB_squareOutside 22 = .ok (.iload 4, 2) := by decide +kernel
theorem dB_squareOutside_24 : decode cB_squareOutside 24 = .ok (.aaload, 1) := by decide +kernel
theorem dB_squareOutside_25 : decode cB_squareOutside 25 = .ok (.aload_n 1, 1) := by decide +kernel
theorem dB_squareOutside_26 : decode cB_squareOutside 26 = .ok (.invokestatic 63, 3) := by decide +kernel
theorem dB_squareOutside_29 : decode cB_squareOutside 29 = .ok (.lstore 5, 2) := by decide +kernel
theorem dB_squareOutside_31 : decode cB_squareOutside 31 = .ok (.lload_n 2, 1) := by decide +kernel
theorem dB_squareOutside_32 : decode cB_squareOutside 32 = .ok (.lload 5, 2) := by decide +kernel
theorem dB_squareOutside_34 : decode cB_squareOutside 34 = .ok (.lneg, 1) := by decide +kernel
theorem dB_squareOutside_35 : decode cB_squareOutside 35 = .ok (.lload 5, 2) := by decide +kernel
theorem dB_squareOutside_37 : decode cB_squareOutside 37 = .ok (.lmul, 1) := by decide +kernel
theorem dB_squareOutside_38 : decode cB_squareOutside 38 = .ok (.aload_n 0, 1) := by decide +kernel
theorem dB_squareOutside_39 : decode cB_squareOutside 39 = .ok (.getfield 19, 3) := by decide +kernel
theorem dB_squareOutside_42 : decode cB_squareOutside 42 = .ok (.iload 4, 2) := by decide +kernel
theorem dB_squareOutside_44 : decode cB_squareOutside 44 = .ok (.laload, 1) := by decide +kernel
theorem dB_squareOutside_45 : decode cB_squareOutside 45 = .ok (.invokestatic 137, 3) := by decide +kernel
theorem dB_squareOutside_48 : decode cB_squareOutside 48 = .ok (.ladd, 1) := by decide +kernel
theorem dB_squareOutside_49 : decode cB_squareOutside 49 = .ok (.lstore_n 2, 1) := by decide +kernel
theorem dB_squareOutside_50 : decode cB_squareOutside 50 = .ok (.iinc 4 1, 3) := by decide +kernel
theorem dB_squareOutside_53 : decode cB_squareOutside 53 = .ok (.goto (-44), 3) := by decide +kernel
theorem dB_squareOutside_56 : decode cB_squareOutside 56 = .ok (.lconst 0, 1) := by decide +kernel
theorem dB_squareOutside_57 : decode cB_squareOutside 57 = .ok (.lload_n 2, 1) := by decide +kernel
theorem dB_squareOutside_58 : decode cB_squareOutside 58 = .ok (.invokestatic 105, 3) := by decide +kernel
theorem dB_squareOutside_61 : decode cB_squareOutside 61 = .ok (.lreturn, 1) := by decide +kernel
theorem cb_V_product_B_squareOutside_T : CB yV_product cV_product 5 (some .long) rm_V_product rm_B_squareOutside_T 2 := ⟨wd263, wd1, by decide +kernel, rfl, rfl, by decide⟩
theorem cb_JM_floorDiv_B_squareOutside_T : CB yJM_floorDiv cJM_floorDiv 6 (some .long) rm_JM_floorDiv rm_B_squareOutside_T 2 := ⟨wd198, wd10, by decide +kernel, rfl, rfl, by decide⟩
noncomputable def lB_squareOutside_9 (F : Nat) (x_bD : Nat → Nat → Int64) (x_bQ : Nat → Int64) (x_bn : Int32) (x_tg : Nat → Int64) : Nat → Int64 → Int32 → Option (Int64)
  | 0, _, _ => none
  | n + 1, v2, v4 => if x_bn ≤ v4 then some (v2) else gd (vp_in v4 4) ((V_product F (x_bD v4.toNatClampNeg) x_tg ).bind (fun r26 => gd (vp_in v4 4) ((JM_floorDiv F  ((-r26) * r26) (x_bQ v4.toNatClampNeg)).bind (fun r45 => lB_squareOutside_9 F  x_bD x_bQ x_bn x_tg n (v2 + r45) (v4 + 1)))))
set_option maxHeartbeats 8000000 in
set_option maxRecDepth 100000 in
theorem lB_squareOutside_T_9_ok {g : Gm} {κ : ctx} (G : OK g κ RB cB_squareOutside 7 (some .long) rm_B_squareOutside_T) (τ : MS) (F : Nat) {x_added : Nat → Nat → Int64} {x_asked : Nat → Int64} {x_eR : Nat → Nat → Int64} {x_et : Nat → Int64} {x_oR : Nat → Nat → Int64} {x_ot : Nat → Int64} {x_bR : Nat → Nat → Int64} {x_bD : Nat → Nat → Int64} {x_bQ : Nat → Int64} {x_bW : Nat → Int64} {x_bS : Nat → Nat → Int64} {x_bM : Nat → Nat → Int64} {x_bT : Nat → Int64} {x_bn : Int32} {x_tg : Nat → Int64} {x_tb : Int64} {x_ts : Nat → Int32} {x_fg : Nat → Int64} {x_fb : Int64} {x_fV : Nat → Nat → Int64} {x_fS : Nat → Int64} {x_fn : Int32} {x_cg : Nat → Int64} {x_cb : Int64} {x_cB : Nat → Int64} {x_cq : Int64} {x_vHeld : Int32} {x_vRed : Int32} {x_vTal : Int32} {x_vLis : Int32} : ∀ (n : Nat) (v2 : Int64) (v4 : Int32) (out : Int64), lB_squareOutside_9 F  x_bD x_bQ x_bn x_tg  n v2 v4 = some out → (J g κ 7 56 [(2, .long out)] [] (LM κ τ (LC κ (x_added, x_asked, x_eR, x_et, x_oR, x_ot, x_bR, x_bD, x_bQ, x_bW, x_bS, x_bM, x_bT, x_bn, x_tg, x_tb, x_ts, x_fg, x_fb, x_fV, x_fS, x_fn, x_cg, x_cb, x_cB, x_cq, x_vHeld, x_vRed, x_vTal, x_vLis)))) → J g κ 7 9 [(0, .ref (κ.1 38)), (1, .ref (κ.1 64)), (2, .long v2), (4, .int v4)] [] (LM κ τ (LC κ (x_added, x_asked, x_eR, x_et, x_oR, x_ot, x_bR, x_bD, x_bQ, x_bW, x_bS, x_bM, x_bT, x_bn, x_tg, x_tb, x_ts, x_fg, x_fb, x_fV, x_fS, x_fn, x_cg, x_cb, x_cB, x_cq, x_vHeld, x_vRed, x_vTal, x_vLis))) := by
  intro n
  induction n with
  | zero =>
    intro v2 v4
    intro out h
    rw [lB_squareOutside_9] at h
    cases h
  | succ n ih =>
    intro v2 v4 out h K
    rw [lB_squareOutside_9] at h
    refine w_iload (pc := 9) (q := 3) G dB_squareOutside_9 rfl ?_
    refine w_aload_n (pc := 11) (q := 0) G dB_squareOutside_11 rfl rfl ?_
    refine w_get (pc := 12) (v := .int x_bn) (fs := fl_B κ (x_added, x_asked, x_eR, x_et, x_oR, x_ot, x_bR, x_bD, x_bQ, x_bW, x_bS, x_bM, x_bT, x_bn, x_tg, x_tb, x_ts, x_fg, x_fb, x_fV, x_fS, x_fn, x_cg, x_cb, x_cB, x_cq, x_vHeld, x_vRed, x_vTal, x_vLis)) G 38 (by decide) lb_B rfl wsB_ok 7 (by decide) wd51 gf_B_7 dB_squareOutside_12 ?_
    refine w_icmp_ge (pc := 15) (tgt := 56) G dB_squareOutside_15 (by decide) (fun c15 => ?_) (fun c15 => ?_)
    · have h := if_t c15 h
      obtain rfl := Option.some.inj h
      refine w_sub (lv' := [(2, .long v2)]) [2] rfl ?_
      exact K
    · have h := if_f c15 h
      refine w_aload_n (pc := 18) (q := 0) G dB_squareOutside_18 rfl rfl ?_
      refine w_get (pc := 19) (v := .ref (κ.1 44)) (fs := fl_B κ (x_added, x_asked, x_eR, x_et, x_oR, x_ot, x_bR, x_bD, x_bQ, x_bW, x_bS, x_bM, x_bT, x_bn, x_tg, x_tb, x_ts, x_fg, x_fb, x_fV, x_fS, x_fn, x_cg, x_cb, x_cB, x_cq, x_vHeld, x_vRed, x_vTal, x_vLis)) G 38 (by decide) lb_B rfl wsB_ok 1 (by decide) wd45 gf_B_1 dB_squareOutside_19 ?_
      refine w_iload (pc := 22) (q := 3) G dB_squareOutside_22 rfl ?_
      obtain ⟨i24, h⟩ := gd_some h
      refine w_aald (pc := 24) (n := 4) (f := og κ 45 4) (b := κ.1 (45 + v4.toNatClampNeg)) G 44 (by decide) lo_bD i24 (og_at (ixlt i24)) dB_squareOutside_24 ?_
      refine w_aload_n (pc := 25) (q := 1) G dB_squareOutside_25 rfl rfl ?_
      obtain ⟨r26, e26, h⟩ := bd h
      refine w_callSN (pc := 26) (av := [.ref (κ.1 (45 + v4.toNatClampNeg)), .ref (κ.1 64)]) (rest := []) (v := some (.long r26)) (L' := (LM κ τ (LC κ (x_added, x_asked, x_eR, x_et, x_oR, x_ot, x_bR, x_bD, x_bQ, x_bW, x_bS, x_bM, x_bT, x_bn, x_tg, x_tb, x_ts, x_fg, x_fb, x_fV, x_fS, x_fn, x_cg, x_cb, x_cB, x_cq, x_vHeld, x_vRed, x_vTal, x_vLis)))) G cb_V_product_B_squareOutside_T wd262 wd261 (met_V_product κ (LM κ τ (LC κ (x_added, x_asked, x_eR, x_et, x_oR, x_ot, x_bR, x_bD, x_bQ, x_bW, x_bS, x_bM, x_bT, x_bn, x_tg, x_tb, x_ts, x_fg, x_fb, x_fV, x_fS, x_fn, x_cg, x_cb, x_cB, x_cq, x_vHeld, x_vRed, x_vTal, x_vLis))) F  (45 + v4.toNatClampNeg) (nw_bD (ixlt i24)) (x_bD v4.toNatClampNeg) (lk_bD (ixlt i24)) 64 (by decide) x_tg lk_tg e26) rfl rfl rfl (Nat.le_of_ble_eq_true rfl) dB_squareOutside_26 ?_
      refine w_lstore (pc := 29) (lv' := [(5, .long r26), (0, .ref (κ.1 38)), (1, .ref (κ.1 64)), (2, .long v2), (4, .int v4)]) G dB_squareOutside_29 (by decide) rfl ?_
      refine w_lload_n (pc := 31) (q := 3) G dB_squareOutside_31 rfl rfl ?_
      refine w_lload (pc := 32) (q := 0) G dB_squareOutside_32 rfl ?_
      refine w_lneg (pc := 34) G dB_squareOutside_34 ?_
      refine w_lload (pc := 35) (q := 0) G dB_squareOutside_35 rfl ?_
      refine w_lmul (pc := 37) G dB_squareOutside_37 ?_
      refine w_aload_n (pc := 38) (q := 1) G dB_squareOutside_38 rfl rfl ?_
      refine w_get (pc := 39) (v := .ref (κ.1 49)) (fs := fl_B κ (x_added, x_asked, x_eR, x_et, x_oR, x_ot, x_bR, x_bD, x_bQ, x_bW, x_bS, x_bM, x_bT, x_bn, x_tg, x_tb, x_ts, x_fg, x_fb, x_fV, x_fS, x_fn, x_cg, x_cb, x_cB, x_cq, x_vHeld, x_vRed, x_vTal, x_vLis)) G 38 (by decide) lb_B rfl wsB_ok 2 (by decide) wd46 gf_B_2 dB_squareOutside_39 ?_
      refine w_iload (pc := 42) (q := 4) G dB_squareOutside_42 rfl ?_
      obtain ⟨i44, h⟩ := gd_some h
      refine w_lald (pc := 44) (n := 4) (f := x_bQ) G 49 (by decide) lk_bQ i44 dB_squareOutside_44 ?_
      obtain ⟨r45, e45, h⟩ := bd h
      refine w_callS (pc := 45) (av := [.long ((-r26) * r26), .long (x_bQ v4.toNatClampNeg)]) (rest := [.long v2]) (v := some (.long r45)) (L' := (LM κ τ (LC κ (x_added, x_asked, x_eR, x_et, x_oR, x_ot, x_bR, x_bD, x_bQ, x_bW, x_bS, x_bM, x_bT, x_bn, x_tg, x_tb, x_ts, x_fg, x_fb, x_fV, x_fS, x_fn, x_cg, x_cb, x_cB, x_cq, x_vHeld, x_vRed, x_vTal, x_vLis)))) G cb_JM_floorDiv_B_squareOutside_T wd197 wd376 (met_JM_floorDiv κ (LM κ τ (LC κ (x_added, x_asked, x_eR, x_et, x_oR, x_ot, x_bR, x_bD, x_bQ, x_bW, x_bS, x_bM, x_bT, x_bn, x_tg, x_tb, x_ts, x_fg, x_fb, x_fV, x_fS, x_fn, x_cg, x_cb, x_cB, x_cq, x_vHeld, x_vRed, x_vTal, x_vLis))) F ((-r26) * r26) (x_bQ v4.toNatClampNeg)  e45) rfl rfl rfl (Nat.le_of_ble_eq_true rfl) dB_squareOutside_45 ?_
      refine w_ladd (pc := 48) G dB_squareOutside_48 ?_
      refine w_lstore_n (pc := 49) (lv' := [(2, .long (v2 + r45)), (5, .long r26), (0, .ref (κ.1 38)), (1, .ref (κ.1 64)), (4, .int v4)]) G dB_squareOutside_49 rfl (by decide) rfl ?_
      refine w_iinc (pc := 50) (q0 := 4) (v := (v4 + 1)) (lv' := [(4, .int (v4 + 1)), (2, .long (v2 + r45)), (5, .long r26), (0, .ref (κ.1 38)), (1, .ref (κ.1 64))]) G dB_squareOutside_50 rfl rfl (by decide) rfl ?_
      refine w_goto (pc := 53) (tgt := 9) G dB_squareOutside_53 (by decide) ?_
      refine w_sub (lv' := [(0, .ref (κ.1 38)), (1, .ref (κ.1 64)), (2, .long (v2 + r45)), (4, .int (v4 + 1))]) [3, 4, 1, 0] rfl ?_
      exact ih (v2 + r45) (v4 + 1) out h K
noncomputable def B_squareOutside (F : Nat)  (x_bD : Nat → Nat → Int64) (x_bQ : Nat → Int64) (x_bn : Int32) (x_tg : Nat → Int64)  : Option (Int64) := (V_product F x_tg x_tg ).bind (fun r2 => (lB_squareOutside_9 F  x_bD x_bQ x_bn x_tg F r2 (0 : Int32)).bind (fun o9_7 => some (if o9_7 < (0 : Int64) then (0 : Int64) else o9_7)))
set_option maxHeartbeats 8000000 in
set_option maxRecDepth 100000 in
theorem met_B_squareOutside_T (κ : ctx) (τ : MS) (F : Nat) {x_added : Nat → Nat → Int64} {x_asked : Nat → Int64} {x_eR : Nat → Nat → Int64} {x_et : Nat → Int64} {x_oR : Nat → Nat → Int64} {x_ot : Nat → Int64} {x_bR : Nat → Nat → Int64} {x_bD : Nat → Nat → Int64} {x_bQ : Nat → Int64} {x_bW : Nat → Int64} {x_bS : Nat → Nat → Int64} {x_bM : Nat → Nat → Int64} {x_bT : Nat → Int64} {x_bn : Int32} {x_tg : Nat → Int64} {x_tb : Int64} {x_ts : Nat → Int32} {x_fg : Nat → Int64} {x_fb : Int64} {x_fV : Nat → Nat → Int64} {x_fS : Nat → Int64} {x_fn : Int32} {x_cg : Nat → Int64} {x_cb : Int64} {x_cB : Nat → Int64} {x_cq : Int64} {x_vHeld : Int32} {x_vRed : Int32} {x_vTal : Int32} {x_vLis : Int32}  {out : Int64} (h : B_squareOutside F  x_bD x_bQ x_bn x_tg  = some out) : Mt yB_squareOutside cB_squareOutside 7 (some .long) rm_B_squareOutside_T κ [.ref (κ.1 38), .ref (κ.1 64)] (LM κ τ (LC κ (x_added, x_asked, x_eR, x_et, x_oR, x_ot, x_bR, x_bD, x_bQ, x_bW, x_bS, x_bM, x_bT, x_bn, x_tg, x_tb, x_ts, x_fg, x_fb, x_fV, x_fS, x_fn, x_cg, x_cb, x_cB, x_cq, x_vHeld, x_vRed, x_vTal, x_vLis))) (some (.long out)) (LM κ τ (LC κ (x_added, x_asked, x_eR, x_et, x_oR, x_ot, x_bR, x_bD, x_bQ, x_bW, x_bS, x_bM, x_bT, x_bn, x_tg, x_tb, x_ts, x_fg, x_fb, x_fV, x_fS, x_fn, x_cg, x_cb, x_cB, x_cq, x_vHeld, x_vRed, x_vTal, x_vLis))) := by
  refine Mt.of (by decide) (Nat.le_of_ble_eq_true rfl) ?_
  intro g G Fh
  unfold B_squareOutside at h
  show J g κ 7 0 [(0, .ref (κ.1 38)), (1, .ref (κ.1 64))] [] (LM κ τ (LC κ (x_added, x_asked, x_eR, x_et, x_oR, x_ot, x_bR, x_bD, x_bQ, x_bW, x_bS, x_bM, x_bT, x_bn, x_tg, x_tb, x_ts, x_fg, x_fb, x_fV, x_fS, x_fn, x_cg, x_cb, x_cB, x_cq, x_vHeld, x_vRed, x_vTal, x_vLis)))
  refine w_aload_n (pc := 0) (q := 1) G dB_squareOutside_0 rfl rfl ?_
  refine w_aload_n (pc := 1) (q := 1) G dB_squareOutside_1 rfl rfl ?_
  obtain ⟨r2, e2, h⟩ := bd h
  refine w_callSN (pc := 2) (av := [.ref (κ.1 64), .ref (κ.1 64)]) (rest := []) (v := some (.long r2)) (L' := (LM κ τ (LC κ (x_added, x_asked, x_eR, x_et, x_oR, x_ot, x_bR, x_bD, x_bQ, x_bW, x_bS, x_bM, x_bT, x_bn, x_tg, x_tb, x_ts, x_fg, x_fb, x_fV, x_fS, x_fn, x_cg, x_cb, x_cB, x_cq, x_vHeld, x_vRed, x_vTal, x_vLis)))) G cb_V_product_B_squareOutside_T wd262 wd261 (met_V_product κ (LM κ τ (LC κ (x_added, x_asked, x_eR, x_et, x_oR, x_ot, x_bR, x_bD, x_bQ, x_bW, x_bS, x_bM, x_bT, x_bn, x_tg, x_tb, x_ts, x_fg, x_fb, x_fV, x_fS, x_fn, x_cg, x_cb, x_cB, x_cq, x_vHeld, x_vRed, x_vTal, x_vLis))) F  64 (by decide) x_tg lk_tg 64 (by decide) x_tg lk_tg e2) rfl rfl rfl (Nat.le_of_ble_eq_true rfl) dB_squareOutside_2 ?_
  refine w_lstore_n (pc := 5) (lv' := [(2, .long r2), (0, .ref (κ.1 38)), (1, .ref (κ.1 64))]) G dB_squareOutside_5 rfl (by decide) rfl ?_
  refine w_iconst (pc := 6) (v := (0 : Int32)) G dB_squareOutside_6 (by decide) ?_
  refine w_istore (pc := 7) (lv' := [(4, .int (0 : Int32)), (2, .long r2), (0, .ref (κ.1 38)), (1, .ref (κ.1 64))]) G dB_squareOutside_7 (by decide) rfl ?_
  refine w_sub (lv' := [(0, .ref (κ.1 38)), (1, .ref (κ.1 64)), (2, .long r2), (4, .int (0 : Int32))]) [2, 3, 1, 0] rfl ?_
  obtain ⟨o9_7, eo9_7, h⟩ := bd h
  refine lB_squareOutside_T_9_ok G τ F  F r2 (0 : Int32) o9_7 eo9_7 ?_
  refine w_lconst (pc := 56) (v := (0 : Int64)) G dB_squareOutside_56 (by decide) ?_
  refine w_lload_n (pc := 57) (q := 0) G dB_squareOutside_57 rfl rfl ?_
  refine w_max (pc := 58) G wd302 wd303 wd10 wd304 (by decide) (Nat.le_of_ble_eq_true rfl) dB_squareOutside_58 ?_
  obtain rfl := Option.some.inj h
  exact w_lret (pc := 61) G dB_squareOutside_61 Fh
def rm_B_squareOutside_F : Room := { frames := 1, cells := 0, slots := 0, locals := 70 }
theorem cb_V_product_B_squareOutside_F : CB yV_product cV_product 5 (some .long) rm_V_product rm_B_squareOutside_F 2 := ⟨wd263, wd1, by decide +kernel, rfl, rfl, by decide⟩
theorem cb_JM_floorDiv_B_squareOutside_F : CB yJM_floorDiv cJM_floorDiv 6 (some .long) rm_JM_floorDiv rm_B_squareOutside_F 2 := ⟨wd198, wd10, by decide +kernel, rfl, rfl, by decide⟩
set_option maxHeartbeats 8000000 in
set_option maxRecDepth 100000 in
theorem lB_squareOutside_F_9_ok {g : Gm} {κ : ctx} (G : OK g κ RB cB_squareOutside 7 (some .long) rm_B_squareOutside_F) (τ : MS) (F : Nat) {x_added : Nat → Nat → Int64} {x_asked : Nat → Int64} {x_eR : Nat → Nat → Int64} {x_et : Nat → Int64} {x_oR : Nat → Nat → Int64} {x_ot : Nat → Int64} {x_bR : Nat → Nat → Int64} {x_bD : Nat → Nat → Int64} {x_bQ : Nat → Int64} {x_bW : Nat → Int64} {x_bS : Nat → Nat → Int64} {x_bM : Nat → Nat → Int64} {x_bT : Nat → Int64} {x_bn : Int32} {x_tg : Nat → Int64} {x_tb : Int64} {x_ts : Nat → Int32} {x_fg : Nat → Int64} {x_fb : Int64} {x_fV : Nat → Nat → Int64} {x_fS : Nat → Int64} {x_fn : Int32} {x_cg : Nat → Int64} {x_cb : Int64} {x_cB : Nat → Int64} {x_cq : Int64} {x_vHeld : Int32} {x_vRed : Int32} {x_vTal : Int32} {x_vLis : Int32} : ∀ (n : Nat) (v2 : Int64) (v4 : Int32) (out : Int64), lB_squareOutside_9 F  x_bD x_bQ x_bn x_fg  n v2 v4 = some out → (J g κ 7 56 [(2, .long out)] [] (LM κ τ (LC κ (x_added, x_asked, x_eR, x_et, x_oR, x_ot, x_bR, x_bD, x_bQ, x_bW, x_bS, x_bM, x_bT, x_bn, x_tg, x_tb, x_ts, x_fg, x_fb, x_fV, x_fS, x_fn, x_cg, x_cb, x_cB, x_cq, x_vHeld, x_vRed, x_vTal, x_vLis)))) → J g κ 7 9 [(0, .ref (κ.1 38)), (1, .ref (κ.1 67)), (2, .long v2), (4, .int v4)] [] (LM κ τ (LC κ (x_added, x_asked, x_eR, x_et, x_oR, x_ot, x_bR, x_bD, x_bQ, x_bW, x_bS, x_bM, x_bT, x_bn, x_tg, x_tb, x_ts, x_fg, x_fb, x_fV, x_fS, x_fn, x_cg, x_cb, x_cB, x_cq, x_vHeld, x_vRed, x_vTal, x_vLis))) := by
  intro n
  induction n with
  | zero =>
    intro v2 v4
    intro out h
    rw [lB_squareOutside_9] at h
    cases h
  | succ n ih =>
    intro v2 v4 out h K
    rw [lB_squareOutside_9] at h
    refine w_iload (pc := 9) (q := 3) G dB_squareOutside_9 rfl ?_
    refine w_aload_n (pc := 11) (q := 0) G dB_squareOutside_11 rfl rfl ?_
    refine w_get (pc := 12) (v := .int x_bn) (fs := fl_B κ (x_added, x_asked, x_eR, x_et, x_oR, x_ot, x_bR, x_bD, x_bQ, x_bW, x_bS, x_bM, x_bT, x_bn, x_tg, x_tb, x_ts, x_fg, x_fb, x_fV, x_fS, x_fn, x_cg, x_cb, x_cB, x_cq, x_vHeld, x_vRed, x_vTal, x_vLis)) G 38 (by decide) lb_B rfl wsB_ok 7 (by decide) wd51 gf_B_7 dB_squareOutside_12 ?_
    refine w_icmp_ge (pc := 15) (tgt := 56) G dB_squareOutside_15 (by decide) (fun c15 => ?_) (fun c15 => ?_)
    · have h := if_t c15 h
      obtain rfl := Option.some.inj h
      refine w_sub (lv' := [(2, .long v2)]) [2] rfl ?_
      exact K
    · have h := if_f c15 h
      refine w_aload_n (pc := 18) (q := 0) G dB_squareOutside_18 rfl rfl ?_
      refine w_get (pc := 19) (v := .ref (κ.1 44)) (fs := fl_B κ (x_added, x_asked, x_eR, x_et, x_oR, x_ot, x_bR, x_bD, x_bQ, x_bW, x_bS, x_bM, x_bT, x_bn, x_tg, x_tb, x_ts, x_fg, x_fb, x_fV, x_fS, x_fn, x_cg, x_cb, x_cB, x_cq, x_vHeld, x_vRed, x_vTal, x_vLis)) G 38 (by decide) lb_B rfl wsB_ok 1 (by decide) wd45 gf_B_1 dB_squareOutside_19 ?_
      refine w_iload (pc := 22) (q := 3) G dB_squareOutside_22 rfl ?_
      obtain ⟨i24, h⟩ := gd_some h
      refine w_aald (pc := 24) (n := 4) (f := og κ 45 4) (b := κ.1 (45 + v4.toNatClampNeg)) G 44 (by decide) lo_bD i24 (og_at (ixlt i24)) dB_squareOutside_24 ?_
      refine w_aload_n (pc := 25) (q := 1) G dB_squareOutside_25 rfl rfl ?_
      obtain ⟨r26, e26, h⟩ := bd h
      refine w_callSN (pc := 26) (av := [.ref (κ.1 (45 + v4.toNatClampNeg)), .ref (κ.1 67)]) (rest := []) (v := some (.long r26)) (L' := (LM κ τ (LC κ (x_added, x_asked, x_eR, x_et, x_oR, x_ot, x_bR, x_bD, x_bQ, x_bW, x_bS, x_bM, x_bT, x_bn, x_tg, x_tb, x_ts, x_fg, x_fb, x_fV, x_fS, x_fn, x_cg, x_cb, x_cB, x_cq, x_vHeld, x_vRed, x_vTal, x_vLis)))) G cb_V_product_B_squareOutside_F wd262 wd261 (met_V_product κ (LM κ τ (LC κ (x_added, x_asked, x_eR, x_et, x_oR, x_ot, x_bR, x_bD, x_bQ, x_bW, x_bS, x_bM, x_bT, x_bn, x_tg, x_tb, x_ts, x_fg, x_fb, x_fV, x_fS, x_fn, x_cg, x_cb, x_cB, x_cq, x_vHeld, x_vRed, x_vTal, x_vLis))) F  (45 + v4.toNatClampNeg) (nw_bD (ixlt i24)) (x_bD v4.toNatClampNeg) (lk_bD (ixlt i24)) 67 (by decide) x_fg lk_fg e26) rfl rfl rfl (Nat.le_of_ble_eq_true rfl) dB_squareOutside_26 ?_
      refine w_lstore (pc := 29) (lv' := [(5, .long r26), (0, .ref (κ.1 38)), (1, .ref (κ.1 67)), (2, .long v2), (4, .int v4)]) G dB_squareOutside_29 (by decide) rfl ?_
      refine w_lload_n (pc := 31) (q := 3) G dB_squareOutside_31 rfl rfl ?_
      refine w_lload (pc := 32) (q := 0) G dB_squareOutside_32 rfl ?_
      refine w_lneg (pc := 34) G dB_squareOutside_34 ?_
      refine w_lload (pc := 35) (q := 0) G dB_squareOutside_35 rfl ?_
      refine w_lmul (pc := 37) G dB_squareOutside_37 ?_
      refine w_aload_n (pc := 38) (q := 1) G dB_squareOutside_38 rfl rfl ?_
      refine w_get (pc := 39) (v := .ref (κ.1 49)) (fs := fl_B κ (x_added, x_asked, x_eR, x_et, x_oR, x_ot, x_bR, x_bD, x_bQ, x_bW, x_bS, x_bM, x_bT, x_bn, x_tg, x_tb, x_ts, x_fg, x_fb, x_fV, x_fS, x_fn, x_cg, x_cb, x_cB, x_cq, x_vHeld, x_vRed, x_vTal, x_vLis)) G 38 (by decide) lb_B rfl wsB_ok 2 (by decide) wd46 gf_B_2 dB_squareOutside_39 ?_
      refine w_iload (pc := 42) (q := 4) G dB_squareOutside_42 rfl ?_
      obtain ⟨i44, h⟩ := gd_some h
      refine w_lald (pc := 44) (n := 4) (f := x_bQ) G 49 (by decide) lk_bQ i44 dB_squareOutside_44 ?_
      obtain ⟨r45, e45, h⟩ := bd h
      refine w_callS (pc := 45) (av := [.long ((-r26) * r26), .long (x_bQ v4.toNatClampNeg)]) (rest := [.long v2]) (v := some (.long r45)) (L' := (LM κ τ (LC κ (x_added, x_asked, x_eR, x_et, x_oR, x_ot, x_bR, x_bD, x_bQ, x_bW, x_bS, x_bM, x_bT, x_bn, x_tg, x_tb, x_ts, x_fg, x_fb, x_fV, x_fS, x_fn, x_cg, x_cb, x_cB, x_cq, x_vHeld, x_vRed, x_vTal, x_vLis)))) G cb_JM_floorDiv_B_squareOutside_F wd197 wd376 (met_JM_floorDiv κ (LM κ τ (LC κ (x_added, x_asked, x_eR, x_et, x_oR, x_ot, x_bR, x_bD, x_bQ, x_bW, x_bS, x_bM, x_bT, x_bn, x_tg, x_tb, x_ts, x_fg, x_fb, x_fV, x_fS, x_fn, x_cg, x_cb, x_cB, x_cq, x_vHeld, x_vRed, x_vTal, x_vLis))) F ((-r26) * r26) (x_bQ v4.toNatClampNeg)  e45) rfl rfl rfl (Nat.le_of_ble_eq_true rfl) dB_squareOutside_45 ?_
      refine w_ladd (pc := 48) G dB_squareOutside_48 ?_
      refine w_lstore_n (pc := 49) (lv' := [(2, .long (v2 + r45)), (5, .long r26), (0, .ref (κ.1 38)), (1, .ref (κ.1 67)), (4, .int v4)]) G dB_squareOutside_49 rfl (by decide) rfl ?_
      refine w_iinc (pc := 50) (q0 := 4) (v := (v4 + 1)) (lv' := [(4, .int (v4 + 1)), (2, .long (v2 + r45)), (5, .long r26), (0, .ref (κ.1 38)), (1, .ref (κ.1 67))]) G dB_squareOutside_50 rfl rfl (by decide) rfl ?_
      refine w_goto (pc := 53) (tgt := 9) G dB_squareOutside_53 (by decide) ?_
      refine w_sub (lv' := [(0, .ref (κ.1 38)), (1, .ref (κ.1 67)), (2, .long (v2 + r45)), (4, .int (v4 + 1))]) [3, 4, 1, 0] rfl ?_
      exact ih (v2 + r45) (v4 + 1) out h K
set_option maxHeartbeats 8000000 in
set_option maxRecDepth 100000 in
theorem met_B_squareOutside_F (κ : ctx) (τ : MS) (F : Nat) {x_added : Nat → Nat → Int64} {x_asked : Nat → Int64} {x_eR : Nat → Nat → Int64} {x_et : Nat → Int64} {x_oR : Nat → Nat → Int64} {x_ot : Nat → Int64} {x_bR : Nat → Nat → Int64} {x_bD : Nat → Nat → Int64} {x_bQ : Nat → Int64} {x_bW : Nat → Int64} {x_bS : Nat → Nat → Int64} {x_bM : Nat → Nat → Int64} {x_bT : Nat → Int64} {x_bn : Int32} {x_tg : Nat → Int64} {x_tb : Int64} {x_ts : Nat → Int32} {x_fg : Nat → Int64} {x_fb : Int64} {x_fV : Nat → Nat → Int64} {x_fS : Nat → Int64} {x_fn : Int32} {x_cg : Nat → Int64} {x_cb : Int64} {x_cB : Nat → Int64} {x_cq : Int64} {x_vHeld : Int32} {x_vRed : Int32} {x_vTal : Int32} {x_vLis : Int32}  {out : Int64} (h : B_squareOutside F  x_bD x_bQ x_bn x_fg  = some out) : Mt yB_squareOutside cB_squareOutside 7 (some .long) rm_B_squareOutside_F κ [.ref (κ.1 38), .ref (κ.1 67)] (LM κ τ (LC κ (x_added, x_asked, x_eR, x_et, x_oR, x_ot, x_bR, x_bD, x_bQ, x_bW, x_bS, x_bM, x_bT, x_bn, x_tg, x_tb, x_ts, x_fg, x_fb, x_fV, x_fS, x_fn, x_cg, x_cb, x_cB, x_cq, x_vHeld, x_vRed, x_vTal, x_vLis))) (some (.long out)) (LM κ τ (LC κ (x_added, x_asked, x_eR, x_et, x_oR, x_ot, x_bR, x_bD, x_bQ, x_bW, x_bS, x_bM, x_bT, x_bn, x_tg, x_tb, x_ts, x_fg, x_fb, x_fV, x_fS, x_fn, x_cg, x_cb, x_cB, x_cq, x_vHeld, x_vRed, x_vTal, x_vLis))) := by
  refine Mt.of (by decide) (Nat.le_of_ble_eq_true rfl) ?_
  intro g G Fh
  unfold B_squareOutside at h
  show J g κ 7 0 [(0, .ref (κ.1 38)), (1, .ref (κ.1 67))] [] (LM κ τ (LC κ (x_added, x_asked, x_eR, x_et, x_oR, x_ot, x_bR, x_bD, x_bQ, x_bW, x_bS, x_bM, x_bT, x_bn, x_tg, x_tb, x_ts, x_fg, x_fb, x_fV, x_fS, x_fn, x_cg, x_cb, x_cB, x_cq, x_vHeld, x_vRed, x_vTal, x_vLis)))
  refine w_aload_n (pc := 0) (q := 1) G dB_squareOutside_0 rfl rfl ?_
  refine w_aload_n (pc := 1) (q := 1) G dB_squareOutside_1 rfl rfl ?_
  obtain ⟨r2, e2, h⟩ := bd h
  refine w_callSN (pc := 2) (av := [.ref (κ.1 67), .ref (κ.1 67)]) (rest := []) (v := some (.long r2)) (L' := (LM κ τ (LC κ (x_added, x_asked, x_eR, x_et, x_oR, x_ot, x_bR, x_bD, x_bQ, x_bW, x_bS, x_bM, x_bT, x_bn, x_tg, x_tb, x_ts, x_fg, x_fb, x_fV, x_fS, x_fn, x_cg, x_cb, x_cB, x_cq, x_vHeld, x_vRed, x_vTal, x_vLis)))) G cb_V_product_B_squareOutside_F wd262 wd261 (met_V_product κ (LM κ τ (LC κ (x_added, x_asked, x_eR, x_et, x_oR, x_ot, x_bR, x_bD, x_bQ, x_bW, x_bS, x_bM, x_bT, x_bn, x_tg, x_tb, x_ts, x_fg, x_fb, x_fV, x_fS, x_fn, x_cg, x_cb, x_cB, x_cq, x_vHeld, x_vRed, x_vTal, x_vLis))) F  67 (by decide) x_fg lk_fg 67 (by decide) x_fg lk_fg e2) rfl rfl rfl (Nat.le_of_ble_eq_true rfl) dB_squareOutside_2 ?_
  refine w_lstore_n (pc := 5) (lv' := [(2, .long r2), (0, .ref (κ.1 38)), (1, .ref (κ.1 67))]) G dB_squareOutside_5 rfl (by decide) rfl ?_
  refine w_iconst (pc := 6) (v := (0 : Int32)) G dB_squareOutside_6 (by decide) ?_
  refine w_istore (pc := 7) (lv' := [(4, .int (0 : Int32)), (2, .long r2), (0, .ref (κ.1 38)), (1, .ref (κ.1 67))]) G dB_squareOutside_7 (by decide) rfl ?_
  refine w_sub (lv' := [(0, .ref (κ.1 38)), (1, .ref (κ.1 67)), (2, .long r2), (4, .int (0 : Int32))]) [2, 3, 1, 0] rfl ?_
  obtain ⟨o9_7, eo9_7, h⟩ := bd h
  refine lB_squareOutside_F_9_ok G τ F  F r2 (0 : Int32) o9_7 eo9_7 ?_
  refine w_lconst (pc := 56) (v := (0 : Int64)) G dB_squareOutside_56 (by decide) ?_
  refine w_lload_n (pc := 57) (q := 0) G dB_squareOutside_57 rfl rfl ?_
  refine w_max (pc := 58) G wd302 wd303 wd10 wd304 (by decide) (Nat.le_of_ble_eq_true rfl) dB_squareOutside_58 ?_
  obtain rfl := Option.some.inj h
  exact w_lret (pc := 61) G dB_squareOutside_61 Fh
def rm_B_squareOutside_C : Room := { frames := 1, cells := 0, slots := 0, locals := 70 }
theorem cb_V_product_B_squareOutside_C : CB yV_product cV_product 5 (some .long) rm_V_product rm_B_squareOutside_C 2 := ⟨wd263, wd1, by decide +kernel, rfl, rfl, by decide⟩
theorem cb_JM_floorDiv_B_squareOutside_C : CB yJM_floorDiv cJM_floorDiv 6 (some .long) rm_JM_floorDiv rm_B_squareOutside_C 2 := ⟨wd198, wd10, by decide +kernel, rfl, rfl, by decide⟩
set_option maxHeartbeats 8000000 in
set_option maxRecDepth 100000 in
theorem lB_squareOutside_C_9_ok {g : Gm} {κ : ctx} (G : OK g κ RB cB_squareOutside 7 (some .long) rm_B_squareOutside_C) (τ : MS) (F : Nat) {x_added : Nat → Nat → Int64} {x_asked : Nat → Int64} {x_eR : Nat → Nat → Int64} {x_et : Nat → Int64} {x_oR : Nat → Nat → Int64} {x_ot : Nat → Int64} {x_bR : Nat → Nat → Int64} {x_bD : Nat → Nat → Int64} {x_bQ : Nat → Int64} {x_bW : Nat → Int64} {x_bS : Nat → Nat → Int64} {x_bM : Nat → Nat → Int64} {x_bT : Nat → Int64} {x_bn : Int32} {x_tg : Nat → Int64} {x_tb : Int64} {x_ts : Nat → Int32} {x_fg : Nat → Int64} {x_fb : Int64} {x_fV : Nat → Nat → Int64} {x_fS : Nat → Int64} {x_fn : Int32} {x_cg : Nat → Int64} {x_cb : Int64} {x_cB : Nat → Int64} {x_cq : Int64} {x_vHeld : Int32} {x_vRed : Int32} {x_vTal : Int32} {x_vLis : Int32} : ∀ (n : Nat) (v2 : Int64) (v4 : Int32) (out : Int64), lB_squareOutside_9 F  x_bD x_bQ x_bn x_cg  n v2 v4 = some out → (J g κ 7 56 [(2, .long out)] [] (LM κ τ (LC κ (x_added, x_asked, x_eR, x_et, x_oR, x_ot, x_bR, x_bD, x_bQ, x_bW, x_bS, x_bM, x_bT, x_bn, x_tg, x_tb, x_ts, x_fg, x_fb, x_fV, x_fS, x_fn, x_cg, x_cb, x_cB, x_cq, x_vHeld, x_vRed, x_vTal, x_vLis)))) → J g κ 7 9 [(0, .ref (κ.1 38)), (1, .ref (κ.1 112)), (2, .long v2), (4, .int v4)] [] (LM κ τ (LC κ (x_added, x_asked, x_eR, x_et, x_oR, x_ot, x_bR, x_bD, x_bQ, x_bW, x_bS, x_bM, x_bT, x_bn, x_tg, x_tb, x_ts, x_fg, x_fb, x_fV, x_fS, x_fn, x_cg, x_cb, x_cB, x_cq, x_vHeld, x_vRed, x_vTal, x_vLis))) := by
  intro n
  induction n with
  | zero =>
    intro v2 v4
    intro out h
    rw [lB_squareOutside_9] at h
    cases h
  | succ n ih =>
    intro v2 v4 out h K
    rw [lB_squareOutside_9] at h
    refine w_iload (pc := 9) (q := 3) G dB_squareOutside_9 rfl ?_
    refine w_aload_n (pc := 11) (q := 0) G dB_squareOutside_11 rfl rfl ?_
    refine w_get (pc := 12) (v := .int x_bn) (fs := fl_B κ (x_added, x_asked, x_eR, x_et, x_oR, x_ot, x_bR, x_bD, x_bQ, x_bW, x_bS, x_bM, x_bT, x_bn, x_tg, x_tb, x_ts, x_fg, x_fb, x_fV, x_fS, x_fn, x_cg, x_cb, x_cB, x_cq, x_vHeld, x_vRed, x_vTal, x_vLis)) G 38 (by decide) lb_B rfl wsB_ok 7 (by decide) wd51 gf_B_7 dB_squareOutside_12 ?_
    refine w_icmp_ge (pc := 15) (tgt := 56) G dB_squareOutside_15 (by decide) (fun c15 => ?_) (fun c15 => ?_)
    · have h := if_t c15 h
      obtain rfl := Option.some.inj h
      refine w_sub (lv' := [(2, .long v2)]) [2] rfl ?_
      exact K
    · have h := if_f c15 h
      refine w_aload_n (pc := 18) (q := 0) G dB_squareOutside_18 rfl rfl ?_
      refine w_get (pc := 19) (v := .ref (κ.1 44)) (fs := fl_B κ (x_added, x_asked, x_eR, x_et, x_oR, x_ot, x_bR, x_bD, x_bQ, x_bW, x_bS, x_bM, x_bT, x_bn, x_tg, x_tb, x_ts, x_fg, x_fb, x_fV, x_fS, x_fn, x_cg, x_cb, x_cB, x_cq, x_vHeld, x_vRed, x_vTal, x_vLis)) G 38 (by decide) lb_B rfl wsB_ok 1 (by decide) wd45 gf_B_1 dB_squareOutside_19 ?_
      refine w_iload (pc := 22) (q := 3) G dB_squareOutside_22 rfl ?_
      obtain ⟨i24, h⟩ := gd_some h
      refine w_aald (pc := 24) (n := 4) (f := og κ 45 4) (b := κ.1 (45 + v4.toNatClampNeg)) G 44 (by decide) lo_bD i24 (og_at (ixlt i24)) dB_squareOutside_24 ?_
      refine w_aload_n (pc := 25) (q := 1) G dB_squareOutside_25 rfl rfl ?_
      obtain ⟨r26, e26, h⟩ := bd h
      refine w_callSN (pc := 26) (av := [.ref (κ.1 (45 + v4.toNatClampNeg)), .ref (κ.1 112)]) (rest := []) (v := some (.long r26)) (L' := (LM κ τ (LC κ (x_added, x_asked, x_eR, x_et, x_oR, x_ot, x_bR, x_bD, x_bQ, x_bW, x_bS, x_bM, x_bT, x_bn, x_tg, x_tb, x_ts, x_fg, x_fb, x_fV, x_fS, x_fn, x_cg, x_cb, x_cB, x_cq, x_vHeld, x_vRed, x_vTal, x_vLis)))) G cb_V_product_B_squareOutside_C wd262 wd261 (met_V_product κ (LM κ τ (LC κ (x_added, x_asked, x_eR, x_et, x_oR, x_ot, x_bR, x_bD, x_bQ, x_bW, x_bS, x_bM, x_bT, x_bn, x_tg, x_tb, x_ts, x_fg, x_fb, x_fV, x_fS, x_fn, x_cg, x_cb, x_cB, x_cq, x_vHeld, x_vRed, x_vTal, x_vLis))) F  (45 + v4.toNatClampNeg) (nw_bD (ixlt i24)) (x_bD v4.toNatClampNeg) (lk_bD (ixlt i24)) 112 (by decide) x_cg lk_cg e26) rfl rfl rfl (Nat.le_of_ble_eq_true rfl) dB_squareOutside_26 ?_
      refine w_lstore (pc := 29) (lv' := [(5, .long r26), (0, .ref (κ.1 38)), (1, .ref (κ.1 112)), (2, .long v2), (4, .int v4)]) G dB_squareOutside_29 (by decide) rfl ?_
      refine w_lload_n (pc := 31) (q := 3) G dB_squareOutside_31 rfl rfl ?_
      refine w_lload (pc := 32) (q := 0) G dB_squareOutside_32 rfl ?_
      refine w_lneg (pc := 34) G dB_squareOutside_34 ?_
      refine w_lload (pc := 35) (q := 0) G dB_squareOutside_35 rfl ?_
      refine w_lmul (pc := 37) G dB_squareOutside_37 ?_
      refine w_aload_n (pc := 38) (q := 1) G dB_squareOutside_38 rfl rfl ?_
      refine w_get (pc := 39) (v := .ref (κ.1 49)) (fs := fl_B κ (x_added, x_asked, x_eR, x_et, x_oR, x_ot, x_bR, x_bD, x_bQ, x_bW, x_bS, x_bM, x_bT, x_bn, x_tg, x_tb, x_ts, x_fg, x_fb, x_fV, x_fS, x_fn, x_cg, x_cb, x_cB, x_cq, x_vHeld, x_vRed, x_vTal, x_vLis)) G 38 (by decide) lb_B rfl wsB_ok 2 (by decide) wd46 gf_B_2 dB_squareOutside_39 ?_
      refine w_iload (pc := 42) (q := 4) G dB_squareOutside_42 rfl ?_
      obtain ⟨i44, h⟩ := gd_some h
      refine w_lald (pc := 44) (n := 4) (f := x_bQ) G 49 (by decide) lk_bQ i44 dB_squareOutside_44 ?_
      obtain ⟨r45, e45, h⟩ := bd h
      refine w_callS (pc := 45) (av := [.long ((-r26) * r26), .long (x_bQ v4.toNatClampNeg)]) (rest := [.long v2]) (v := some (.long r45)) (L' := (LM κ τ (LC κ (x_added, x_asked, x_eR, x_et, x_oR, x_ot, x_bR, x_bD, x_bQ, x_bW, x_bS, x_bM, x_bT, x_bn, x_tg, x_tb, x_ts, x_fg, x_fb, x_fV, x_fS, x_fn, x_cg, x_cb, x_cB, x_cq, x_vHeld, x_vRed, x_vTal, x_vLis)))) G cb_JM_floorDiv_B_squareOutside_C wd197 wd376 (met_JM_floorDiv κ (LM κ τ (LC κ (x_added, x_asked, x_eR, x_et, x_oR, x_ot, x_bR, x_bD, x_bQ, x_bW, x_bS, x_bM, x_bT, x_bn, x_tg, x_tb, x_ts, x_fg, x_fb, x_fV, x_fS, x_fn, x_cg, x_cb, x_cB, x_cq, x_vHeld, x_vRed, x_vTal, x_vLis))) F ((-r26) * r26) (x_bQ v4.toNatClampNeg)  e45) rfl rfl rfl (Nat.le_of_ble_eq_true rfl) dB_squareOutside_45 ?_
      refine w_ladd (pc := 48) G dB_squareOutside_48 ?_
      refine w_lstore_n (pc := 49) (lv' := [(2, .long (v2 + r45)), (5, .long r26), (0, .ref (κ.1 38)), (1, .ref (κ.1 112)), (4, .int v4)]) G dB_squareOutside_49 rfl (by decide) rfl ?_
      refine w_iinc (pc := 50) (q0 := 4) (v := (v4 + 1)) (lv' := [(4, .int (v4 + 1)), (2, .long (v2 + r45)), (5, .long r26), (0, .ref (κ.1 38)), (1, .ref (κ.1 112))]) G dB_squareOutside_50 rfl rfl (by decide) rfl ?_
      refine w_goto (pc := 53) (tgt := 9) G dB_squareOutside_53 (by decide) ?_
      refine w_sub (lv' := [(0, .ref (κ.1 38)), (1, .ref (κ.1 112)), (2, .long (v2 + r45)), (4, .int (v4 + 1))]) [3, 4, 1, 0] rfl ?_
      exact ih (v2 + r45) (v4 + 1) out h K
set_option maxHeartbeats 8000000 in
set_option maxRecDepth 100000 in
theorem met_B_squareOutside_C (κ : ctx) (τ : MS) (F : Nat) {x_added : Nat → Nat → Int64} {x_asked : Nat → Int64} {x_eR : Nat → Nat → Int64} {x_et : Nat → Int64} {x_oR : Nat → Nat → Int64} {x_ot : Nat → Int64} {x_bR : Nat → Nat → Int64} {x_bD : Nat → Nat → Int64} {x_bQ : Nat → Int64} {x_bW : Nat → Int64} {x_bS : Nat → Nat → Int64} {x_bM : Nat → Nat → Int64} {x_bT : Nat → Int64} {x_bn : Int32} {x_tg : Nat → Int64} {x_tb : Int64} {x_ts : Nat → Int32} {x_fg : Nat → Int64} {x_fb : Int64} {x_fV : Nat → Nat → Int64} {x_fS : Nat → Int64} {x_fn : Int32} {x_cg : Nat → Int64} {x_cb : Int64} {x_cB : Nat → Int64} {x_cq : Int64} {x_vHeld : Int32} {x_vRed : Int32} {x_vTal : Int32} {x_vLis : Int32}  {out : Int64} (h : B_squareOutside F  x_bD x_bQ x_bn x_cg  = some out) : Mt yB_squareOutside cB_squareOutside 7 (some .long) rm_B_squareOutside_C κ [.ref (κ.1 38), .ref (κ.1 112)] (LM κ τ (LC κ (x_added, x_asked, x_eR, x_et, x_oR, x_ot, x_bR, x_bD, x_bQ, x_bW, x_bS, x_bM, x_bT, x_bn, x_tg, x_tb, x_ts, x_fg, x_fb, x_fV, x_fS, x_fn, x_cg, x_cb, x_cB, x_cq, x_vHeld, x_vRed, x_vTal, x_vLis))) (some (.long out)) (LM κ τ (LC κ (x_added, x_asked, x_eR, x_et, x_oR, x_ot, x_bR, x_bD, x_bQ, x_bW, x_bS, x_bM, x_bT, x_bn, x_tg, x_tb, x_ts, x_fg, x_fb, x_fV, x_fS, x_fn, x_cg, x_cb, x_cB, x_cq, x_vHeld, x_vRed, x_vTal, x_vLis))) := by
  refine Mt.of (by decide) (Nat.le_of_ble_eq_true rfl) ?_
  intro g G Fh
  unfold B_squareOutside at h
  show J g κ 7 0 [(0, .ref (κ.1 38)), (1, .ref (κ.1 112))] [] (LM κ τ (LC κ (x_added, x_asked, x_eR, x_et, x_oR, x_ot, x_bR, x_bD, x_bQ, x_bW, x_bS, x_bM, x_bT, x_bn, x_tg, x_tb, x_ts, x_fg, x_fb, x_fV, x_fS, x_fn, x_cg, x_cb, x_cB, x_cq, x_vHeld, x_vRed, x_vTal, x_vLis)))
  refine w_aload_n (pc := 0) (q := 1) G dB_squareOutside_0 rfl rfl ?_
  refine w_aload_n (pc := 1) (q := 1) G dB_squareOutside_1 rfl rfl ?_
  obtain ⟨r2, e2, h⟩ := bd h
  refine w_callSN (pc := 2) (av := [.ref (κ.1 112), .ref (κ.1 112)]) (rest := []) (v := some (.long r2)) (L' := (LM κ τ (LC κ (x_added, x_asked, x_eR, x_et, x_oR, x_ot, x_bR, x_bD, x_bQ, x_bW, x_bS, x_bM, x_bT, x_bn, x_tg, x_tb, x_ts, x_fg, x_fb, x_fV, x_fS, x_fn, x_cg, x_cb, x_cB, x_cq, x_vHeld, x_vRed, x_vTal, x_vLis)))) G cb_V_product_B_squareOutside_C wd262 wd261 (met_V_product κ (LM κ τ (LC κ (x_added, x_asked, x_eR, x_et, x_oR, x_ot, x_bR, x_bD, x_bQ, x_bW, x_bS, x_bM, x_bT, x_bn, x_tg, x_tb, x_ts, x_fg, x_fb, x_fV, x_fS, x_fn, x_cg, x_cb, x_cB, x_cq, x_vHeld, x_vRed, x_vTal, x_vLis))) F  112 (by decide) x_cg lk_cg 112 (by decide) x_cg lk_cg e2) rfl rfl rfl (Nat.le_of_ble_eq_true rfl) dB_squareOutside_2 ?_
  refine w_lstore_n (pc := 5) (lv' := [(2, .long r2), (0, .ref (κ.1 38)), (1, .ref (κ.1 112))]) G dB_squareOutside_5 rfl (by decide) rfl ?_
  refine w_iconst (pc := 6) (v := (0 : Int32)) G dB_squareOutside_6 (by decide) ?_
  refine w_istore (pc := 7) (lv' := [(4, .int (0 : Int32)), (2, .long r2), (0, .ref (κ.1 38)), (1, .ref (κ.1 112))]) G dB_squareOutside_7 (by decide) rfl ?_
  refine w_sub (lv' := [(0, .ref (κ.1 38)), (1, .ref (κ.1 112)), (2, .long r2), (4, .int (0 : Int32))]) [2, 3, 1, 0] rfl ?_
  obtain ⟨o9_7, eo9_7, h⟩ := bd h
  refine lB_squareOutside_C_9_ok G τ F  F r2 (0 : Int32) o9_7 eo9_7 ?_
  refine w_lconst (pc := 56) (v := (0 : Int64)) G dB_squareOutside_56 (by decide) ?_
  refine w_lload_n (pc := 57) (q := 0) G dB_squareOutside_57 rfl rfl ?_
  refine w_max (pc := 58) G wd302 wd303 wd10 wd304 (by decide) (Nat.le_of_ble_eq_true rfl) dB_squareOutside_58 ?_
  obtain rfl := Option.some.inj h
  exact w_lret (pc := 61) G dB_squareOutside_61 Fh
