def rm_E_clear : Room := { frames := 1, cells := 0, slots := 0, locals := 24 }
theorem dE_clear_0 : decode cE_clear 0 = .ok (.iconst 0, 1) := by decide +kernel
theorem dE_clear_1 : decode cE_clear 1 = .ok (.istore_n 1, 1) := by decide +kernel
theorem dE_clear_2 : decode cE_clear 2 = .ok (.iload_n 1, 1) := by decide +kernel
theorem dE_clear_3 : decode cE_clear 3 = .ok (.iconst 4, 1) := by decide +kernel
theorem dE_clear_4 : decode cE_clear 4 = .ok (.if_icmp .ge 19, 3) := by decide +kernel
theorem dE_clear_7 : decode cE_clear 7 = .ok (.aload_n 0, 1) := by decide +kernel
theorem dE_clear_8 : decode cE_clear 8 = .ok (.getfield 11, 3) := by decide +kernel
theorem dE_clear_11 : decode cE_clear 11 = .ok (.iload_n 1, 1) := by decide +kernel
theorem dE_clear_12 : decode cE_clear 12 = .ok (.aaload, 1) := by decide +kernel
theorem dE_clear_13 : decode cE_clear 13 = .ok (.lconst 0, 1) := by decide +kernel
theorem dE_clear_14 : decode cE_clear 14 = .ok (.invokestatic 20, 3) := by decide +kernel
theorem dE_clear_17 : decode cE_clear 17 = .ok (.iinc 1 1, 3) := by decide +kernel
theorem dE_clear_20 : decode cE_clear 20 = .ok (.goto (-18), 3) := by decide +kernel
theorem dE_clear_23 : decode cE_clear 23 = .ok (.return_, 1) := by decide +kernel
theorem cb_JA_fillJ_E_clear : CB yJA_fillJ cJA_fillJ 5 none rm_JA_fillJ rm_E_clear 2 := ⟨wd217, wd11, by decide +kernel, rfl, rfl, by decide⟩
noncomputable def lE_clear_2 (F : Nat) : Nat → Int32 → (Nat → Nat → Int64) → Option ((Nat → Nat → Int64))
  | 0, _, _ => none
  | n + 1, v1, x_eR => if (4 : Int32) ≤ v1 then some (x_eR) else gd (vp_in v1 4) ((JA_fillJ F (x_eR v1.toNatClampNeg) (0 : Int64)).bind (fun r14 => lE_clear_2 F   n (v1 + 1) (va_up x_eR v1.toNatClampNeg r14)))
set_option maxHeartbeats 8000000 in
set_option maxRecDepth 100000 in
theorem lE_clear_2_ok {g : Gm} {κ : ctx} (G : OK g κ RE cE_clear 2 none rm_E_clear) (τ : MS) (F : Nat) {x_added : Nat → Nat → Int64} {x_asked : Nat → Int64} {x_et : Nat → Int64} {x_oR : Nat → Nat → Int64} {x_ot : Nat → Int64} {x_bR : Nat → Nat → Int64} {x_bD : Nat → Nat → Int64} {x_bQ : Nat → Int64} {x_bW : Nat → Int64} {x_bS : Nat → Nat → Int64} {x_bM : Nat → Nat → Int64} {x_bT : Nat → Int64} {x_bn : Int32} {x_tg : Nat → Int64} {x_tb : Int64} {x_ts : Nat → Int32} {x_fg : Nat → Int64} {x_fb : Int64} {x_fV : Nat → Nat → Int64} {x_fS : Nat → Int64} {x_fn : Int32} {x_cg : Nat → Int64} {x_cb : Int64} {x_cB : Nat → Int64} {x_cq : Int64} {x_vHeld : Int32} {x_vRed : Int32} {x_vTal : Int32} {x_vLis : Int32} : ∀ (n : Nat) (v1 : Int32) (x_eR : Nat → Nat → Int64) (out : (Nat → Nat → Int64)), lE_clear_2 F    n v1 x_eR = some out → (J g κ 2 23 [] [] (LM κ τ (LC κ (x_added, x_asked, out, x_et, x_oR, x_ot, x_bR, x_bD, x_bQ, x_bW, x_bS, x_bM, x_bT, x_bn, x_tg, x_tb, x_ts, x_fg, x_fb, x_fV, x_fS, x_fn, x_cg, x_cb, x_cB, x_cq, x_vHeld, x_vRed, x_vTal, x_vLis)))) → J g κ 2 2 [(0, .ref (κ.1 24)), (1, .int v1)] [] (LM κ τ (LC κ (x_added, x_asked, x_eR, x_et, x_oR, x_ot, x_bR, x_bD, x_bQ, x_bW, x_bS, x_bM, x_bT, x_bn, x_tg, x_tb, x_ts, x_fg, x_fb, x_fV, x_fS, x_fn, x_cg, x_cb, x_cB, x_cq, x_vHeld, x_vRed, x_vTal, x_vLis))) := by
  intro n
  induction n with
  | zero =>
    intro v1 x_eR
    intro out h
    rw [lE_clear_2] at h
    cases h
  | succ n ih =>
    intro v1 x_eR out h K
    rw [lE_clear_2] at h
    refine w_iload_n (pc := 2) (q := 1) G dE_clear_2 rfl rfl ?_
    refine w_iconst (pc := 3) (v := (4 : Int32)) G dE_clear_3 (by decide) ?_
    refine w_icmp_ge (pc := 4) (tgt := 23) G dE_clear_4 (by decide) (fun c4 => ?_) (fun c4 => ?_)
    · have h := if_t c4 h
      obtain rfl := Option.some.inj h
      refine w_sub (lv' := []) [] rfl ?_
      exact K
    · have h := if_f c4 h
      refine w_aload_n (pc := 7) (q := 0) G dE_clear_7 rfl rfl ?_
      refine w_get (pc := 8) (v := .ref (κ.1 25)) (fs := fl_E κ (x_added, x_asked, x_eR, x_et, x_oR, x_ot, x_bR, x_bD, x_bQ, x_bW, x_bS, x_bM, x_bT, x_bn, x_tg, x_tb, x_ts, x_fg, x_fb, x_fV, x_fS, x_fn, x_cg, x_cb, x_cB, x_cq, x_vHeld, x_vRed, x_vTal, x_vLis)) G 24 (by decide) lb_E rfl wsE_ok 0 (by decide) wd29 gf_E_0 dE_clear_8 ?_
      refine w_iload_n (pc := 11) (q := 1) G dE_clear_11 rfl rfl ?_
      obtain ⟨i12, h⟩ := gd_some h
      refine w_aald (pc := 12) (n := 4) (f := og κ 26 4) (b := κ.1 (26 + v1.toNatClampNeg)) G 25 (by decide) lo_eR i12 (og_at (ixlt i12)) dE_clear_12 ?_
      refine w_lconst (pc := 13) (v := (0 : Int64)) G dE_clear_13 (by decide) ?_
      obtain ⟨r14, e14, h⟩ := bd h
      refine w_callS (pc := 14) (av := [.ref (κ.1 (26 + v1.toNatClampNeg)), .long (0 : Int64)]) (rest := []) (v := none) (L' := (LM κ τ (LC κ (x_added, x_asked, va_up x_eR v1.toNatClampNeg r14, x_et, x_oR, x_ot, x_bR, x_bD, x_bQ, x_bW, x_bS, x_bM, x_bT, x_bn, x_tg, x_tb, x_ts, x_fg, x_fb, x_fV, x_fS, x_fn, x_cg, x_cb, x_cB, x_cq, x_vHeld, x_vRed, x_vTal, x_vLis)))) G cb_JA_fillJ_E_clear wd216 wd215 (Mt.eqw (up_eR (ixlt i12)) (met_JA_fillJ κ (LM κ τ (LC κ (x_added, x_asked, x_eR, x_et, x_oR, x_ot, x_bR, x_bD, x_bQ, x_bW, x_bS, x_bM, x_bT, x_bn, x_tg, x_tb, x_ts, x_fg, x_fb, x_fV, x_fS, x_fn, x_cg, x_cb, x_cB, x_cq, x_vHeld, x_vRed, x_vTal, x_vLis))) F (0 : Int64) (26 + v1.toNatClampNeg) (nw_eR (ixlt i12)) (x_eR v1.toNatClampNeg) (lk_eR (ixlt i12)) e14)) rfl rfl rfl (Nat.le_of_ble_eq_true rfl) dE_clear_14 ?_
      refine w_iinc (pc := 17) (q0 := 1) (v := (v1 + 1)) (lv' := [(1, .int (v1 + 1)), (0, .ref (κ.1 24))]) G dE_clear_17 rfl rfl (by decide) rfl ?_
      refine w_goto (pc := 20) (tgt := 2) G dE_clear_20 (by decide) ?_
      refine w_sub (lv' := [(0, .ref (κ.1 24)), (1, .int (v1 + 1))]) [1, 0] rfl ?_
      exact ih (v1 + 1) (va_up x_eR v1.toNatClampNeg r14) out h K
noncomputable def E_clear (F : Nat)  (x_eR : Nat → Nat → Int64)  : Option ((Nat → Nat → Int64)) := (lE_clear_2 F   F (0 : Int32) x_eR).bind (fun o2_7 => some o2_7)
set_option maxHeartbeats 8000000 in
set_option maxRecDepth 100000 in
theorem met_E_clear (κ : ctx) (τ : MS) (F : Nat) {x_added : Nat → Nat → Int64} {x_asked : Nat → Int64} {x_eR : Nat → Nat → Int64} {x_et : Nat → Int64} {x_oR : Nat → Nat → Int64} {x_ot : Nat → Int64} {x_bR : Nat → Nat → Int64} {x_bD : Nat → Nat → Int64} {x_bQ : Nat → Int64} {x_bW : Nat → Int64} {x_bS : Nat → Nat → Int64} {x_bM : Nat → Nat → Int64} {x_bT : Nat → Int64} {x_bn : Int32} {x_tg : Nat → Int64} {x_tb : Int64} {x_ts : Nat → Int32} {x_fg : Nat → Int64} {x_fb : Int64} {x_fV : Nat → Nat → Int64} {x_fS : Nat → Int64} {x_fn : Int32} {x_cg : Nat → Int64} {x_cb : Int64} {x_cB : Nat → Int64} {x_cq : Int64} {x_vHeld : Int32} {x_vRed : Int32} {x_vTal : Int32} {x_vLis : Int32}  {out : (Nat → Nat → Int64)} (h : E_clear F  x_eR  = some out) : Mt yE_clear cE_clear 2 none rm_E_clear κ [.ref (κ.1 24)] (LM κ τ (LC κ (x_added, x_asked, x_eR, x_et, x_oR, x_ot, x_bR, x_bD, x_bQ, x_bW, x_bS, x_bM, x_bT, x_bn, x_tg, x_tb, x_ts, x_fg, x_fb, x_fV, x_fS, x_fn, x_cg, x_cb, x_cB, x_cq, x_vHeld, x_vRed, x_vTal, x_vLis))) none (LM κ τ (LC κ (x_added, x_asked, out, x_et, x_oR, x_ot, x_bR, x_bD, x_bQ, x_bW, x_bS, x_bM, x_bT, x_bn, x_tg, x_tb, x_ts, x_fg, x_fb, x_fV, x_fS, x_fn, x_cg, x_cb, x_cB, x_cq, x_vHeld, x_vRed, x_vTal, x_vLis))) := by
  refine Mt.of (by decide) (Nat.le_of_ble_eq_true rfl) ?_
  intro g G Fh
  unfold E_clear at h
  show J g κ 2 0 [(0, .ref (κ.1 24))] [] (LM κ τ (LC κ (x_added, x_asked, x_eR, x_et, x_oR, x_ot, x_bR, x_bD, x_bQ, x_bW, x_bS, x_bM, x_bT, x_bn, x_tg, x_tb, x_ts, x_fg, x_fb, x_fV, x_fS, x_fn, x_cg, x_cb, x_cB, x_cq, x_vHeld, x_vRed, x_vTal, x_vLis)))
  refine w_iconst (pc := 0) (v := (0 : Int32)) G dE_clear_0 (by decide) ?_
  refine w_istore_n (pc := 1) (lv' := [(1, .int (0 : Int32)), (0, .ref (κ.1 24))]) G dE_clear_1 rfl (by decide) rfl ?_
  refine w_sub (lv' := [(0, .ref (κ.1 24)), (1, .int (0 : Int32))]) [1, 0] rfl ?_
  obtain ⟨o2_7, eo2_7, h⟩ := bd h
  refine lE_clear_2_ok G τ F  F (0 : Int32) x_eR o2_7 eo2_7 ?_
  obtain rfl := Option.some.inj h
  exact w_vret (pc := 23) G dE_clear_23 Fh
def rm_E_isHeld : Room := { frames := 0, cells := 0, slots := 0, locals := 0 }
theorem dE_isHeld_0 : decode cE_isHeld 0 = .ok (.aload_n 0, 1) := by decide +kernel
theorem dE_isHeld_1 : decode cE_isHeld 1 = .ok (.getfield 11, 3) := by decide +kernel
theorem dE_isHeld_4 : decode cE_isHeld 4 = .ok (.iload_n 1, 1) := by decide +kernel
theorem dE_isHeld_5 : decode cE_isHeld 5 = .ok (.aaload, 1) := by decide +kernel
theorem dE_isHeld_6 : decode cE_isHeld 6 = .ok (.iload_n 1, 1) := by decide +kernel
theorem dE_isHeld_7 : decode cE_isHeld 7 = .ok (.laload, 1) := by decide +kernel
theorem dE_isHeld_8 : decode cE_isHeld 8 = .ok (.lconst 0, 1) := by decide +kernel
theorem dE_isHeld_9 : decode cE_isHeld 9 = .ok (.lcmp, 1) := by decide +kernel
theorem dE_isHeld_10 : decode cE_isHeld 10 = .ok (.ifCond .eq 7, 3) := by decide +kernel
theorem dE_isHeld_13 : decode cE_isHeld 13 = .ok (.iconst 1, 1) := by decide +kernel
theorem dE_isHeld_14 : decode cE_isHeld 14 = .ok (.goto 4, 3) := by decide +kernel
theorem dE_isHeld_17 : decode cE_isHeld 17 = .ok (.iconst 0, 1) := by decide +kernel
theorem dE_isHeld_18 : decode cE_isHeld 18 = .ok (.ireturn, 1) := by decide +kernel
noncomputable def E_isHeld (F : Nat)  (x_eR : Nat → Nat → Int64) (v1 : Int32) : Option (Int32) := gd (vp_in v1 4) (gd (vp_in v1 4) (if ((x_eR v1.toNatClampNeg) v1.toNatClampNeg) = (0 : Int64) then some (0 : Int32) else some (1 : Int32)))
set_option maxHeartbeats 8000000 in
set_option maxRecDepth 100000 in
theorem met_E_isHeld (κ : ctx) (τ : MS) (F : Nat) {x_added : Nat → Nat → Int64} {x_asked : Nat → Int64} {x_eR : Nat → Nat → Int64} {x_et : Nat → Int64} {x_oR : Nat → Nat → Int64} {x_ot : Nat → Int64} {x_bR : Nat → Nat → Int64} {x_bD : Nat → Nat → Int64} {x_bQ : Nat → Int64} {x_bW : Nat → Int64} {x_bS : Nat → Nat → Int64} {x_bM : Nat → Nat → Int64} {x_bT : Nat → Int64} {x_bn : Int32} {x_tg : Nat → Int64} {x_tb : Int64} {x_ts : Nat → Int32} {x_fg : Nat → Int64} {x_fb : Int64} {x_fV : Nat → Nat → Int64} {x_fS : Nat → Int64} {x_fn : Int32} {x_cg : Nat → Int64} {x_cb : Int64} {x_cB : Nat → Int64} {x_cq : Int64} {x_vHeld : Int32} {x_vRed : Int32} {x_vTal : Int32} {x_vLis : Int32} (v1 : Int32) {out : Int32} (h : E_isHeld F  x_eR v1 = some out) : Mt yE_isHeld cE_isHeld 2 (some .boolean) rm_E_isHeld κ [.ref (κ.1 24), .int v1] (LM κ τ (LC κ (x_added, x_asked, x_eR, x_et, x_oR, x_ot, x_bR, x_bD, x_bQ, x_bW, x_bS, x_bM, x_bT, x_bn, x_tg, x_tb, x_ts, x_fg, x_fb, x_fV, x_fS, x_fn, x_cg, x_cb, x_cB, x_cq, x_vHeld, x_vRed, x_vTal, x_vLis))) (some (.int out)) (LM κ τ (LC κ (x_added, x_asked, x_eR, x_et, x_oR, x_ot, x_bR, x_bD, x_bQ, x_bW, x_bS, x_bM, x_bT, x_bn, x_tg, x_tb, x_ts, x_fg, x_fb, x_fV, x_fS, x_fn, x_cg, x_cb, x_cB, x_cq, x_vHeld, x_vRed, x_vTal, x_vLis))) := by
  refine Mt.of (by decide) (Nat.le_of_ble_eq_true rfl) ?_
  intro g G Fh
  unfold E_isHeld at h
  show J g κ 2 0 [(0, .ref (κ.1 24)), (1, .int v1)] [] (LM κ τ (LC κ (x_added, x_asked, x_eR, x_et, x_oR, x_ot, x_bR, x_bD, x_bQ, x_bW, x_bS, x_bM, x_bT, x_bn, x_tg, x_tb, x_ts, x_fg, x_fb, x_fV, x_fS, x_fn, x_cg, x_cb, x_cB, x_cq, x_vHeld, x_vRed, x_vTal, x_vLis)))
  refine w_aload_n (pc := 0) (q := 0) G dE_isHeld_0 rfl rfl ?_
  refine w_get (pc := 1) (v := .ref (κ.1 25)) (fs := fl_E κ (x_added, x_asked, x_eR, x_et, x_oR, x_ot, x_bR, x_bD, x_bQ, x_bW, x_bS, x_bM, x_bT, x_bn, x_tg, x_tb, x_ts, x_fg, x_fb, x_fV, x_fS, x_fn, x_cg, x_cb, x_cB, x_cq, x_vHeld, x_vRed, x_vTal, x_vLis)) G 24 (by decide) lb_E rfl wsE_ok 0 (by decide) wd29 gf_E_0 dE_isHeld_1 ?_
  refine w_iload_n (pc := 4) (q := 1) G dE_isHeld_4 rfl rfl ?_
  obtain ⟨i5, h⟩ := gd_some h
  refine w_aald (pc := 5) (n := 4) (f := og κ 26 4) (b := κ.1 (26 + v1.toNatClampNeg)) G 25 (by decide) lo_eR i5 (og_at (ixlt i5)) dE_isHeld_5 ?_
  refine w_iload_n (pc := 6) (q := 1) G dE_isHeld_6 rfl rfl ?_
  obtain ⟨i7, h⟩ := gd_some h
  refine w_lald (pc := 7) (n := 4) (f := (x_eR v1.toNatClampNeg)) G (26 + v1.toNatClampNeg) (nw_eR (ixlt i5)) (lk_eR (ixlt i5)) i7 dE_isHeld_7 ?_
  refine w_lconst (pc := 8) (v := (0 : Int64)) G dE_isHeld_8 (by decide) ?_
  refine w_lc_eq (pc := 9) (tgt := 17) G dE_isHeld_9 dE_isHeld_10 (by decide) (fun c9 => ?_) (fun c9 => ?_)
  · have h := if_t c9 h
    refine w_iconst (pc := 17) (v := (0 : Int32)) G dE_isHeld_17 (by decide) ?_
    obtain rfl := Option.some.inj h
    exact w_zret (pc := 18) G rfl dE_isHeld_18 Fh
  · have h := if_f c9 h
    refine w_iconst (pc := 13) (v := (1 : Int32)) G dE_isHeld_13 (by decide) ?_
    refine w_goto (pc := 14) (tgt := 18) G dE_isHeld_14 (by decide) ?_
    obtain rfl := Option.some.inj h
    exact w_zret (pc := 18) G rfl dE_isHeld_18 Fh
def rm_E_size : Room := { frames := 1, cells := 0, slots := 0, locals := 21 }
theorem dE_size_0 : decode cE_size 0 = .ok (.iconst 0, 1) := by decide +kernel
theorem dE_size_1 : decode cE_size 1 = .ok (.istore_n 1, 1) := by decide +kernel
theorem dE_size_2 : decode cE_size 2 = .ok (.iconst 0, 1) := by decide +kernel
theorem dE_size_3 : decode cE_size 3 = .ok (.istore_n 2, 1) := by decide +kernel
theorem dE_size_4 : decode cE_size 4 = .ok (.iload_n 2, 1) := by decide +kernel
theorem dE_size_5 : decode cE_size 5 = .ok (.iconst 4, 1) := by decide +kernel
theorem dE_size_6 : decode cE_size 6 = .ok (.if_icmp .ge 25, 3) := by decide +kernel
theorem dE_size_9 : decode cE_size 9 = .ok (.iload_n 1, 1) := by decide +kernel
theorem dE_size_10 : decode cE_size 10 = .ok (.aload_n 0, 1) := by decide +kernel
theorem dE_size_11 : decode cE_size 11 = .ok (.iload_n 2, 1) := by decide +kernel
theorem dE_size_12 : decode cE_size 12 = .ok (.invokevirtual 26, 3) := by decide +kernel
theorem dE_size_15 : decode cE_size 15 = .ok (.ifCond .eq 7, 3) := by decide +kernel
theorem dE_size_18 : decode cE_size 18 = .ok (.iconst 1, 1) := by decide +kernel
theorem dE_size_19 : decode cE_size 19 = .ok (.goto 4, 3) := by decide +kernel
theorem dE_size_22 : decode cE_size 22 = .ok (.iconst 0, 1) := by decide +kernel
theorem dE_size_23 : decode cE_size 23 = .ok (.iadd, 1) := by decide +kernel
theorem dE_size_24 : decode cE_size 24 = .ok (.istore_n 1, 1) := by decide +kernel
theorem dE_size_25 : decode cE_size 25 = .ok (.iinc 2 1, 3) := by decide +kernel
theorem dE_size_28 : decode cE_size 28 = .ok (.goto (-24), 3) := by decide +kernel
theorem dE_size_31 : decode cE_size 31 = .ok (.iload_n 1, 1) := by decide +kernel
theorem dE_size_32 : decode cE_size 32 = .ok (.ireturn, 1) := by decide +kernel
theorem cb_E_isHeld_E_size : CB yE_isHeld cE_isHeld 2 (some .boolean) rm_E_isHeld rm_E_size 1 := ⟨wd195, wd2, by decide +kernel, rfl, rfl, by decide⟩
noncomputable def lE_size_4 (F : Nat) (x_eR : Nat → Nat → Int64) : Nat → Int32 → Int32 → Option (Int32)
  | 0, _, _ => none
  | n + 1, v1, v2 => if (4 : Int32) ≤ v2 then some (v1) else (E_isHeld F x_eR v2).bind (fun r12 => if r12 = 0 then lE_size_4 F  x_eR n (v1 + (0 : Int32)) (v2 + 1) else lE_size_4 F  x_eR n (v1 + (1 : Int32)) (v2 + 1))
set_option maxHeartbeats 8000000 in
set_option maxRecDepth 100000 in
theorem lE_size_4_ok {g : Gm} {κ : ctx} (G : OK g κ RE cE_size 3 (some .int) rm_E_size) (τ : MS) (F : Nat) {x_added : Nat → Nat → Int64} {x_asked : Nat → Int64} {x_eR : Nat → Nat → Int64} {x_et : Nat → Int64} {x_oR : Nat → Nat → Int64} {x_ot : Nat → Int64} {x_bR : Nat → Nat → Int64} {x_bD : Nat → Nat → Int64} {x_bQ : Nat → Int64} {x_bW : Nat → Int64} {x_bS : Nat → Nat → Int64} {x_bM : Nat → Nat → Int64} {x_bT : Nat → Int64} {x_bn : Int32} {x_tg : Nat → Int64} {x_tb : Int64} {x_ts : Nat → Int32} {x_fg : Nat → Int64} {x_fb : Int64} {x_fV : Nat → Nat → Int64} {x_fS : Nat → Int64} {x_fn : Int32} {x_cg : Nat → Int64} {x_cb : Int64} {x_cB : Nat → Int64} {x_cq : Int64} {x_vHeld : Int32} {x_vRed : Int32} {x_vTal : Int32} {x_vLis : Int32} : ∀ (n : Nat) (v1 : Int32) (v2 : Int32) (out : Int32), lE_size_4 F  x_eR  n v1 v2 = some out → (J g κ 3 31 [(1, .int out)] [] (LM κ τ (LC κ (x_added, x_asked, x_eR, x_et, x_oR, x_ot, x_bR, x_bD, x_bQ, x_bW, x_bS, x_bM, x_bT, x_bn, x_tg, x_tb, x_ts, x_fg, x_fb, x_fV, x_fS, x_fn, x_cg, x_cb, x_cB, x_cq, x_vHeld, x_vRed, x_vTal, x_vLis)))) → J g κ 3 4 [(0, .ref (κ.1 24)), (1, .int v1), (2, .int v2)] [] (LM κ τ (LC κ (x_added, x_asked, x_eR, x_et, x_oR, x_ot, x_bR, x_bD, x_bQ, x_bW, x_bS, x_bM, x_bT, x_bn, x_tg, x_tb, x_ts, x_fg, x_fb, x_fV, x_fS, x_fn, x_cg, x_cb, x_cB, x_cq, x_vHeld, x_vRed, x_vTal, x_vLis))) := by
  intro n
  induction n with
  | zero =>
    intro v1 v2
    intro out h
    rw [lE_size_4] at h
    cases h
  | succ n ih =>
    intro v1 v2 out h K
    rw [lE_size_4] at h
    refine w_iload_n (pc := 4) (q := 2) G dE_size_4 rfl rfl ?_
    refine w_iconst (pc := 5) (v := (4 : Int32)) G dE_size_5 (by decide) ?_
    refine w_icmp_ge (pc := 6) (tgt := 31) G dE_size_6 (by decide) (fun c6 => ?_) (fun c6 => ?_)
    · have h := if_t c6 h
      obtain rfl := Option.some.inj h
      refine w_sub (lv' := [(1, .int v1)]) [1] rfl ?_
      exact K
    · have h := if_f c6 h
      refine w_iload_n (pc := 9) (q := 1) G dE_size_9 rfl rfl ?_
      refine w_aload_n (pc := 10) (q := 0) G dE_size_10 rfl rfl ?_
      refine w_iload_n (pc := 11) (q := 2) G dE_size_11 rfl rfl ?_
      obtain ⟨r12, e12, h⟩ := bd h
      refine w_callV (pc := 12) (av := [.int v2]) (rest := [.int v1]) (v := some (.int r12)) (L' := (LM κ τ (LC κ (x_added, x_asked, x_eR, x_et, x_oR, x_ot, x_bR, x_bD, x_bQ, x_bW, x_bS, x_bM, x_bT, x_bn, x_tg, x_tb, x_ts, x_fg, x_fb, x_fV, x_fS, x_fn, x_cg, x_cb, x_cB, x_cq, x_vHeld, x_vRed, x_vTal, x_vLis)))) (T := TE) (fs := fl_E κ (x_added, x_asked, x_eR, x_et, x_oR, x_ot, x_bR, x_bD, x_bQ, x_bW, x_bS, x_bM, x_bT, x_bn, x_tg, x_tb, x_ts, x_fg, x_fb, x_fV, x_fS, x_fn, x_cg, x_cb, x_cB, x_cq, x_vHeld, x_vRed, x_vTal, x_vLis)) G 24 2 2 (by decide) lb_E rfl cb_E_isHeld_E_size wd193 wd194 wd192 (met_E_isHeld κ τ F v2  e12) rfl rfl rfl (Nat.le_of_ble_eq_true rfl) dE_size_12 ?_
      refine w_if_eq (pc := 15) (tgt := 22) G dE_size_15 (by decide) (fun c15 => ?_) (fun c15 => ?_)
      · have h := if_t c15 h
        refine w_iconst (pc := 22) (v := (0 : Int32)) G dE_size_22 (by decide) ?_
        refine w_iadd (pc := 23) G dE_size_23 ?_
        refine w_istore_n (pc := 24) (lv' := [(1, .int (v1 + (0 : Int32))), (0, .ref (κ.1 24)), (2, .int v2)]) G dE_size_24 rfl (by decide) rfl ?_
        refine w_iinc (pc := 25) (q0 := 2) (v := (v2 + 1)) (lv' := [(2, .int (v2 + 1)), (1, .int (v1 + (0 : Int32))), (0, .ref (κ.1 24))]) G dE_size_25 rfl rfl (by decide) rfl ?_
        refine w_goto (pc := 28) (tgt := 4) G dE_size_28 (by decide) ?_
        refine w_sub (lv' := [(0, .ref (κ.1 24)), (1, .int (v1 + (0 : Int32))), (2, .int (v2 + 1))]) [2, 1, 0] rfl ?_
        exact ih (v1 + (0 : Int32)) (v2 + 1) out h K
      · have h := if_f c15 h
        refine w_iconst (pc := 18) (v := (1 : Int32)) G dE_size_18 (by decide) ?_
        refine w_goto (pc := 19) (tgt := 23) G dE_size_19 (by decide) ?_
        refine w_iadd (pc := 23) G dE_size_23 ?_
        refine w_istore_n (pc := 24) (lv' := [(1, .int (v1 + (1 : Int32))), (0, .ref (κ.1 24)), (2, .int v2)]) G dE_size_24 rfl (by decide) rfl ?_
        refine w_iinc (pc := 25) (q0 := 2) (v := (v2 + 1)) (lv' := [(2, .int (v2 + 1)), (1, .int (v1 + (1 : Int32))), (0, .ref (κ.1 24))]) G dE_size_25 rfl rfl (by decide) rfl ?_
        refine w_goto (pc := 28) (tgt := 4) G dE_size_28 (by decide) ?_
        refine w_sub (lv' := [(0, .ref (κ.1 24)), (1, .int (v1 + (1 : Int32))), (2, .int (v2 + 1))]) [2, 1, 0] rfl ?_
        exact ih (v1 + (1 : Int32)) (v2 + 1) out h K
noncomputable def E_size (F : Nat)  (x_eR : Nat → Nat → Int64)  : Option (Int32) := (lE_size_4 F  x_eR F (0 : Int32) (0 : Int32)).bind (fun o4_11 => some o4_11)
set_option maxHeartbeats 8000000 in
set_option maxRecDepth 100000 in
theorem met_E_size (κ : ctx) (τ : MS) (F : Nat) {x_added : Nat → Nat → Int64} {x_asked : Nat → Int64} {x_eR : Nat → Nat → Int64} {x_et : Nat → Int64} {x_oR : Nat → Nat → Int64} {x_ot : Nat → Int64} {x_bR : Nat → Nat → Int64} {x_bD : Nat → Nat → Int64} {x_bQ : Nat → Int64} {x_bW : Nat → Int64} {x_bS : Nat → Nat → Int64} {x_bM : Nat → Nat → Int64} {x_bT : Nat → Int64} {x_bn : Int32} {x_tg : Nat → Int64} {x_tb : Int64} {x_ts : Nat → Int32} {x_fg : Nat → Int64} {x_fb : Int64} {x_fV : Nat → Nat → Int64} {x_fS : Nat → Int64} {x_fn : Int32} {x_cg : Nat → Int64} {x_cb : Int64} {x_cB : Nat → Int64} {x_cq : Int64} {x_vHeld : Int32} {x_vRed : Int32} {x_vTal : Int32} {x_vLis : Int32}  {out : Int32} (h : E_size F  x_eR  = some out) : Mt yE_size cE_size 3 (some .int) rm_E_size κ [.ref (κ.1 24)] (LM κ τ (LC κ (x_added, x_asked, x_eR, x_et, x_oR, x_ot, x_bR, x_bD, x_bQ, x_bW, x_bS, x_bM, x_bT, x_bn, x_tg, x_tb, x_ts, x_fg, x_fb, x_fV, x_fS, x_fn, x_cg, x_cb, x_cB, x_cq, x_vHeld, x_vRed, x_vTal, x_vLis))) (some (.int out)) (LM κ τ (LC κ (x_added, x_asked, x_eR, x_et, x_oR, x_ot, x_bR, x_bD, x_bQ, x_bW, x_bS, x_bM, x_bT, x_bn, x_tg, x_tb, x_ts, x_fg, x_fb, x_fV, x_fS, x_fn, x_cg, x_cb, x_cB, x_cq, x_vHeld, x_vRed, x_vTal, x_vLis))) := by
  refine Mt.of (by decide) (Nat.le_of_ble_eq_true rfl) ?_
  intro g G Fh
  unfold E_size at h
  show J g κ 3 0 [(0, .ref (κ.1 24))] [] (LM κ τ (LC κ (x_added, x_asked, x_eR, x_et, x_oR, x_ot, x_bR, x_bD, x_bQ, x_bW, x_bS, x_bM, x_bT, x_bn, x_tg, x_tb, x_ts, x_fg, x_fb, x_fV, x_fS, x_fn, x_cg, x_cb, x_cB, x_cq, x_vHeld, x_vRed, x_vTal, x_vLis)))
  refine w_iconst (pc := 0) (v := (0 : Int32)) G dE_size_0 (by decide) ?_
  refine w_istore_n (pc := 1) (lv' := [(1, .int (0 : Int32)), (0, .ref (κ.1 24))]) G dE_size_1 rfl (by decide) rfl ?_
  refine w_iconst (pc := 2) (v := (0 : Int32)) G dE_size_2 (by decide) ?_
  refine w_istore_n (pc := 3) (lv' := [(2, .int (0 : Int32)), (1, .int (0 : Int32)), (0, .ref (κ.1 24))]) G dE_size_3 rfl (by decide) rfl ?_
  refine w_sub (lv' := [(0, .ref (κ.1 24)), (1, .int (0 : Int32)), (2, .int (0 : Int32))]) [2, 1, 0] rfl ?_
  obtain ⟨o4_11, eo4_11, h⟩ := bd h
  refine lE_size_4_ok G τ F  F (0 : Int32) (0 : Int32) o4_11 eo4_11 ?_
  refine w_iload_n (pc := 31) (q := 0) G dE_size_31 rfl rfl ?_
  obtain rfl := Option.some.inj h
  exact w_iret (pc := 32) G dE_size_32 Fh
def rm_E_row : Room := { frames := 0, cells := 0, slots := 0, locals := 0 }
theorem dE_row_0 : decode cE_row 0 = .ok (.aload_n 0, 1) := by decide +kernel
theorem dE_row_1 : decode cE_row 1 = .ok (.getfield 11, 3) := by decide +kernel
theorem dE_row_4 : decode cE_row 4 = .ok (.iload_n 1, 1) := by decide +kernel
theorem dE_row_5 : decode cE_row 5 = .ok (.aaload, 1) := by decide +kernel
theorem dE_row_6 : decode cE_row 6 = .ok (.areturn, 1) := by decide +kernel
noncomputable def E_row (F : Nat)   (v1 : Int32) : Option (Unit) := gd (vp_in v1 4) (some ())
set_option maxHeartbeats 8000000 in
set_option maxRecDepth 100000 in
theorem met_E_row (κ : ctx) (τ : MS) (F : Nat) {x_added : Nat → Nat → Int64} {x_asked : Nat → Int64} {x_eR : Nat → Nat → Int64} {x_et : Nat → Int64} {x_oR : Nat → Nat → Int64} {x_ot : Nat → Int64} {x_bR : Nat → Nat → Int64} {x_bD : Nat → Nat → Int64} {x_bQ : Nat → Int64} {x_bW : Nat → Int64} {x_bS : Nat → Nat → Int64} {x_bM : Nat → Nat → Int64} {x_bT : Nat → Int64} {x_bn : Int32} {x_tg : Nat → Int64} {x_tb : Int64} {x_ts : Nat → Int32} {x_fg : Nat → Int64} {x_fb : Int64} {x_fV : Nat → Nat → Int64} {x_fS : Nat → Int64} {x_fn : Int32} {x_cg : Nat → Int64} {x_cb : Int64} {x_cB : Nat → Int64} {x_cq : Int64} {x_vHeld : Int32} {x_vRed : Int32} {x_vTal : Int32} {x_vLis : Int32} (v1 : Int32) {out : Unit} (h : E_row F   v1 = some out) : Mt yE_row cE_row 2 (some (.array .long)) rm_E_row κ [.ref (κ.1 24), .int v1] (LM κ τ (LC κ (x_added, x_asked, x_eR, x_et, x_oR, x_ot, x_bR, x_bD, x_bQ, x_bW, x_bS, x_bM, x_bT, x_bn, x_tg, x_tb, x_ts, x_fg, x_fb, x_fV, x_fS, x_fn, x_cg, x_cb, x_cB, x_cq, x_vHeld, x_vRed, x_vTal, x_vLis))) (some (.ref (κ.1 (26 + v1.toNatClampNeg)))) (LM κ τ (LC κ (x_added, x_asked, x_eR, x_et, x_oR, x_ot, x_bR, x_bD, x_bQ, x_bW, x_bS, x_bM, x_bT, x_bn, x_tg, x_tb, x_ts, x_fg, x_fb, x_fV, x_fS, x_fn, x_cg, x_cb, x_cB, x_cq, x_vHeld, x_vRed, x_vTal, x_vLis))) := by
  refine Mt.of (by decide) (Nat.le_of_ble_eq_true rfl) ?_
  intro g G Fh
  unfold E_row at h
  show J g κ 2 0 [(0, .ref (κ.1 24)), (1, .int v1)] [] (LM κ τ (LC κ (x_added, x_asked, x_eR, x_et, x_oR, x_ot, x_bR, x_bD, x_bQ, x_bW, x_bS, x_bM, x_bT, x_bn, x_tg, x_tb, x_ts, x_fg, x_fb, x_fV, x_fS, x_fn, x_cg, x_cb, x_cB, x_cq, x_vHeld, x_vRed, x_vTal, x_vLis)))
  refine w_aload_n (pc := 0) (q := 0) G dE_row_0 rfl rfl ?_
  refine w_get (pc := 1) (v := .ref (κ.1 25)) (fs := fl_E κ (x_added, x_asked, x_eR, x_et, x_oR, x_ot, x_bR, x_bD, x_bQ, x_bW, x_bS, x_bM, x_bT, x_bn, x_tg, x_tb, x_ts, x_fg, x_fb, x_fV, x_fS, x_fn, x_cg, x_cb, x_cB, x_cq, x_vHeld, x_vRed, x_vTal, x_vLis)) G 24 (by decide) lb_E rfl wsE_ok 0 (by decide) wd29 gf_E_0 dE_row_1 ?_
  refine w_iload_n (pc := 4) (q := 1) G dE_row_4 rfl rfl ?_
  obtain ⟨i5, h⟩ := gd_some h
  refine w_aald (pc := 5) (n := 4) (f := og κ 26 4) (b := κ.1 (26 + v1.toNatClampNeg)) G 25 (by decide) lo_eR i5 (og_at (ixlt i5)) dE_row_5 ?_
  obtain rfl := Option.some.inj h
  exact w_aret (pc := 6) G (Or.inr ⟨_, rfl⟩) dE_row_6 Fh
def rm_E_merge : Room := { frames := 1, cells := 0, slots := 0, locals := 24 }
theorem dE_merge_0 : decode cE_merge 0 = .ok (.iconst 0, 1) := by decide +kernel
theorem dE_merge_1 : decode cE_merge 1 = .ok (.istore_n 3, 1) := by decide +kernel
theorem dE_merge_2 : decode cE_merge 2 = .ok (.iload_n 3, 1) := by decide +kernel
theorem dE_merge_3 : decode cE_merge 3 = .ok (.ldc 42, 2) := by decide +kernel
theorem dE_merge_5 : decode cE_merge 5 = .ok (.if_icmp .ge 84, 3) := by decide +kernel
theorem dE_merge_8 : decode cE_merge 8 = .ok (.aload_n 0, 1) := by decide +kernel
theorem dE_merge_9 : decode cE_merge 9 = .ok (.getfield 16, 3) := by decide +kernel
theorem dE_merge_12 : decode cE_merge 12 = .ok (.iload_n 2, 1) := by decide +kernel
theorem dE_merge_13 : decode cE_merge 13 = .ok (.laload, 1) := by decide +kernel
theorem dE_merge_14 : decode cE_merge 14 = .ok (.lconst 0, 1) := by decide +kernel
theorem dE_merge_15 : decode cE_merge 15 = .ok (.lcmp, 1) := by decide +kernel
theorem dE_merge_16 : decode cE_merge 16 = .ok (.ifCond .eq 73, 3) := by decide +kernel
theorem dE_merge_19 : decode cE_merge 19 = .ok (.aload_n 1, 1) := by decide +kernel
theorem dE_merge_20 : decode cE_merge 20 = .ok (.iload_n 2, 1) := by decide +kernel
theorem dE_merge_21 : decode cE_merge 21 = .ok (.laload, 1) := by decide +kernel
theorem dE_merge_22 : decode cE_merge 22 = .ok (.aload_n 0, 1) := by decide +kernel
theorem dE_merge_23 : decode cE_merge 23 = .ok (.getfield 16, 3) := by decide +kernel
theorem dE_merge_26 : decode cE_merge 26 = .ok (.iload_n 2, 1) := by decide +kernel
theorem dE_merge_27 : decode cE_merge 27 = .ok (.laload, 1) := by decide +kernel
theorem dE_merge_28 : decode cE_merge 28 = .ok (.ldiv, 1) := by decide +kernel
theorem dE_merge_29 : decode cE_merge 29 = .ok (.lstore 4, 2) := by decide +kernel
theorem dE_merge_31 : decode cE_merge 31 = .ok (.iload_n 2, 1) := by decide +kernel
theorem dE_merge_32 : decode cE_merge 32 = .ok (.istore 6, 2) := by decide +kernel
theorem dE_merge_34 : decode cE_merge 34 = .ok (.iload 6, 2) := by decide +kernel
theorem dE_merge_36 : decode cE_merge 36 = .ok (.iconst 4, 1) := by decide +kernel
theorem dE_merge_37 : decode cE_merge 37 = .ok (.if_icmp .ge 46, 3) := by decide +kernel
theorem dE_merge_40 : decode cE_merge 40 = .ok (.aload_n 1, 1) := by decide +kernel
theorem dE_merge_41 : decode cE_merge 41 = .ok (.iload 6, 2) := by decide +kernel
theorem dE_merge_43 : decode cE_merge 43 = .ok (.laload, 1) := by decide +kernel
theorem dE_merge_44 : decode cE_merge 44 = .ok (.lload 4, 2) := by decide +kernel
theorem dE_merge_46 : decode cE_merge 46 = .ok (.aload_n 0, 1) := by decide +kernel
theorem dE_merge_47 : decode cE_merge 47 = .ok (.getfield 16, 3) := by decide +kernel
theorem dE_merge_50 : decode cE_merge 50 = .ok (.iload 6, 2) := by decide +kernel
theorem dE_merge_52 : decode cE_merge 52 = .ok (.laload, 1) := by decide +kernel
theorem dE_merge_53 : decode cE_merge 53 = .ok (.lmul, 1) := by decide +kernel
theorem dE_merge_54 : decode cE_merge 54 = .ok (.lsub, 1) := by decide +kernel
theorem dE_merge_55 : decode cE_merge 55 = .ok (.lstore 7, 2) := by decide +kernel
theorem dE_merge_57 : decode cE_merge 57 = .ok (.aload_n 1, 1) := by decide +kernel
theorem dE_merge_58 : decode cE_merge 58 = .ok (.iload 6, 2) := by decide +kernel
theorem dE_merge_60 : decode cE_merge 60 = .ok (.aload_n 0, 1) := by decide +kernel
theorem dE_merge_61 : decode cE_merge 61 = .ok (.getfield 16, 3) := by decide +kernel
theorem dE_merge_64 : decode cE_merge 64 = .ok (.iload 6, 2) := by decide +kernel
theorem dE_merge_66 : decode cE_merge 66 = .ok (.laload, 1) := by decide +kernel
theorem dE_merge_67 : decode cE_merge 67 = .ok (.lastore, 1) := by decide +kernel
theorem dE_merge_68 : decode cE_merge 68 = .ok (.aload_n 0, 1) := by decide +kernel
theorem dE_merge_69 : decode cE_merge 69 = .ok (.getfield 16, 3) := by decide +kernel
theorem dE_merge_72 : decode cE_merge 72 = .ok (.iload 6, 2) := by decide +kernel
theorem dE_merge_74 : decode cE_merge 74 = .ok (.lload 7, 2) := by decide +kernel
theorem dE_merge_76 : decode cE_merge 76 = .ok (.lastore, 1) := by decide +kernel
theorem dE_merge_77 : decode cE_merge 77 = .ok (.iinc 6 1, 3) := by decide +kernel
theorem dE_merge_80 : decode cE_merge 80 = .ok (.goto (-46), 3) := by decide +kernel
theorem dE_merge_83 : decode cE_merge 83 = .ok (.iinc 3 1, 3) := by decide +kernel
theorem dE_merge_86 : decode cE_merge 86 = .ok (.goto (-84), 3) := by decide +kernel
theorem dE_merge_89 : decode cE_merge 89 = .ok (.aload_n 1, 1) := by decide +kernel
theorem dE_merge_90 : decode cE_merge 90 = .ok (.iload_n 2, 1) := by decide +kernel
theorem dE_merge_91 : decode cE_merge 91 = .ok (.laload, 1) := by decide +kernel
theorem dE_merge_92 : decode cE_merge 92 = .ok (.lconst 0, 1) := by decide +kernel
theorem dE_merge_93 : decode cE_merge 93 = .ok (.lcmp, 1) := by decide +kernel
theorem dE_merge_94 : decode cE_merge 94 = .ok (.ifCond .ge 11, 3) := by decide +kernel
theorem dE_merge_97 : decode cE_merge 97 = .ok (.aload_n 1, 1) := by decide +kernel
theorem dE_merge_98 : decode cE_merge 98 = .ok (.aload_n 1, 1) := by decide +kernel
theorem dE_merge_99 : decode cE_merge 99 = .ok (.ldc2_w 43, 3) := by decide +kernel
theorem dE_merge_102 : decode cE_merge 102 = .ok (.invokestatic 45, 3) := by decide +kernel
theorem dE_merge_105 : decode cE_merge 105 = .ok (.return_, 1) := by decide +kernel
theorem cb_V_addMultipleA_E_merge : CB yV_addMultiple cV_addMultiple 5 none rm_V_addMultipleA rm_E_merge 3 := ⟨wd187, wd1, by decide +kernel, rfl, rfl, by decide⟩
noncomputable def lE_merge_34 (F : Nat) (j1 : Nat) (v2 : Int32) (v3 : Int32) (v4 : Int64) : Nat → Int32 → (Nat → Nat → Int64) → (Nat → Int64) → Option ((Nat → Nat → Int64) × (Nat → Int64))
  | 0, _, _, _ => none
  | n + 1, v6, x_eR, x_et => if (4 : Int32) ≤ v6 then some (x_eR, x_et) else gd (vp_in v6 4) (gd (vp_in v6 4) (gd (vp_in v6 4) (gd (vp_in v6 4) (gd (vp_in v6 4) (lE_merge_34 F  j1 v2 v3 v4 n (v6 + 1) (va_up x_eR j1 (vp_updL (x_eR j1) v6.toNatClampNeg (x_et v6.toNatClampNeg))) (vp_updL x_et v6.toNatClampNeg (((x_eR j1) v6.toNatClampNeg) - (v4 * (x_et v6.toNatClampNeg)))))))))
set_option maxHeartbeats 8000000 in
set_option maxRecDepth 100000 in
theorem lE_merge_34_ok {g : Gm} {κ : ctx} (G : OK g κ RE cE_merge 9 none rm_E_merge) (τ : MS) (F : Nat) {x_added : Nat → Nat → Int64} {x_asked : Nat → Int64} {x_oR : Nat → Nat → Int64} {x_ot : Nat → Int64} {x_bR : Nat → Nat → Int64} {x_bD : Nat → Nat → Int64} {x_bQ : Nat → Int64} {x_bW : Nat → Int64} {x_bS : Nat → Nat → Int64} {x_bM : Nat → Nat → Int64} {x_bT : Nat → Int64} {x_bn : Int32} {x_tg : Nat → Int64} {x_tb : Int64} {x_ts : Nat → Int32} {x_fg : Nat → Int64} {x_fb : Int64} {x_fV : Nat → Nat → Int64} {x_fS : Nat → Int64} {x_fn : Int32} {x_cg : Nat → Int64} {x_cb : Int64} {x_cB : Nat → Int64} {x_cq : Int64} {x_vHeld : Int32} {x_vRed : Int32} {x_vTal : Int32} {x_vLis : Int32} (j1 : Nat) (p1 : j1 < 4) (v2 : Int32) (v3 : Int32) (v4 : Int64) : ∀ (n : Nat) (v6 : Int32) (x_eR : Nat → Nat → Int64) (x_et : Nat → Int64) (out : (Nat → Nat → Int64) × (Nat → Int64)), lE_merge_34 F   j1 v2 v3 v4 n v6 x_eR x_et = some out → (J g κ 9 83 [(0, .ref (κ.1 24)), (1, .ref (κ.1 (26 + j1))), (2, .int v2), (3, .int v3)] [] (LM κ τ (LC κ (x_added, x_asked, out.1, out.2, x_oR, x_ot, x_bR, x_bD, x_bQ, x_bW, x_bS, x_bM, x_bT, x_bn, x_tg, x_tb, x_ts, x_fg, x_fb, x_fV, x_fS, x_fn, x_cg, x_cb, x_cB, x_cq, x_vHeld, x_vRed, x_vTal, x_vLis)))) → J g κ 9 34 [(0, .ref (κ.1 24)), (1, .ref (κ.1 (26 + j1))), (2, .int v2), (3, .int v3), (4, .long v4), (6, .int v6)] [] (LM κ τ (LC κ (x_added, x_asked, x_eR, x_et, x_oR, x_ot, x_bR, x_bD, x_bQ, x_bW, x_bS, x_bM, x_bT, x_bn, x_tg, x_tb, x_ts, x_fg, x_fb, x_fV, x_fS, x_fn, x_cg, x_cb, x_cB, x_cq, x_vHeld, x_vRed, x_vTal, x_vLis))) := by
  intro n
  induction n with
  | zero =>
    intro v6 x_eR x_et
    intro out h
    rw [lE_merge_34] at h
    cases h
  | succ n ih =>
    intro v6 x_eR x_et out h K
    rw [lE_merge_34] at h
    refine w_iload (pc := 34) (q := 5) G dE_merge_34 rfl ?_
    refine w_iconst (pc := 36) (v := (4 : Int32)) G dE_merge_36 (by decide) ?_
    refine w_icmp_ge (pc := 37) (tgt := 83) G dE_merge_37 (by decide) (fun c37 => ?_) (fun c37 => ?_)
    · have h := if_t c37 h
      obtain rfl := Option.some.inj h
      refine w_sub (lv' := [(0, .ref (κ.1 24)), (1, .ref (κ.1 (26 + j1))), (2, .int v2), (3, .int v3)]) [0, 1, 2, 3] rfl ?_
      exact K
    · have h := if_f c37 h
      refine w_aload_n (pc := 40) (q := 1) G dE_merge_40 rfl rfl ?_
      refine w_iload (pc := 41) (q := 5) G dE_merge_41 rfl ?_
      obtain ⟨i43, h⟩ := gd_some h
      refine w_lald (pc := 43) (n := 4) (f := (x_eR j1)) G (26 + j1) (nw_eR p1) (lk_eR p1) i43 dE_merge_43 ?_
      refine w_lload (pc := 44) (q := 4) G dE_merge_44 rfl ?_
      refine w_aload_n (pc := 46) (q := 0) G dE_merge_46 rfl rfl ?_
      refine w_get (pc := 47) (v := .ref (κ.1 30)) (fs := fl_E κ (x_added, x_asked, x_eR, x_et, x_oR, x_ot, x_bR, x_bD, x_bQ, x_bW, x_bS, x_bM, x_bT, x_bn, x_tg, x_tb, x_ts, x_fg, x_fb, x_fV, x_fS, x_fn, x_cg, x_cb, x_cB, x_cq, x_vHeld, x_vRed, x_vTal, x_vLis)) G 24 (by decide) lb_E rfl wsE_ok 1 (by decide) wd30 gf_E_1 dE_merge_47 ?_
      refine w_iload (pc := 50) (q := 5) G dE_merge_50 rfl ?_
      obtain ⟨i52, h⟩ := gd_some h
      refine w_lald (pc := 52) (n := 4) (f := x_et) G 30 (by decide) lk_et i52 dE_merge_52 ?_
      refine w_lmul (pc := 53) G dE_merge_53 ?_
      refine w_lsub (pc := 54) G dE_merge_54 ?_
      refine w_lstore (pc := 55) (lv' := [(7, .long (((x_eR j1) v6.toNatClampNeg) - (v4 * (x_et v6.toNatClampNeg)))), (0, .ref (κ.1 24)), (1, .ref (κ.1 (26 + j1))), (2, .int v2), (3, .int v3), (4, .long v4), (6, .int v6)]) G dE_merge_55 (by decide) rfl ?_
      refine w_aload_n (pc := 57) (q := 2) G dE_merge_57 rfl rfl ?_
      refine w_iload (pc := 58) (q := 6) G dE_merge_58 rfl ?_
      refine w_aload_n (pc := 60) (q := 1) G dE_merge_60 rfl rfl ?_
      refine w_get (pc := 61) (v := .ref (κ.1 30)) (fs := fl_E κ (x_added, x_asked, x_eR, x_et, x_oR, x_ot, x_bR, x_bD, x_bQ, x_bW, x_bS, x_bM, x_bT, x_bn, x_tg, x_tb, x_ts, x_fg, x_fb, x_fV, x_fS, x_fn, x_cg, x_cb, x_cB, x_cq, x_vHeld, x_vRed, x_vTal, x_vLis)) G 24 (by decide) lb_E rfl wsE_ok 1 (by decide) wd30 gf_E_1 dE_merge_61 ?_
      refine w_iload (pc := 64) (q := 6) G dE_merge_64 rfl ?_
      obtain ⟨i66, h⟩ := gd_some h
      refine w_lald (pc := 66) (n := 4) (f := x_et) G 30 (by decide) lk_et i66 dE_merge_66 ?_
      obtain ⟨i67, h⟩ := gd_some h
      refine w_last (pc := 67) (n := 4) (f := (x_eR j1)) (L1 := (LM κ τ (LC κ (x_added, x_asked, va_up x_eR j1 (vp_updL (x_eR j1) v6.toNatClampNeg (x_et v6.toNatClampNeg)), x_et, x_oR, x_ot, x_bR, x_bD, x_bQ, x_bW, x_bS, x_bM, x_bT, x_bn, x_tg, x_tb, x_ts, x_fg, x_fb, x_fV, x_fS, x_fn, x_cg, x_cb, x_cB, x_cq, x_vHeld, x_vRed, x_vTal, x_vLis)))) G (26 + j1) (nw_eR p1) (lk_eR p1) i67 dE_merge_67 (up_eR p1) ?_
      refine w_aload_n (pc := 68) (q := 1) G dE_merge_68 rfl rfl ?_
      refine w_get (pc := 69) (v := .ref (κ.1 30)) (fs := fl_E κ (x_added, x_asked, va_up x_eR j1 (vp_updL (x_eR j1) v6.toNatClampNeg (x_et v6.toNatClampNeg)), x_et, x_oR, x_ot, x_bR, x_bD, x_bQ, x_bW, x_bS, x_bM, x_bT, x_bn, x_tg, x_tb, x_ts, x_fg, x_fb, x_fV, x_fS, x_fn, x_cg, x_cb, x_cB, x_cq, x_vHeld, x_vRed, x_vTal, x_vLis)) G 24 (by decide) lb_E rfl wsE_ok 1 (by decide) wd30 gf_E_1 dE_merge_69 ?_
      refine w_iload (pc := 72) (q := 6) G dE_merge_72 rfl ?_
      refine w_lload (pc := 74) (q := 0) G dE_merge_74 rfl ?_
      obtain ⟨i76, h⟩ := gd_some h
      refine w_last (pc := 76) (n := 4) (f := x_et) (L1 := (LM κ τ (LC κ (x_added, x_asked, va_up x_eR j1 (vp_updL (x_eR j1) v6.toNatClampNeg (x_et v6.toNatClampNeg)), vp_updL x_et v6.toNatClampNeg (((x_eR j1) v6.toNatClampNeg) - (v4 * (x_et v6.toNatClampNeg))), x_oR, x_ot, x_bR, x_bD, x_bQ, x_bW, x_bS, x_bM, x_bT, x_bn, x_tg, x_tb, x_ts, x_fg, x_fb, x_fV, x_fS, x_fn, x_cg, x_cb, x_cB, x_cq, x_vHeld, x_vRed, x_vTal, x_vLis)))) G 30 (by decide) lk_et i76 dE_merge_76 up_et ?_
      refine w_iinc (pc := 77) (q0 := 6) (v := (v6 + 1)) (lv' := [(6, .int (v6 + 1)), (7, .long (((x_eR j1) v6.toNatClampNeg) - (v4 * (x_et v6.toNatClampNeg)))), (0, .ref (κ.1 24)), (1, .ref (κ.1 (26 + j1))), (2, .int v2), (3, .int v3), (4, .long v4)]) G dE_merge_77 rfl rfl (by decide) rfl ?_
      refine w_goto (pc := 80) (tgt := 34) G dE_merge_80 (by decide) ?_
      refine w_sub (lv' := [(0, .ref (κ.1 24)), (1, .ref (κ.1 (26 + j1))), (2, .int v2), (3, .int v3), (4, .long v4), (6, .int (v6 + 1))]) [2, 3, 4, 5, 6, 0] rfl ?_
      exact ih (v6 + 1) (va_up x_eR j1 (vp_updL (x_eR j1) v6.toNatClampNeg (x_et v6.toNatClampNeg))) (vp_updL x_et v6.toNatClampNeg (((x_eR j1) v6.toNatClampNeg) - (v4 * (x_et v6.toNatClampNeg)))) out h K
noncomputable def lE_merge_2 (F : Nat) (j1 : Nat) (v2 : Int32) : Nat → Int32 → (Nat → Nat → Int64) → (Nat → Int64) → Option ((Nat → Nat → Int64) × (Nat → Int64))
  | 0, _, _, _ => none
  | n + 1, v3, x_eR, x_et => if (1000000 : Int32) ≤ v3 then some (x_eR, x_et) else gd (vp_in v2 4) (if (x_et v2.toNatClampNeg) = (0 : Int64) then some (x_eR, x_et) else gd (vp_in v2 4) (gd (vp_in v2 4) (gd (¬ (x_et v2.toNatClampNeg) = 0) ((lE_merge_34 F  j1 v2 v3 (((x_eR j1) v2.toNatClampNeg) / (x_et v2.toNatClampNeg)) F v2 x_eR x_et).bind (fun o34_20 => lE_merge_2 F  j1 v2 n (v3 + 1) o34_20.1 o34_20.2)))))
set_option maxHeartbeats 8000000 in
set_option maxRecDepth 100000 in
theorem lE_merge_2_ok {g : Gm} {κ : ctx} (G : OK g κ RE cE_merge 9 none rm_E_merge) (τ : MS) (F : Nat) {x_added : Nat → Nat → Int64} {x_asked : Nat → Int64} {x_oR : Nat → Nat → Int64} {x_ot : Nat → Int64} {x_bR : Nat → Nat → Int64} {x_bD : Nat → Nat → Int64} {x_bQ : Nat → Int64} {x_bW : Nat → Int64} {x_bS : Nat → Nat → Int64} {x_bM : Nat → Nat → Int64} {x_bT : Nat → Int64} {x_bn : Int32} {x_tg : Nat → Int64} {x_tb : Int64} {x_ts : Nat → Int32} {x_fg : Nat → Int64} {x_fb : Int64} {x_fV : Nat → Nat → Int64} {x_fS : Nat → Int64} {x_fn : Int32} {x_cg : Nat → Int64} {x_cb : Int64} {x_cB : Nat → Int64} {x_cq : Int64} {x_vHeld : Int32} {x_vRed : Int32} {x_vTal : Int32} {x_vLis : Int32} (j1 : Nat) (p1 : j1 < 4) (v2 : Int32) : ∀ (n : Nat) (v3 : Int32) (x_eR : Nat → Nat → Int64) (x_et : Nat → Int64) (out : (Nat → Nat → Int64) × (Nat → Int64)), lE_merge_2 F   j1 v2 n v3 x_eR x_et = some out → (J g κ 9 89 [(1, .ref (κ.1 (26 + j1))), (2, .int v2)] [] (LM κ τ (LC κ (x_added, x_asked, out.1, out.2, x_oR, x_ot, x_bR, x_bD, x_bQ, x_bW, x_bS, x_bM, x_bT, x_bn, x_tg, x_tb, x_ts, x_fg, x_fb, x_fV, x_fS, x_fn, x_cg, x_cb, x_cB, x_cq, x_vHeld, x_vRed, x_vTal, x_vLis)))) → J g κ 9 2 [(0, .ref (κ.1 24)), (1, .ref (κ.1 (26 + j1))), (2, .int v2), (3, .int v3)] [] (LM κ τ (LC κ (x_added, x_asked, x_eR, x_et, x_oR, x_ot, x_bR, x_bD, x_bQ, x_bW, x_bS, x_bM, x_bT, x_bn, x_tg, x_tb, x_ts, x_fg, x_fb, x_fV, x_fS, x_fn, x_cg, x_cb, x_cB, x_cq, x_vHeld, x_vRed, x_vTal, x_vLis))) := by
  intro n
  induction n with
  | zero =>
    intro v3 x_eR x_et
    intro out h
    rw [lE_merge_2] at h
    cases h
  | succ n ih =>
    intro v3 x_eR x_et out h K
    rw [lE_merge_2] at h
    refine w_iload_n (pc := 2) (q := 3) G dE_merge_2 rfl rfl ?_
    refine w_ldc (pc := 3) (v := (1000000 : Int32)) G wd183 dE_merge_3 ?_
    refine w_icmp_ge (pc := 5) (tgt := 89) G dE_merge_5 (by decide) (fun c5 => ?_) (fun c5 => ?_)
    · have h := if_t c5 h
      obtain rfl := Option.some.inj h
      refine w_sub (lv' := [(1, .ref (κ.1 (26 + j1))), (2, .int v2)]) [1, 2] rfl ?_
      exact K
    · have h := if_f c5 h
      refine w_aload_n (pc := 8) (q := 0) G dE_merge_8 rfl rfl ?_
      refine w_get (pc := 9) (v := .ref (κ.1 30)) (fs := fl_E κ (x_added, x_asked, x_eR, x_et, x_oR, x_ot, x_bR, x_bD, x_bQ, x_bW, x_bS, x_bM, x_bT, x_bn, x_tg, x_tb, x_ts, x_fg, x_fb, x_fV, x_fS, x_fn, x_cg, x_cb, x_cB, x_cq, x_vHeld, x_vRed, x_vTal, x_vLis)) G 24 (by decide) lb_E rfl wsE_ok 1 (by decide) wd30 gf_E_1 dE_merge_9 ?_
      refine w_iload_n (pc := 12) (q := 2) G dE_merge_12 rfl rfl ?_
      obtain ⟨i13, h⟩ := gd_some h
      refine w_lald (pc := 13) (n := 4) (f := x_et) G 30 (by decide) lk_et i13 dE_merge_13 ?_
      refine w_lconst (pc := 14) (v := (0 : Int64)) G dE_merge_14 (by decide) ?_
      refine w_lc_eq (pc := 15) (tgt := 89) G dE_merge_15 dE_merge_16 (by decide) (fun c15 => ?_) (fun c15 => ?_)
      · have h := if_t c15 h
        obtain rfl := Option.some.inj h
        refine w_sub (lv' := [(1, .ref (κ.1 (26 + j1))), (2, .int v2)]) [1, 2] rfl ?_
        exact K
      · have h := if_f c15 h
        refine w_aload_n (pc := 19) (q := 1) G dE_merge_19 rfl rfl ?_
        refine w_iload_n (pc := 20) (q := 2) G dE_merge_20 rfl rfl ?_
        obtain ⟨i21, h⟩ := gd_some h
        refine w_lald (pc := 21) (n := 4) (f := (x_eR j1)) G (26 + j1) (nw_eR p1) (lk_eR p1) i21 dE_merge_21 ?_
        refine w_aload_n (pc := 22) (q := 0) G dE_merge_22 rfl rfl ?_
        refine w_get (pc := 23) (v := .ref (κ.1 30)) (fs := fl_E κ (x_added, x_asked, x_eR, x_et, x_oR, x_ot, x_bR, x_bD, x_bQ, x_bW, x_bS, x_bM, x_bT, x_bn, x_tg, x_tb, x_ts, x_fg, x_fb, x_fV, x_fS, x_fn, x_cg, x_cb, x_cB, x_cq, x_vHeld, x_vRed, x_vTal, x_vLis)) G 24 (by decide) lb_E rfl wsE_ok 1 (by decide) wd30 gf_E_1 dE_merge_23 ?_
        refine w_iload_n (pc := 26) (q := 2) G dE_merge_26 rfl rfl ?_
        obtain ⟨i27, h⟩ := gd_some h
        refine w_lald (pc := 27) (n := 4) (f := x_et) G 30 (by decide) lk_et i27 dE_merge_27 ?_
        obtain ⟨z28, h⟩ := gd_some h
        refine w_ldiv (pc := 28) G dE_merge_28 z28 ?_
        refine w_lstore (pc := 29) (lv' := [(4, .long (((x_eR j1) v2.toNatClampNeg) / (x_et v2.toNatClampNeg))), (0, .ref (κ.1 24)), (1, .ref (κ.1 (26 + j1))), (2, .int v2), (3, .int v3)]) G dE_merge_29 (by decide) rfl ?_
        refine w_iload_n (pc := 31) (q := 3) G dE_merge_31 rfl rfl ?_
        refine w_istore (pc := 32) (lv' := [(6, .int v2), (4, .long (((x_eR j1) v2.toNatClampNeg) / (x_et v2.toNatClampNeg))), (0, .ref (κ.1 24)), (1, .ref (κ.1 (26 + j1))), (2, .int v2), (3, .int v3)]) G dE_merge_32 (by decide) rfl ?_
        refine w_sub (lv' := [(0, .ref (κ.1 24)), (1, .ref (κ.1 (26 + j1))), (2, .int v2), (3, .int v3), (4, .long (((x_eR j1) v2.toNatClampNeg) / (x_et v2.toNatClampNeg))), (6, .int v2)]) [2, 3, 4, 5, 1, 0] rfl ?_
        obtain ⟨o34_20, eo34_20, h⟩ := bd h
        refine lE_merge_34_ok G τ F   j1 p1 v2 v3 (((x_eR j1) v2.toNatClampNeg) / (x_et v2.toNatClampNeg)) F v2 x_eR x_et o34_20 eo34_20 ?_
        refine w_iinc (pc := 83) (q0 := 3) (v := (v3 + 1)) (lv' := [(3, .int (v3 + 1)), (0, .ref (κ.1 24)), (1, .ref (κ.1 (26 + j1))), (2, .int v2)]) G dE_merge_83 rfl rfl (by decide) rfl ?_
        refine w_goto (pc := 86) (tgt := 2) G dE_merge_86 (by decide) ?_
        refine w_sub (lv' := [(0, .ref (κ.1 24)), (1, .ref (κ.1 (26 + j1))), (2, .int v2), (3, .int (v3 + 1))]) [1, 2, 3, 0] rfl ?_
        exact ih (v3 + 1) o34_20.1 o34_20.2 out h K
noncomputable def E_merge (F : Nat)  (x_eR : Nat → Nat → Int64) (x_et : Nat → Int64) (v2 : Int32) : Option ((Nat → Nat → Int64) × (Nat → Int64)) := (lE_merge_2 F  v2.toNatClampNeg v2 F (0 : Int32) x_eR x_et).bind (fun o2_20 => gd (vp_in v2 4) (if (0 : Int64) ≤ ((o2_20.1 v2.toNatClampNeg) v2.toNatClampNeg) then some (o2_20.1, o2_20.2) else (V_addMultipleA F (o2_20.1 v2.toNatClampNeg) (-2 : Int64)).bind (fun r102 => some (va_up o2_20.1 v2.toNatClampNeg r102, o2_20.2))))
set_option maxHeartbeats 8000000 in
set_option maxRecDepth 100000 in
theorem met_E_merge (κ : ctx) (τ : MS) (F : Nat) {x_added : Nat → Nat → Int64} {x_asked : Nat → Int64} {x_eR : Nat → Nat → Int64} {x_et : Nat → Int64} {x_oR : Nat → Nat → Int64} {x_ot : Nat → Int64} {x_bR : Nat → Nat → Int64} {x_bD : Nat → Nat → Int64} {x_bQ : Nat → Int64} {x_bW : Nat → Int64} {x_bS : Nat → Nat → Int64} {x_bM : Nat → Nat → Int64} {x_bT : Nat → Int64} {x_bn : Int32} {x_tg : Nat → Int64} {x_tb : Int64} {x_ts : Nat → Int32} {x_fg : Nat → Int64} {x_fb : Int64} {x_fV : Nat → Nat → Int64} {x_fS : Nat → Int64} {x_fn : Int32} {x_cg : Nat → Int64} {x_cb : Int64} {x_cB : Nat → Int64} {x_cq : Int64} {x_vHeld : Int32} {x_vRed : Int32} {x_vTal : Int32} {x_vLis : Int32} (v2 : Int32) (hrow : v2.toNatClampNeg < 4) {out : (Nat → Nat → Int64) × (Nat → Int64)} (h : E_merge F  x_eR x_et v2 = some out) : Mt yE_merge cE_merge 9 none rm_E_merge κ [.ref (κ.1 24), .ref (κ.1 (26 + v2.toNatClampNeg)), .int v2] (LM κ τ (LC κ (x_added, x_asked, x_eR, x_et, x_oR, x_ot, x_bR, x_bD, x_bQ, x_bW, x_bS, x_bM, x_bT, x_bn, x_tg, x_tb, x_ts, x_fg, x_fb, x_fV, x_fS, x_fn, x_cg, x_cb, x_cB, x_cq, x_vHeld, x_vRed, x_vTal, x_vLis))) none (LM κ τ (LC κ (x_added, x_asked, out.1, out.2, x_oR, x_ot, x_bR, x_bD, x_bQ, x_bW, x_bS, x_bM, x_bT, x_bn, x_tg, x_tb, x_ts, x_fg, x_fb, x_fV, x_fS, x_fn, x_cg, x_cb, x_cB, x_cq, x_vHeld, x_vRed, x_vTal, x_vLis))) := by
  refine Mt.of (by decide) (Nat.le_of_ble_eq_true rfl) ?_
  intro g G Fh
  unfold E_merge at h
  show J g κ 9 0 [(0, .ref (κ.1 24)), (1, .ref (κ.1 (26 + v2.toNatClampNeg))), (2, .int v2)] [] (LM κ τ (LC κ (x_added, x_asked, x_eR, x_et, x_oR, x_ot, x_bR, x_bD, x_bQ, x_bW, x_bS, x_bM, x_bT, x_bn, x_tg, x_tb, x_ts, x_fg, x_fb, x_fV, x_fS, x_fn, x_cg, x_cb, x_cB, x_cq, x_vHeld, x_vRed, x_vTal, x_vLis)))
  refine w_iconst (pc := 0) (v := (0 : Int32)) G dE_merge_0 (by decide) ?_
  refine w_istore_n (pc := 1) (lv' := [(3, .int (0 : Int32)), (0, .ref (κ.1 24)), (1, .ref (κ.1 (26 + v2.toNatClampNeg))), (2, .int v2)]) G dE_merge_1 rfl (by decide) rfl ?_
  refine w_sub (lv' := [(0, .ref (κ.1 24)), (1, .ref (κ.1 (26 + v2.toNatClampNeg))), (2, .int v2), (3, .int (0 : Int32))]) [1, 2, 3, 0] rfl ?_
  obtain ⟨o2_20, eo2_20, h⟩ := bd h
  refine lE_merge_2_ok G τ F   v2.toNatClampNeg hrow v2 F (0 : Int32) x_eR x_et o2_20 eo2_20 ?_
  refine w_aload_n (pc := 89) (q := 0) G dE_merge_89 rfl rfl ?_
  refine w_iload_n (pc := 90) (q := 1) G dE_merge_90 rfl rfl ?_
  obtain ⟨i91, h⟩ := gd_some h
  refine w_lald (pc := 91) (n := 4) (f := (o2_20.1 v2.toNatClampNeg)) G (26 + v2.toNatClampNeg) (nw_eR hrow) (lk_eR hrow) i91 dE_merge_91 ?_
  refine w_lconst (pc := 92) (v := (0 : Int64)) G dE_merge_92 (by decide) ?_
  refine w_lc_ge (pc := 93) (tgt := 105) G dE_merge_93 dE_merge_94 (by decide) (fun c93 => ?_) (fun c93 => ?_)
  · have h := if_t c93 h
    obtain rfl := Option.some.inj h
    exact w_vret (pc := 105) G dE_merge_105 Fh
  · have h := if_f c93 h
    refine w_aload_n (pc := 97) (q := 0) G dE_merge_97 rfl rfl ?_
    refine w_aload_n (pc := 98) (q := 0) G dE_merge_98 rfl rfl ?_
    refine w_ldc2 (pc := 99) (v := (-2 : Int64)) G wd184 dE_merge_99 ?_
    obtain ⟨r102, e102, h⟩ := bd h
    refine w_callSN (pc := 102) (av := [.ref (κ.1 (26 + v2.toNatClampNeg)), .ref (κ.1 (26 + v2.toNatClampNeg)), .long (-2 : Int64)]) (rest := []) (v := none) (L' := (LM κ τ (LC κ (x_added, x_asked, va_up o2_20.1 v2.toNatClampNeg r102, o2_20.2, x_oR, x_ot, x_bR, x_bD, x_bQ, x_bW, x_bS, x_bM, x_bT, x_bn, x_tg, x_tb, x_ts, x_fg, x_fb, x_fV, x_fS, x_fn, x_cg, x_cb, x_cB, x_cq, x_vHeld, x_vRed, x_vTal, x_vLis)))) G cb_V_addMultipleA_E_merge wd186 wd185 (Mt.eqw (up_eR hrow) (met_V_addMultipleA κ (LM κ τ (LC κ (x_added, x_asked, o2_20.1, o2_20.2, x_oR, x_ot, x_bR, x_bD, x_bQ, x_bW, x_bS, x_bM, x_bT, x_bn, x_tg, x_tb, x_ts, x_fg, x_fb, x_fV, x_fS, x_fn, x_cg, x_cb, x_cB, x_cq, x_vHeld, x_vRed, x_vTal, x_vLis))) F (-2 : Int64) (26 + v2.toNatClampNeg) (nw_eR hrow) (o2_20.1 v2.toNatClampNeg) (lk_eR hrow) e102)) rfl rfl rfl (Nat.le_of_ble_eq_true rfl) dE_merge_102 ?_
    obtain rfl := Option.some.inj h
    exact w_vret (pc := 105) G dE_merge_105 Fh
def rm_E_shorten : Room := { frames := 1, cells := 0, slots := 0, locals := 25 }
theorem dE_shorten_0 : decode cE_shorten 0 = .ok (.iload_n 1, 1) := by decide +kernel
theorem dE_shorten_1 : decode cE_shorten 1 = .ok (.iconst 1, 1) := by decide +kernel
theorem dE_shorten_2 : decode cE_shorten 2 = .ok (.iadd, 1) := by decide +kernel
theorem dE_shorten_3 : decode cE_shorten 3 = .ok (.istore_n 2, 1) := by decide +kernel
theorem dE_shorten_4 : decode cE_shorten 4 = .ok (.iload_n 2, 1) := by decide +kernel
theorem dE_shorten_5 : decode cE_shorten 5 = .ok (.iconst 4, 1) := by decide +kernel
theorem dE_shorten_6 : decode cE_shorten 6 = .ok (.if_icmp .ge 52, 3) := by decide +kernel
theorem dE_shorten_9 : decode cE_shorten 9 = .ok (.aload_n 0, 1) := by decide +kernel
theorem dE_shorten_10 : decode cE_shorten 10 = .ok (.iload_n 2, 1) := by decide +kernel
theorem dE_shorten_11 : decode cE_shorten 11 = .ok (.invokevirtual 26, 3) := by decide +kernel
theorem dE_shorten_14 : decode cE_shorten 14 = .ok (.ifCond .eq 38, 3) := by decide +kernel
theorem dE_shorten_17 : decode cE_shorten 17 = .ok (.aload_n 0, 1) := by decide +kernel
theorem dE_shorten_18 : decode cE_shorten 18 = .ok (.getfield 11, 3) := by decide +kernel
theorem dE_shorten_21 : decode cE_shorten 21 = .ok (.iload_n 1, 1) := by decide +kernel
theorem dE_shorten_22 : decode cE_shorten 22 = .ok (.aaload, 1) := by decide +kernel
theorem dE_shorten_23 : decode cE_shorten 23 = .ok (.aload_n 0, 1) := by decide +kernel
theorem dE_shorten_24 : decode cE_shorten 24 = .ok (.getfield 11, 3) := by decide +kernel
theorem dE_shorten_27 : decode cE_shorten 27 = .ok (.iload_n 2, 1) := by decide +kernel
theorem dE_shorten_28 : decode cE_shorten 28 = .ok (.aaload, 1) := by decide +kernel
theorem dE_shorten_29 : decode cE_shorten 29 = .ok (.aload_n 0, 1) := by decide +kernel
theorem dE_shorten_30 : decode cE_shorten 30 = .ok (.getfield 11, 3) := by decide +kernel
theorem dE_shorten_33 : decode cE_shorten 33 = .ok (.iload_n 1, 1) := by decide +kernel
theorem dE_shorten_34 : decode cE_shorten 34 = .ok (.aaload, 1) := by decide +kernel
theorem dE_shorten_35 : decode cE_shorten 35 = .ok (.iload_n 2, 1) := by decide +kernel
theorem dE_shorten_36 : decode cE_shorten 36 = .ok (.laload, 1) := by decide +kernel
theorem dE_shorten_37 : decode cE_shorten 37 = .ok (.aload_n 0, 1) := by decide +kernel
theorem dE_shorten_38 : decode cE_shorten 38 = .ok (.getfield 11, 3) := by decide +kernel
theorem dE_shorten_41 : decode cE_shorten 41 = .ok (.iload_n 2, 1) := by decide +kernel
theorem dE_shorten_42 : decode cE_shorten 42 = .ok (.aaload, 1) := by decide +kernel
theorem dE_shorten_43 : decode cE_shorten 43 = .ok (.iload_n 2, 1) := by decide +kernel
theorem dE_shorten_44 : decode cE_shorten 44 = .ok (.laload, 1) := by decide +kernel
theorem dE_shorten_45 : decode cE_shorten 45 = .ok (.invokestatic 49, 3) := by decide +kernel
theorem dE_shorten_48 : decode cE_shorten 48 = .ok (.lneg, 1) := by decide +kernel
theorem dE_shorten_49 : decode cE_shorten 49 = .ok (.invokestatic 45, 3) := by decide +kernel
theorem dE_shorten_52 : decode cE_shorten 52 = .ok (.iinc 2 1, 3) := by decide +kernel
theorem dE_shorten_55 : decode cE_shorten 55 = .ok (.goto (-51), 3) := by decide +kernel
theorem dE_shorten_58 : decode cE_shorten 58 = .ok (.return_, 1) := by decide +kernel
theorem cb_V_addMultiple_E_shorten : CB yV_addMultiple cV_addMultiple 5 none rm_V_addMultiple rm_E_shorten 3 := ⟨wd187, wd1, by decide +kernel, rfl, rfl, by decide⟩
theorem cb_E_isHeld_E_shorten : CB yE_isHeld cE_isHeld 2 (some .boolean) rm_E_isHeld rm_E_shorten 1 := ⟨wd195, wd2, by decide +kernel, rfl, rfl, by decide⟩
theorem cb_JM_floorDiv_E_shorten : CB yJM_floorDiv cJM_floorDiv 6 (some .long) rm_JM_floorDiv rm_E_shorten 2 := ⟨wd198, wd10, by decide +kernel, rfl, rfl, by decide⟩
noncomputable def lE_shorten_4 (F : Nat) (v1 : Int32) : Nat → Int32 → (Nat → Nat → Int64) → Option ((Nat → Nat → Int64))
  | 0, _, _ => none
  | n + 1, v2, x_eR => if (4 : Int32) ≤ v2 then some (x_eR) else (E_isHeld F x_eR v2).bind (fun r11 => if r11 = 0 then lE_shorten_4 F  v1 n (v2 + 1) x_eR else gd (vp_in v1 4) (gd (vp_in v2 4) (gd (vp_in v1 4) (gd (vp_in v2 4) (gd (vp_in v2 4) (gd (vp_in v2 4) ((JM_floorDiv F  ((x_eR v1.toNatClampNeg) v2.toNatClampNeg) ((x_eR v2.toNatClampNeg) v2.toNatClampNeg)).bind (fun r45 => gd (¬ v2.toNatClampNeg = v1.toNatClampNeg) ((V_addMultiple F (x_eR v1.toNatClampNeg) (x_eR v2.toNatClampNeg) (-r45)).bind (fun r49 => lE_shorten_4 F  v1 n (v2 + 1) (va_up x_eR v1.toNatClampNeg r49)))))))))))
set_option maxHeartbeats 8000000 in
set_option maxRecDepth 100000 in
theorem lE_shorten_4_ok {g : Gm} {κ : ctx} (G : OK g κ RE cE_shorten 3 none rm_E_shorten) (τ : MS) (F : Nat) {x_added : Nat → Nat → Int64} {x_asked : Nat → Int64} {x_et : Nat → Int64} {x_oR : Nat → Nat → Int64} {x_ot : Nat → Int64} {x_bR : Nat → Nat → Int64} {x_bD : Nat → Nat → Int64} {x_bQ : Nat → Int64} {x_bW : Nat → Int64} {x_bS : Nat → Nat → Int64} {x_bM : Nat → Nat → Int64} {x_bT : Nat → Int64} {x_bn : Int32} {x_tg : Nat → Int64} {x_tb : Int64} {x_ts : Nat → Int32} {x_fg : Nat → Int64} {x_fb : Int64} {x_fV : Nat → Nat → Int64} {x_fS : Nat → Int64} {x_fn : Int32} {x_cg : Nat → Int64} {x_cb : Int64} {x_cB : Nat → Int64} {x_cq : Int64} {x_vHeld : Int32} {x_vRed : Int32} {x_vTal : Int32} {x_vLis : Int32} (v1 : Int32) : ∀ (n : Nat) (v2 : Int32) (x_eR : Nat → Nat → Int64) (out : (Nat → Nat → Int64)), lE_shorten_4 F   v1 n v2 x_eR = some out → (J g κ 3 58 [] [] (LM κ τ (LC κ (x_added, x_asked, out, x_et, x_oR, x_ot, x_bR, x_bD, x_bQ, x_bW, x_bS, x_bM, x_bT, x_bn, x_tg, x_tb, x_ts, x_fg, x_fb, x_fV, x_fS, x_fn, x_cg, x_cb, x_cB, x_cq, x_vHeld, x_vRed, x_vTal, x_vLis)))) → J g κ 3 4 [(0, .ref (κ.1 24)), (1, .int v1), (2, .int v2)] [] (LM κ τ (LC κ (x_added, x_asked, x_eR, x_et, x_oR, x_ot, x_bR, x_bD, x_bQ, x_bW, x_bS, x_bM, x_bT, x_bn, x_tg, x_tb, x_ts, x_fg, x_fb, x_fV, x_fS, x_fn, x_cg, x_cb, x_cB, x_cq, x_vHeld, x_vRed, x_vTal, x_vLis))) := by
  intro n
  induction n with
  | zero =>
    intro v2 x_eR
    intro out h
    rw [lE_shorten_4] at h
    cases h
  | succ n ih =>
    intro v2 x_eR out h K
    rw [lE_shorten_4] at h
    refine w_iload_n (pc := 4) (q := 2) G dE_shorten_4 rfl rfl ?_
    refine w_iconst (pc := 5) (v := (4 : Int32)) G dE_shorten_5 (by decide) ?_
    refine w_icmp_ge (pc := 6) (tgt := 58) G dE_shorten_6 (by decide) (fun c6 => ?_) (fun c6 => ?_)
    · have h := if_t c6 h
      obtain rfl := Option.some.inj h
      refine w_sub (lv' := []) [] rfl ?_
      exact K
    · have h := if_f c6 h
      refine w_aload_n (pc := 9) (q := 0) G dE_shorten_9 rfl rfl ?_
      refine w_iload_n (pc := 10) (q := 2) G dE_shorten_10 rfl rfl ?_
      obtain ⟨r11, e11, h⟩ := bd h
      refine w_callV (pc := 11) (av := [.int v2]) (rest := []) (v := some (.int r11)) (L' := (LM κ τ (LC κ (x_added, x_asked, x_eR, x_et, x_oR, x_ot, x_bR, x_bD, x_bQ, x_bW, x_bS, x_bM, x_bT, x_bn, x_tg, x_tb, x_ts, x_fg, x_fb, x_fV, x_fS, x_fn, x_cg, x_cb, x_cB, x_cq, x_vHeld, x_vRed, x_vTal, x_vLis)))) (T := TE) (fs := fl_E κ (x_added, x_asked, x_eR, x_et, x_oR, x_ot, x_bR, x_bD, x_bQ, x_bW, x_bS, x_bM, x_bT, x_bn, x_tg, x_tb, x_ts, x_fg, x_fb, x_fV, x_fS, x_fn, x_cg, x_cb, x_cB, x_cq, x_vHeld, x_vRed, x_vTal, x_vLis)) G 24 2 2 (by decide) lb_E rfl cb_E_isHeld_E_shorten wd193 wd194 wd192 (met_E_isHeld κ τ F v2  e11) rfl rfl rfl (Nat.le_of_ble_eq_true rfl) dE_shorten_11 ?_
      refine w_if_eq (pc := 14) (tgt := 52) G dE_shorten_14 (by decide) (fun c14 => ?_) (fun c14 => ?_)
      · have h := if_t c14 h
        refine w_iinc (pc := 52) (q0 := 2) (v := (v2 + 1)) (lv' := [(2, .int (v2 + 1)), (0, .ref (κ.1 24)), (1, .int v1)]) G dE_shorten_52 rfl rfl (by decide) rfl ?_
        refine w_goto (pc := 55) (tgt := 4) G dE_shorten_55 (by decide) ?_
        refine w_sub (lv' := [(0, .ref (κ.1 24)), (1, .int v1), (2, .int (v2 + 1))]) [1, 2, 0] rfl ?_
        exact ih (v2 + 1) x_eR out h K
      · have h := if_f c14 h
        refine w_aload_n (pc := 17) (q := 0) G dE_shorten_17 rfl rfl ?_
        refine w_get (pc := 18) (v := .ref (κ.1 25)) (fs := fl_E κ (x_added, x_asked, x_eR, x_et, x_oR, x_ot, x_bR, x_bD, x_bQ, x_bW, x_bS, x_bM, x_bT, x_bn, x_tg, x_tb, x_ts, x_fg, x_fb, x_fV, x_fS, x_fn, x_cg, x_cb, x_cB, x_cq, x_vHeld, x_vRed, x_vTal, x_vLis)) G 24 (by decide) lb_E rfl wsE_ok 0 (by decide) wd29 gf_E_0 dE_shorten_18 ?_
        refine w_iload_n (pc := 21) (q := 1) G dE_shorten_21 rfl rfl ?_
        obtain ⟨i22, h⟩ := gd_some h
        refine w_aald (pc := 22) (n := 4) (f := og κ 26 4) (b := κ.1 (26 + v1.toNatClampNeg)) G 25 (by decide) lo_eR i22 (og_at (ixlt i22)) dE_shorten_22 ?_
        refine w_aload_n (pc := 23) (q := 0) G dE_shorten_23 rfl rfl ?_
        refine w_get (pc := 24) (v := .ref (κ.1 25)) (fs := fl_E κ (x_added, x_asked, x_eR, x_et, x_oR, x_ot, x_bR, x_bD, x_bQ, x_bW, x_bS, x_bM, x_bT, x_bn, x_tg, x_tb, x_ts, x_fg, x_fb, x_fV, x_fS, x_fn, x_cg, x_cb, x_cB, x_cq, x_vHeld, x_vRed, x_vTal, x_vLis)) G 24 (by decide) lb_E rfl wsE_ok 0 (by decide) wd29 gf_E_0 dE_shorten_24 ?_
        refine w_iload_n (pc := 27) (q := 2) G dE_shorten_27 rfl rfl ?_
        obtain ⟨i28, h⟩ := gd_some h
        refine w_aald (pc := 28) (n := 4) (f := og κ 26 4) (b := κ.1 (26 + v2.toNatClampNeg)) G 25 (by decide) lo_eR i28 (og_at (ixlt i28)) dE_shorten_28 ?_
        refine w_aload_n (pc := 29) (q := 0) G dE_shorten_29 rfl rfl ?_
        refine w_get (pc := 30) (v := .ref (κ.1 25)) (fs := fl_E κ (x_added, x_asked, x_eR, x_et, x_oR, x_ot, x_bR, x_bD, x_bQ, x_bW, x_bS, x_bM, x_bT, x_bn, x_tg, x_tb, x_ts, x_fg, x_fb, x_fV, x_fS, x_fn, x_cg, x_cb, x_cB, x_cq, x_vHeld, x_vRed, x_vTal, x_vLis)) G 24 (by decide) lb_E rfl wsE_ok 0 (by decide) wd29 gf_E_0 dE_shorten_30 ?_
        refine w_iload_n (pc := 33) (q := 1) G dE_shorten_33 rfl rfl ?_
        obtain ⟨i34, h⟩ := gd_some h
        refine w_aald (pc := 34) (n := 4) (f := og κ 26 4) (b := κ.1 (26 + v1.toNatClampNeg)) G 25 (by decide) lo_eR i34 (og_at (ixlt i34)) dE_shorten_34 ?_
        refine w_iload_n (pc := 35) (q := 2) G dE_shorten_35 rfl rfl ?_
        obtain ⟨i36, h⟩ := gd_some h
        refine w_lald (pc := 36) (n := 4) (f := (x_eR v1.toNatClampNeg)) G (26 + v1.toNatClampNeg) (nw_eR (ixlt i34)) (lk_eR (ixlt i34)) i36 dE_shorten_36 ?_
        refine w_aload_n (pc := 37) (q := 0) G dE_shorten_37 rfl rfl ?_
        refine w_get (pc := 38) (v := .ref (κ.1 25)) (fs := fl_E κ (x_added, x_asked, x_eR, x_et, x_oR, x_ot, x_bR, x_bD, x_bQ, x_bW, x_bS, x_bM, x_bT, x_bn, x_tg, x_tb, x_ts, x_fg, x_fb, x_fV, x_fS, x_fn, x_cg, x_cb, x_cB, x_cq, x_vHeld, x_vRed, x_vTal, x_vLis)) G 24 (by decide) lb_E rfl wsE_ok 0 (by decide) wd29 gf_E_0 dE_shorten_38 ?_
        refine w_iload_n (pc := 41) (q := 2) G dE_shorten_41 rfl rfl ?_
        obtain ⟨i42, h⟩ := gd_some h
        refine w_aald (pc := 42) (n := 4) (f := og κ 26 4) (b := κ.1 (26 + v2.toNatClampNeg)) G 25 (by decide) lo_eR i42 (og_at (ixlt i42)) dE_shorten_42 ?_
        refine w_iload_n (pc := 43) (q := 2) G dE_shorten_43 rfl rfl ?_
        obtain ⟨i44, h⟩ := gd_some h
        refine w_lald (pc := 44) (n := 4) (f := (x_eR v2.toNatClampNeg)) G (26 + v2.toNatClampNeg) (nw_eR (ixlt i42)) (lk_eR (ixlt i42)) i44 dE_shorten_44 ?_
        obtain ⟨r45, e45, h⟩ := bd h
        refine w_callS (pc := 45) (av := [.long ((x_eR v1.toNatClampNeg) v2.toNatClampNeg), .long ((x_eR v2.toNatClampNeg) v2.toNatClampNeg)]) (rest := [.ref (κ.1 (26 + v2.toNatClampNeg)), .ref (κ.1 (26 + v1.toNatClampNeg))]) (v := some (.long r45)) (L' := (LM κ τ (LC κ (x_added, x_asked, x_eR, x_et, x_oR, x_ot, x_bR, x_bD, x_bQ, x_bW, x_bS, x_bM, x_bT, x_bn, x_tg, x_tb, x_ts, x_fg, x_fb, x_fV, x_fS, x_fn, x_cg, x_cb, x_cB, x_cq, x_vHeld, x_vRed, x_vTal, x_vLis)))) G cb_JM_floorDiv_E_shorten wd197 wd196 (met_JM_floorDiv κ (LM κ τ (LC κ (x_added, x_asked, x_eR, x_et, x_oR, x_ot, x_bR, x_bD, x_bQ, x_bW, x_bS, x_bM, x_bT, x_bn, x_tg, x_tb, x_ts, x_fg, x_fb, x_fV, x_fS, x_fn, x_cg, x_cb, x_cB, x_cq, x_vHeld, x_vRed, x_vTal, x_vLis))) F ((x_eR v1.toNatClampNeg) v2.toNatClampNeg) ((x_eR v2.toNatClampNeg) v2.toNatClampNeg)  e45) rfl rfl rfl (Nat.le_of_ble_eq_true rfl) dE_shorten_45 ?_
        refine w_lneg (pc := 48) G dE_shorten_48 ?_
        obtain ⟨ne49, h⟩ := gd_some h
        obtain ⟨r49, e49, h⟩ := bd h
        refine w_callSN (pc := 49) (av := [.ref (κ.1 (26 + v1.toNatClampNeg)), .ref (κ.1 (26 + v2.toNatClampNeg)), .long (-r45)]) (rest := []) (v := none) (L' := (LM κ τ (LC κ (x_added, x_asked, va_up x_eR v1.toNatClampNeg r49, x_et, x_oR, x_ot, x_bR, x_bD, x_bQ, x_bW, x_bS, x_bM, x_bT, x_bn, x_tg, x_tb, x_ts, x_fg, x_fb, x_fV, x_fS, x_fn, x_cg, x_cb, x_cB, x_cq, x_vHeld, x_vRed, x_vTal, x_vLis)))) G cb_V_addMultiple_E_shorten wd186 wd185 (Mt.eqw (up_eR (ixlt i22)) (met_V_addMultiple κ (LM κ τ (LC κ (x_added, x_asked, x_eR, x_et, x_oR, x_ot, x_bR, x_bD, x_bQ, x_bW, x_bS, x_bM, x_bT, x_bn, x_tg, x_tb, x_ts, x_fg, x_fb, x_fV, x_fS, x_fn, x_cg, x_cb, x_cB, x_cq, x_vHeld, x_vRed, x_vTal, x_vLis))) F (-r45) (26 + v1.toNatClampNeg) (nw_eR (ixlt i22)) (x_eR v1.toNatClampNeg) (lk_eR (ixlt i22)) (26 + v2.toNatClampNeg) (nw_eR (ixlt i28)) (x_eR v2.toNatClampNeg) (lk_eR (ixlt i28)) (fun q => ne49 (by omega)) e49)) rfl rfl rfl (Nat.le_of_ble_eq_true rfl) dE_shorten_49 ?_
        refine w_iinc (pc := 52) (q0 := 2) (v := (v2 + 1)) (lv' := [(2, .int (v2 + 1)), (0, .ref (κ.1 24)), (1, .int v1)]) G dE_shorten_52 rfl rfl (by decide) rfl ?_
        refine w_goto (pc := 55) (tgt := 4) G dE_shorten_55 (by decide) ?_
        refine w_sub (lv' := [(0, .ref (κ.1 24)), (1, .int v1), (2, .int (v2 + 1))]) [1, 2, 0] rfl ?_
        exact ih (v2 + 1) (va_up x_eR v1.toNatClampNeg r49) out h K
noncomputable def E_shorten (F : Nat)  (x_eR : Nat → Nat → Int64) (v1 : Int32) : Option ((Nat → Nat → Int64)) := (lE_shorten_4 F  v1 F (v1 + (1 : Int32)) x_eR).bind (fun o4_11 => some o4_11)
set_option maxHeartbeats 8000000 in
set_option maxRecDepth 100000 in
theorem met_E_shorten (κ : ctx) (τ : MS) (F : Nat) {x_added : Nat → Nat → Int64} {x_asked : Nat → Int64} {x_eR : Nat → Nat → Int64} {x_et : Nat → Int64} {x_oR : Nat → Nat → Int64} {x_ot : Nat → Int64} {x_bR : Nat → Nat → Int64} {x_bD : Nat → Nat → Int64} {x_bQ : Nat → Int64} {x_bW : Nat → Int64} {x_bS : Nat → Nat → Int64} {x_bM : Nat → Nat → Int64} {x_bT : Nat → Int64} {x_bn : Int32} {x_tg : Nat → Int64} {x_tb : Int64} {x_ts : Nat → Int32} {x_fg : Nat → Int64} {x_fb : Int64} {x_fV : Nat → Nat → Int64} {x_fS : Nat → Int64} {x_fn : Int32} {x_cg : Nat → Int64} {x_cb : Int64} {x_cB : Nat → Int64} {x_cq : Int64} {x_vHeld : Int32} {x_vRed : Int32} {x_vTal : Int32} {x_vLis : Int32} (v1 : Int32) {out : (Nat → Nat → Int64)} (h : E_shorten F  x_eR v1 = some out) : Mt yE_shorten cE_shorten 3 none rm_E_shorten κ [.ref (κ.1 24), .int v1] (LM κ τ (LC κ (x_added, x_asked, x_eR, x_et, x_oR, x_ot, x_bR, x_bD, x_bQ, x_bW, x_bS, x_bM, x_bT, x_bn, x_tg, x_tb, x_ts, x_fg, x_fb, x_fV, x_fS, x_fn, x_cg, x_cb, x_cB, x_cq, x_vHeld, x_vRed, x_vTal, x_vLis))) none (LM κ τ (LC κ (x_added, x_asked, out, x_et, x_oR, x_ot, x_bR, x_bD, x_bQ, x_bW, x_bS, x_bM, x_bT, x_bn, x_tg, x_tb, x_ts, x_fg, x_fb, x_fV, x_fS, x_fn, x_cg, x_cb, x_cB, x_cq, x_vHeld, x_vRed, x_vTal, x_vLis))) := by
  refine Mt.of (by decide) (Nat.le_of_ble_eq_true rfl) ?_
  intro g G Fh
  unfold E_shorten at h
  show J g κ 3 0 [(0, .ref (κ.1 24)), (1, .int v1)] [] (LM κ τ (LC κ (x_added, x_asked, x_eR, x_et, x_oR, x_ot, x_bR, x_bD, x_bQ, x_bW, x_bS, x_bM, x_bT, x_bn, x_tg, x_tb, x_ts, x_fg, x_fb, x_fV, x_fS, x_fn, x_cg, x_cb, x_cB, x_cq, x_vHeld, x_vRed, x_vTal, x_vLis)))
  refine w_iload_n (pc := 0) (q := 1) G dE_shorten_0 rfl rfl ?_
  refine w_iconst (pc := 1) (v := (1 : Int32)) G dE_shorten_1 (by decide) ?_
  refine w_iadd (pc := 2) G dE_shorten_2 ?_
  refine w_istore_n (pc := 3) (lv' := [(2, .int (v1 + (1 : Int32))), (0, .ref (κ.1 24)), (1, .int v1)]) G dE_shorten_3 rfl (by decide) rfl ?_
  refine w_sub (lv' := [(0, .ref (κ.1 24)), (1, .int v1), (2, .int (v1 + (1 : Int32)))]) [1, 2, 0] rfl ?_
  obtain ⟨o4_11, eo4_11, h⟩ := bd h
  refine lE_shorten_4_ok G τ F  v1 F (v1 + (1 : Int32)) x_eR o4_11 eo4_11 ?_
  obtain rfl := Option.some.inj h
  exact w_vret (pc := 58) G dE_shorten_58 Fh
def rm_E_include : Room := { frames := 2, cells := 0, slots := 0, locals := 91 }
theorem dE_include_0 : decode cE_include 0 = .ok (.aload_n 1, 1) := by decide +kernel
theorem dE_include_1 : decode cE_include 1 = .ok (.aload_n 0, 1) := by decide +kernel
theorem dE_include_2 : decode cE_include 2 = .ok (.getfield 16, 3) := by decide +kernel
theorem dE_include_5 : decode cE_include 5 = .ok (.invokestatic 30, 3) := by decide +kernel
theorem dE_include_8 : decode cE_include 8 = .ok (.iconst 0, 1) := by decide +kernel
theorem dE_include_9 : decode cE_include 9 = .ok (.istore_n 2, 1) := by decide +kernel
theorem dE_include_10 : decode cE_include 10 = .ok (.iload_n 2, 1) := by decide +kernel
theorem dE_include_11 : decode cE_include 11 = .ok (.iconst 4, 1) := by decide +kernel
theorem dE_include_12 : decode cE_include 12 = .ok (.if_icmp .ge 20, 3) := by decide +kernel
theorem dE_include_15 : decode cE_include 15 = .ok (.aload_n 0, 1) := by decide +kernel
theorem dE_include_16 : decode cE_include 16 = .ok (.aload_n 0, 1) := by decide +kernel
theorem dE_include_17 : decode cE_include 17 = .ok (.getfield 11, 3) := by decide +kernel
theorem dE_include_20 : decode cE_include 20 = .ok (.iload_n 2, 1) := by decide +kernel
theorem dE_include_21 : decode cE_include 21 = .ok (.aaload, 1) := by decide +kernel
theorem dE_include_22 : decode cE_include 22 = .ok (.iload_n 2, 1) := by decide +kernel
theorem dE_include_23 : decode cE_include 23 = .ok (.invokevirtual 34, 3) := by decide +kernel
theorem dE_include_26 : decode cE_include 26 = .ok (.iinc 2 1, 3) := by decide +kernel
theorem dE_include_29 : decode cE_include 29 = .ok (.goto (-19), 3) := by decide +kernel
theorem dE_include_32 : decode cE_include 32 = .ok (.iconst 3, 1) := by decide +kernel
theorem dE_include_33 : decode cE_include 33 = .ok (.istore_n 2, 1) := by decide +kernel
theorem dE_include_34 : decode cE_include 34 = .ok (.iload_n 2, 1) := by decide +kernel
theorem dE_include_35 : decode cE_include 35 = .ok (.ifCond .lt 14, 3) := by decide +kernel
theorem dE_include_38 : decode cE_include 38 = .ok (.aload_n 0, 1) := by decide +kernel
theorem dE_include_39 : decode cE_include 39 = .ok (.iload_n 2, 1) := by decide +kernel
theorem dE_include_40 : decode cE_include 40 = .ok (.invokevirtual 38, 3) := by decide +kernel
theorem dE_include_43 : decode cE_include 43 = .ok (.iinc 2 (-1), 3) := by decide +kernel
theorem dE_include_46 : decode cE_include 46 = .ok (.goto (-12), 3) := by decide +kernel
theorem dE_include_49 : decode cE_include 49 = .ok (.return_, 1) := by decide +kernel
theorem cb_V_copy_E_include : CB yV_copy cV_copy 2 none rm_V_copy rm_E_include 2 := ⟨wd170, wd1, by decide +kernel, rfl, rfl, by decide⟩
theorem cb_E_merge_E_include : CB yE_merge cE_merge 9 none rm_E_merge rm_E_include 2 := ⟨wd182, wd2, by decide +kernel, rfl, rfl, by decide⟩
theorem cb_E_shorten_E_include : CB yE_shorten cE_shorten 3 none rm_E_shorten rm_E_include 1 := ⟨wd191, wd2, by decide +kernel, rfl, rfl, by decide⟩
noncomputable def lE_include_10 (F : Nat) (y_g : Nat → Int64) : Nat → Int32 → (Nat → Nat → Int64) → (Nat → Int64) → Option ((Nat → Nat → Int64) × (Nat → Int64))
  | 0, _, _, _ => none
  | n + 1, v2, x_eR, x_et => if (4 : Int32) ≤ v2 then some (x_eR, x_et) else gd (vp_in v2 4) ((E_merge F x_eR x_et v2).bind (fun r23 => lE_include_10 F  y_g n (v2 + 1) r23.1 r23.2))
set_option maxHeartbeats 8000000 in
set_option maxRecDepth 100000 in
theorem lE_include_10_ok {g : Gm} {κ : ctx} (G : OK g κ RE cE_include 3 none rm_E_include) (τ : MS) (F : Nat) {x_added : Nat → Nat → Int64} {x_asked : Nat → Int64} {x_oR : Nat → Nat → Int64} {x_ot : Nat → Int64} {x_bR : Nat → Nat → Int64} {x_bD : Nat → Nat → Int64} {x_bQ : Nat → Int64} {x_bW : Nat → Int64} {x_bS : Nat → Nat → Int64} {x_bM : Nat → Nat → Int64} {x_bT : Nat → Int64} {x_bn : Int32} {x_tg : Nat → Int64} {x_tb : Int64} {x_ts : Nat → Int32} {x_fg : Nat → Int64} {x_fb : Int64} {x_fV : Nat → Nat → Int64} {x_fS : Nat → Int64} {x_fn : Int32} {x_cg : Nat → Int64} {x_cb : Int64} {x_cB : Nat → Int64} {x_cq : Int64} {x_vHeld : Int32} {x_vRed : Int32} {x_vTal : Int32} {x_vLis : Int32} (q_g : Nat) (hq_g : q_g < NW) (y_g : Nat → Int64) (h_g : ∀ (x_eR : Nat → Nat → Int64) (x_et : Nat → Int64), (LM κ τ (LC κ (x_added, x_asked, x_eR, x_et, x_oR, x_ot, x_bR, x_bD, x_bQ, x_bW, x_bS, x_bM, x_bT, x_bn, x_tg, x_tb, x_ts, x_fg, x_fb, x_fV, x_fS, x_fn, x_cg, x_cb, x_cB, x_cq, x_vHeld, x_vRed, x_vTal, x_vLis))) q_g = .inl (κ.2.2.1, 4, .inr (.inl y_g))) (ne_g : q_g ≠ 30) : ∀ (n : Nat) (v2 : Int32) (x_eR : Nat → Nat → Int64) (x_et : Nat → Int64) (out : (Nat → Nat → Int64) × (Nat → Int64)), lE_include_10 F  y_g  n v2 x_eR x_et = some out → (J g κ 3 32 [(0, .ref (κ.1 24))] [] (LM κ τ (LC κ (x_added, x_asked, out.1, out.2, x_oR, x_ot, x_bR, x_bD, x_bQ, x_bW, x_bS, x_bM, x_bT, x_bn, x_tg, x_tb, x_ts, x_fg, x_fb, x_fV, x_fS, x_fn, x_cg, x_cb, x_cB, x_cq, x_vHeld, x_vRed, x_vTal, x_vLis)))) → J g κ 3 10 [(0, .ref (κ.1 24)), (2, .int v2)] [] (LM κ τ (LC κ (x_added, x_asked, x_eR, x_et, x_oR, x_ot, x_bR, x_bD, x_bQ, x_bW, x_bS, x_bM, x_bT, x_bn, x_tg, x_tb, x_ts, x_fg, x_fb, x_fV, x_fS, x_fn, x_cg, x_cb, x_cB, x_cq, x_vHeld, x_vRed, x_vTal, x_vLis))) := by
  intro n
  induction n with
  | zero =>
    intro v2 x_eR x_et
    intro out h
    rw [lE_include_10] at h
    cases h
  | succ n ih =>
    intro v2 x_eR x_et out h K
    rw [lE_include_10] at h
    refine w_iload_n (pc := 10) (q := 1) G dE_include_10 rfl rfl ?_
    refine w_iconst (pc := 11) (v := (4 : Int32)) G dE_include_11 (by decide) ?_
    refine w_icmp_ge (pc := 12) (tgt := 32) G dE_include_12 (by decide) (fun c12 => ?_) (fun c12 => ?_)
    · have h := if_t c12 h
      obtain rfl := Option.some.inj h
      refine w_sub (lv' := [(0, .ref (κ.1 24))]) [0] rfl ?_
      exact K
    · have h := if_f c12 h
      refine w_aload_n (pc := 15) (q := 0) G dE_include_15 rfl rfl ?_
      refine w_aload_n (pc := 16) (q := 0) G dE_include_16 rfl rfl ?_
      refine w_get (pc := 17) (v := .ref (κ.1 25)) (fs := fl_E κ (x_added, x_asked, x_eR, x_et, x_oR, x_ot, x_bR, x_bD, x_bQ, x_bW, x_bS, x_bM, x_bT, x_bn, x_tg, x_tb, x_ts, x_fg, x_fb, x_fV, x_fS, x_fn, x_cg, x_cb, x_cB, x_cq, x_vHeld, x_vRed, x_vTal, x_vLis)) G 24 (by decide) lb_E rfl wsE_ok 0 (by decide) wd29 gf_E_0 dE_include_17 ?_
      refine w_iload_n (pc := 20) (q := 1) G dE_include_20 rfl rfl ?_
      obtain ⟨i21, h⟩ := gd_some h
      refine w_aald (pc := 21) (n := 4) (f := og κ 26 4) (b := κ.1 (26 + v2.toNatClampNeg)) G 25 (by decide) lo_eR i21 (og_at (ixlt i21)) dE_include_21 ?_
      refine w_iload_n (pc := 22) (q := 1) G dE_include_22 rfl rfl ?_
      obtain ⟨r23, e23, h⟩ := bd h
      refine w_callV (pc := 23) (av := [.ref (κ.1 (26 + v2.toNatClampNeg)), .int v2]) (rest := []) (v := none) (L' := (LM κ τ (LC κ (x_added, x_asked, r23.1, r23.2, x_oR, x_ot, x_bR, x_bD, x_bQ, x_bW, x_bS, x_bM, x_bT, x_bn, x_tg, x_tb, x_ts, x_fg, x_fb, x_fV, x_fS, x_fn, x_cg, x_cb, x_cB, x_cq, x_vHeld, x_vRed, x_vTal, x_vLis)))) (T := TE) (fs := fl_E κ (x_added, x_asked, x_eR, x_et, x_oR, x_ot, x_bR, x_bD, x_bQ, x_bW, x_bS, x_bM, x_bT, x_bn, x_tg, x_tb, x_ts, x_fg, x_fb, x_fV, x_fS, x_fn, x_cg, x_cb, x_cB, x_cq, x_vHeld, x_vRed, x_vTal, x_vLis)) G 24 2 2 (by decide) lb_E rfl cb_E_merge_E_include wd181 ws1 wd179 (met_E_merge κ τ F v2 (ixlt i21) e23) rfl rfl rfl (Nat.le_of_ble_eq_true rfl) dE_include_23 ?_
      refine w_iinc (pc := 26) (q0 := 1) (v := (v2 + 1)) (lv' := [(2, .int (v2 + 1)), (0, .ref (κ.1 24))]) G dE_include_26 rfl rfl (by decide) rfl ?_
      refine w_goto (pc := 29) (tgt := 10) G dE_include_29 (by decide) ?_
      refine w_sub (lv' := [(0, .ref (κ.1 24)), (2, .int (v2 + 1))]) [1, 0] rfl ?_
      exact ih (v2 + 1) r23.1 r23.2 out h K
noncomputable def lE_include_34 (F : Nat) (y_g : Nat → Int64) : Nat → Int32 → (Nat → Nat → Int64) → Option ((Nat → Nat → Int64))
  | 0, _, _ => none
  | n + 1, v2, x_eR => if v2 < 0 then some (x_eR) else (E_shorten F x_eR v2).bind (fun r40 => lE_include_34 F  y_g n (v2 + (-1)) r40)
set_option maxHeartbeats 8000000 in
set_option maxRecDepth 100000 in
theorem lE_include_34_ok {g : Gm} {κ : ctx} (G : OK g κ RE cE_include 3 none rm_E_include) (τ : MS) (F : Nat) {x_added : Nat → Nat → Int64} {x_asked : Nat → Int64} {x_et : Nat → Int64} {x_oR : Nat → Nat → Int64} {x_ot : Nat → Int64} {x_bR : Nat → Nat → Int64} {x_bD : Nat → Nat → Int64} {x_bQ : Nat → Int64} {x_bW : Nat → Int64} {x_bS : Nat → Nat → Int64} {x_bM : Nat → Nat → Int64} {x_bT : Nat → Int64} {x_bn : Int32} {x_tg : Nat → Int64} {x_tb : Int64} {x_ts : Nat → Int32} {x_fg : Nat → Int64} {x_fb : Int64} {x_fV : Nat → Nat → Int64} {x_fS : Nat → Int64} {x_fn : Int32} {x_cg : Nat → Int64} {x_cb : Int64} {x_cB : Nat → Int64} {x_cq : Int64} {x_vHeld : Int32} {x_vRed : Int32} {x_vTal : Int32} {x_vLis : Int32} (q_g : Nat) (hq_g : q_g < NW) (y_g : Nat → Int64) (h_g : ∀ (x_eR : Nat → Nat → Int64) (x_et : Nat → Int64), (LM κ τ (LC κ (x_added, x_asked, x_eR, x_et, x_oR, x_ot, x_bR, x_bD, x_bQ, x_bW, x_bS, x_bM, x_bT, x_bn, x_tg, x_tb, x_ts, x_fg, x_fb, x_fV, x_fS, x_fn, x_cg, x_cb, x_cB, x_cq, x_vHeld, x_vRed, x_vTal, x_vLis))) q_g = .inl (κ.2.2.1, 4, .inr (.inl y_g))) (ne_g : q_g ≠ 30) : ∀ (n : Nat) (v2 : Int32) (x_eR : Nat → Nat → Int64) (out : (Nat → Nat → Int64)), lE_include_34 F  y_g  n v2 x_eR = some out → (J g κ 3 49 [] [] (LM κ τ (LC κ (x_added, x_asked, out, x_et, x_oR, x_ot, x_bR, x_bD, x_bQ, x_bW, x_bS, x_bM, x_bT, x_bn, x_tg, x_tb, x_ts, x_fg, x_fb, x_fV, x_fS, x_fn, x_cg, x_cb, x_cB, x_cq, x_vHeld, x_vRed, x_vTal, x_vLis)))) → J g κ 3 34 [(0, .ref (κ.1 24)), (2, .int v2)] [] (LM κ τ (LC κ (x_added, x_asked, x_eR, x_et, x_oR, x_ot, x_bR, x_bD, x_bQ, x_bW, x_bS, x_bM, x_bT, x_bn, x_tg, x_tb, x_ts, x_fg, x_fb, x_fV, x_fS, x_fn, x_cg, x_cb, x_cB, x_cq, x_vHeld, x_vRed, x_vTal, x_vLis))) := by
  intro n
  induction n with
  | zero =>
    intro v2 x_eR
    intro out h
    rw [lE_include_34] at h
    cases h
  | succ n ih =>
    intro v2 x_eR out h K
    rw [lE_include_34] at h
    refine w_iload_n (pc := 34) (q := 1) G dE_include_34 rfl rfl ?_
    refine w_if_lt (pc := 35) (tgt := 49) G dE_include_35 (by decide) (fun c35 => ?_) (fun c35 => ?_)
    · have h := if_t c35 h
      obtain rfl := Option.some.inj h
      refine w_sub (lv' := []) [] rfl ?_
      exact K
    · have h := if_f c35 h
      refine w_aload_n (pc := 38) (q := 0) G dE_include_38 rfl rfl ?_
      refine w_iload_n (pc := 39) (q := 1) G dE_include_39 rfl rfl ?_
      obtain ⟨r40, e40, h⟩ := bd h
      refine w_callV (pc := 40) (av := [.int v2]) (rest := []) (v := none) (L' := (LM κ τ (LC κ (x_added, x_asked, r40, x_et, x_oR, x_ot, x_bR, x_bD, x_bQ, x_bW, x_bS, x_bM, x_bT, x_bn, x_tg, x_tb, x_ts, x_fg, x_fb, x_fV, x_fS, x_fn, x_cg, x_cb, x_cB, x_cq, x_vHeld, x_vRed, x_vTal, x_vLis)))) (T := TE) (fs := fl_E κ (x_added, x_asked, x_eR, x_et, x_oR, x_ot, x_bR, x_bD, x_bQ, x_bW, x_bS, x_bM, x_bT, x_bn, x_tg, x_tb, x_ts, x_fg, x_fb, x_fV, x_fS, x_fn, x_cg, x_cb, x_cB, x_cq, x_vHeld, x_vRed, x_vTal, x_vLis)) G 24 2 2 (by decide) lb_E rfl cb_E_shorten_E_include wd190 ws2 wd188 (met_E_shorten κ τ F v2  e40) rfl rfl rfl (Nat.le_of_ble_eq_true rfl) dE_include_40 ?_
      refine w_iinc (pc := 43) (q0 := 1) (v := (v2 + (-1))) (lv' := [(2, .int (v2 + (-1))), (0, .ref (κ.1 24))]) G dE_include_43 rfl rfl (by decide) rfl ?_
      refine w_goto (pc := 46) (tgt := 34) G dE_include_46 (by decide) ?_
      refine w_sub (lv' := [(0, .ref (κ.1 24)), (2, .int (v2 + (-1)))]) [1, 0] rfl ?_
      exact ih (v2 + (-1)) r40 out h K
noncomputable def E_include (F : Nat)  (x_eR : Nat → Nat → Int64) (x_et : Nat → Int64) (y_g : Nat → Int64)  : Option ((Nat → Nat → Int64) × (Nat → Int64)) := (V_copy F y_g x_et ).bind (fun r5 => (lE_include_10 F  y_g F (0 : Int32) x_eR r5).bind (fun o10_7 => (lE_include_34 F  y_g F (3 : Int32) o10_7.1).bind (fun o34_13 => some (o34_13, o10_7.2))))
set_option maxHeartbeats 8000000 in
set_option maxRecDepth 100000 in
theorem met_E_include (κ : ctx) (τ : MS) (F : Nat) {x_added : Nat → Nat → Int64} {x_asked : Nat → Int64} {x_eR : Nat → Nat → Int64} {x_et : Nat → Int64} {x_oR : Nat → Nat → Int64} {x_ot : Nat → Int64} {x_bR : Nat → Nat → Int64} {x_bD : Nat → Nat → Int64} {x_bQ : Nat → Int64} {x_bW : Nat → Int64} {x_bS : Nat → Nat → Int64} {x_bM : Nat → Nat → Int64} {x_bT : Nat → Int64} {x_bn : Int32} {x_tg : Nat → Int64} {x_tb : Int64} {x_ts : Nat → Int32} {x_fg : Nat → Int64} {x_fb : Int64} {x_fV : Nat → Nat → Int64} {x_fS : Nat → Int64} {x_fn : Int32} {x_cg : Nat → Int64} {x_cb : Int64} {x_cB : Nat → Int64} {x_cq : Int64} {x_vHeld : Int32} {x_vRed : Int32} {x_vTal : Int32} {x_vLis : Int32}  (q_g : Nat) (hq_g : q_g < NW) (y_g : Nat → Int64) (h_g : ∀ (x_eR : Nat → Nat → Int64) (x_et : Nat → Int64), (LM κ τ (LC κ (x_added, x_asked, x_eR, x_et, x_oR, x_ot, x_bR, x_bD, x_bQ, x_bW, x_bS, x_bM, x_bT, x_bn, x_tg, x_tb, x_ts, x_fg, x_fb, x_fV, x_fS, x_fn, x_cg, x_cb, x_cB, x_cq, x_vHeld, x_vRed, x_vTal, x_vLis))) q_g = .inl (κ.2.2.1, 4, .inr (.inl y_g))) (ne_g : q_g ≠ 30) {out : (Nat → Nat → Int64) × (Nat → Int64)} (h : E_include F  x_eR x_et y_g  = some out) : Mt yE_include cE_include 3 none rm_E_include κ [.ref (κ.1 24), .ref (κ.1 q_g)] (LM κ τ (LC κ (x_added, x_asked, x_eR, x_et, x_oR, x_ot, x_bR, x_bD, x_bQ, x_bW, x_bS, x_bM, x_bT, x_bn, x_tg, x_tb, x_ts, x_fg, x_fb, x_fV, x_fS, x_fn, x_cg, x_cb, x_cB, x_cq, x_vHeld, x_vRed, x_vTal, x_vLis))) none (LM κ τ (LC κ (x_added, x_asked, out.1, out.2, x_oR, x_ot, x_bR, x_bD, x_bQ, x_bW, x_bS, x_bM, x_bT, x_bn, x_tg, x_tb, x_ts, x_fg, x_fb, x_fV, x_fS, x_fn, x_cg, x_cb, x_cB, x_cq, x_vHeld, x_vRed, x_vTal, x_vLis))) := by
  refine Mt.of (by decide) (Nat.le_of_ble_eq_true rfl) ?_
  intro g G Fh
  unfold E_include at h
  show J g κ 3 0 [(0, .ref (κ.1 24)), (1, .ref (κ.1 q_g))] [] (LM κ τ (LC κ (x_added, x_asked, x_eR, x_et, x_oR, x_ot, x_bR, x_bD, x_bQ, x_bW, x_bS, x_bM, x_bT, x_bn, x_tg, x_tb, x_ts, x_fg, x_fb, x_fV, x_fS, x_fn, x_cg, x_cb, x_cB, x_cq, x_vHeld, x_vRed, x_vTal, x_vLis)))
  refine w_aload_n (pc := 0) (q := 1) G dE_include_0 rfl rfl ?_
  refine w_aload_n (pc := 1) (q := 0) G dE_include_1 rfl rfl ?_
  refine w_get (pc := 2) (v := .ref (κ.1 30)) (fs := fl_E κ (x_added, x_asked, x_eR, x_et, x_oR, x_ot, x_bR, x_bD, x_bQ, x_bW, x_bS, x_bM, x_bT, x_bn, x_tg, x_tb, x_ts, x_fg, x_fb, x_fV, x_fS, x_fn, x_cg, x_cb, x_cB, x_cq, x_vHeld, x_vRed, x_vTal, x_vLis)) G 24 (by decide) lb_E rfl wsE_ok 1 (by decide) wd30 gf_E_1 dE_include_2 ?_
  obtain ⟨r5, e5, h⟩ := bd h
  refine w_callSN (pc := 5) (av := [.ref (κ.1 q_g), .ref (κ.1 30)]) (rest := []) (v := none) (L' := (LM κ τ (LC κ (x_added, x_asked, x_eR, r5, x_oR, x_ot, x_bR, x_bD, x_bQ, x_bW, x_bS, x_bM, x_bT, x_bn, x_tg, x_tb, x_ts, x_fg, x_fb, x_fV, x_fS, x_fn, x_cg, x_cb, x_cB, x_cq, x_vHeld, x_vRed, x_vTal, x_vLis)))) G cb_V_copy_E_include wd169 wd178 (Mt.eqw up_et (met_V_copy κ (LM κ τ (LC κ (x_added, x_asked, x_eR, x_et, x_oR, x_ot, x_bR, x_bD, x_bQ, x_bW, x_bS, x_bM, x_bT, x_bn, x_tg, x_tb, x_ts, x_fg, x_fb, x_fV, x_fS, x_fn, x_cg, x_cb, x_cB, x_cq, x_vHeld, x_vRed, x_vTal, x_vLis))) F  q_g hq_g y_g (h_g x_eR x_et) 30 (by decide) x_et lk_et (ne_g) e5)) rfl rfl rfl (Nat.le_of_ble_eq_true rfl) dE_include_5 ?_
  refine w_iconst (pc := 8) (v := (0 : Int32)) G dE_include_8 (by decide) ?_
  refine w_istore_n (pc := 9) (lv' := [(2, .int (0 : Int32)), (0, .ref (κ.1 24)), (1, .ref (κ.1 q_g))]) G dE_include_9 rfl (by decide) rfl ?_
  refine w_sub (lv' := [(0, .ref (κ.1 24)), (2, .int (0 : Int32))]) [1, 0] rfl ?_
  obtain ⟨o10_7, eo10_7, h⟩ := bd h
  refine lE_include_10_ok G τ F  q_g hq_g y_g h_g ne_g  F (0 : Int32) x_eR r5 o10_7 eo10_7 ?_
  refine w_iconst (pc := 32) (v := (3 : Int32)) G dE_include_32 (by decide) ?_
  refine w_istore_n (pc := 33) (lv' := [(2, .int (3 : Int32)), (0, .ref (κ.1 24))]) G dE_include_33 rfl (by decide) rfl ?_
  refine w_sub (lv' := [(0, .ref (κ.1 24)), (2, .int (3 : Int32))]) [1, 0] rfl ?_
  obtain ⟨o34_13, eo34_13, h⟩ := bd h
  refine lE_include_34_ok G τ F  q_g hq_g y_g h_g ne_g  F (3 : Int32) o10_7.1 o34_13 eo34_13 ?_
  obtain rfl := Option.some.inj h
  exact w_vret (pc := 49) G dE_include_49 Fh
def rm_E_leastMultiplier : Room := { frames := 2, cells := 0, slots := 0, locals := 100 }
theorem dE_leastMultiplier_0 : decode cE_leastMultiplier 0 = .ok (.aload_n 1, 1) := by decide +kernel
theorem dE_leastMultiplier_1 : decode cE_leastMultiplier 1 = .ok (.aload_n 0, 1) := by decide +kernel
theorem dE_leastMultiplier_2 : decode cE_leastMultiplier 2 = .ok (.getfield 16, 3) := by decide +kernel
theorem dE_leastMultiplier_5 : decode cE_leastMultiplier 5 = .ok (.invokestatic 30, 3) := by decide +kernel
theorem dE_leastMultiplier_8 : decode cE_leastMultiplier 8 = .ok (.lconst 1, 1) := by decide +kernel
theorem dE_leastMultiplier_9 : decode cE_leastMultiplier 9 = .ok (.lstore_n 2, 1) := by decide +kernel
theorem dE_leastMultiplier_10 : decode cE_leastMultiplier 10 = .ok (.iconst 0, 1) := by decide +kernel
theorem dE_leastMultiplier_11 : decode cE_leastMultiplier 11 = .ok (.istore 4, 2) := by decide +kernel
theorem dE_leastMultiplier_13 : decode cE_leastMultiplier 13 = .ok (.iload 4, 2) := by decide +kernel
theorem dE_leastMultiplier_15 : decode cE_leastMultiplier 15 = .ok (.iconst 4, 1) := by decide +kernel
theorem dE_leastMultiplier_16 : decode cE_leastMultiplier 16 = .ok (.if_icmp .ge 109, 3) := by decide +kernel
theorem dE_leastMultiplier_19 : decode cE_leastMultiplier 19 = .ok (.aload_n 0, 1) := by decide +kernel
theorem dE_leastMultiplier_20 : decode cE_leastMultiplier 20 = .ok (.getfield 16, 3) := by decide +kernel
theorem dE_leastMultiplier_23 : decode cE_leastMultiplier 23 = .ok (.iload 4, 2) := by decide +kernel
theorem dE_leastMultiplier_25 : decode cE_leastMultiplier 25 = .ok (.laload, 1) := by decide +kernel
theorem dE_leastMultiplier_26 : decode cE_leastMultiplier 26 = .ok (.lconst 0, 1) := by decide +kernel
theorem dE_leastMultiplier_27 : decode cE_leastMultiplier 27 = .ok (.lcmp, 1) := by decide +kernel
theorem dE_leastMultiplier_28 : decode cE_leastMultiplier 28 = .ok (.ifCond .ne 6, 3) := by decide +kernel
theorem dE_leastMultiplier_31 : decode cE_leastMultiplier 31 = .ok (.goto 88, 3) := by decide +kernel
theorem dE_leastMultiplier_34 : decode cE_leastMultiplier 34 = .ok (.aload_n 0, 1) := by decide +kernel
theorem dE_leastMultiplier_35 : decode cE_leastMultiplier 35 = .ok (.iload 4, 2) := by decide +kernel
theorem dE_leastMultiplier_37 : decode cE_leastMultiplier 37 = .ok (.invokevirtual 26, 3) := by decide +kernel
theorem dE_leastMultiplier_40 : decode cE_leastMultiplier 40 = .ok (.ifCond .ne 5, 3) := by decide +kernel
theorem dE_leastMultiplier_43 : decode cE_leastMultiplier 43 = .ok (.lconst 0, 1) := by decide +kernel
theorem dE_leastMultiplier_44 : decode cE_leastMultiplier 44 = .ok (.lreturn, 1) := by decide +kernel
theorem dE_leastMultiplier_45 : decode cE_leastMultiplier 45 = .ok (.aload_n 0, 1) := by decide +kernel
theorem dE_leastMultiplier_46 : decode cE_leastMultiplier 46 = .ok (.getfield 11, 3) := by decide +kernel
theorem dE_leastMultiplier_49 : decode cE_leastMultiplier 49 = .ok (.iload 4, 2) := by decide +kernel
theorem dE_leastMultiplier_51 : decode cE_leastMultiplier 51 = .ok (.aaload, 1) := by decide +kernel
theorem dE_leastMultiplier_52 : decode cE_leastMultiplier 52 = .ok (.iload 4, 2) := by decide +kernel
theorem dE_leastMultiplier_54 : decode cE_leastMultiplier 54 = .ok (.laload, 1) := by decide +kernel
theorem dE_leastMultiplier_55 : decode cE_leastMultiplier 55 = .ok (.lstore 5, 2) := by decide +kernel
theorem dE_leastMultiplier_57 : decode cE_leastMultiplier 57 = .ok (.lload 5, 2) := by decide +kernel
theorem dE_leastMultiplier_59 : decode cE_leastMultiplier 59 = .ok (.lload 5, 2) := by decide +kernel
theorem dE_leastMultiplier_61 : decode cE_leastMultiplier 61 = .ok (.aload_n 0, 1) := by decide +kernel
theorem dE_leastMultiplier_62 : decode cE_leastMultiplier 62 = .ok (.getfield 16, 3) := by decide +kernel
theorem dE_leastMultiplier_65 : decode cE_leastMultiplier 65 = .ok (.iload 4, 2) := by decide +kernel
theorem dE_leastMultiplier_67 : decode cE_leastMultiplier 67 = .ok (.laload, 1) := by decide +kernel
theorem dE_leastMultiplier_68 : decode cE_leastMultiplier 68 = .ok (.invokestatic 59, 3) := by decide +kernel
theorem dE_leastMultiplier_71 : decode cE_leastMultiplier 71 = .ok (.ldiv, 1) := by decide +kernel
theorem dE_leastMultiplier_72 : decode cE_leastMultiplier 72 = .ok (.lstore 7, 2) := by decide +kernel
theorem dE_leastMultiplier_74 : decode cE_leastMultiplier 74 = .ok (.lload_n 2, 1) := by decide +kernel
theorem dE_leastMultiplier_75 : decode cE_leastMultiplier 75 = .ok (.lload 7, 2) := by decide +kernel
theorem dE_leastMultiplier_77 : decode cE_leastMultiplier 77 = .ok (.lmul, 1) := by decide +kernel
theorem dE_leastMultiplier_78 : decode cE_leastMultiplier 78 = .ok (.lstore_n 2, 1) := by decide +kernel
theorem dE_leastMultiplier_79 : decode cE_leastMultiplier 79 = .ok (.aload_n 0, 1) := by decide +kernel
theorem dE_leastMultiplier_80 : decode cE_leastMultiplier 80 = .ok (.getfield 16, 3) := by decide +kernel
theorem dE_leastMultiplier_83 : decode cE_leastMultiplier 83 = .ok (.aload_n 0, 1) := by decide +kernel
theorem dE_leastMultiplier_84 : decode cE_leastMultiplier 84 = .ok (.getfield 16, 3) := by decide +kernel
theorem dE_leastMultiplier_87 : decode cE_leastMultiplier 87 = .ok (.lload 7, 2) := by decide +kernel
theorem dE_leastMultiplier_89 : decode cE_leastMultiplier 89 = .ok (.lconst 1, 1) := by decide +kernel
theorem dE_leastMultiplier_90 : decode cE_leastMultiplier 90 = .ok (.lsub, 1) := by decide +kernel
theorem dE_leastMultiplier_91 : decode cE_leastMultiplier 91 = .ok (.invokestatic 45, 3) := by decide +kernel
theorem dE_leastMultiplier_94 : decode cE_leastMultiplier 94 = .ok (.aload_n 0, 1) := by decide +kernel
theorem dE_leastMultiplier_95 : decode cE_leastMultiplier 95 = .ok (.getfield 16, 3) := by decide +kernel
theorem dE_leastMultiplier_98 : decode cE_leastMultiplier 98 = .ok (.aload_n 0, 1) := by decide +kernel
theorem dE_leastMultiplier_99 : decode cE_leastMultiplier 99 = .ok (.getfield 11, 3) := by decide +kernel
theorem dE_leastMultiplier_102 : decode cE_leastMultiplier 102 = .ok (.iload 4, 2) := by decide +kernel
theorem dE_leastMultiplier_104 : decode cE_leastMultiplier 104 = .ok (.aaload, 1) := by decide +kernel
theorem dE_leastMultiplier_105 : decode cE_leastMultiplier 105 = .ok (.aload_n 0, 1) := by decide +kernel
theorem dE_leastMultiplier_106 : decode cE_leastMultiplier 106 = .ok (.getfield 16, 3) := by decide +kernel
theorem dE_leastMultiplier_109 : decode cE_leastMultiplier 109 = .ok (.iload 4, 2) := by decide +kernel
theorem dE_leastMultiplier_111 : decode cE_leastMultiplier 111 = .ok (.laload, 1) := by decide +kernel
theorem dE_leastMultiplier_112 : decode cE_leastMultiplier 112 = .ok (.lload 5, 2) := by decide +kernel
theorem dE_leastMultiplier_114 : decode cE_leastMultiplier 114 = .ok (.ldiv, 1) := by decide +kernel
theorem dE_leastMultiplier_115 : decode cE_leastMultiplier 115 = .ok (.lneg, 1) := by decide +kernel
theorem dE_leastMultiplier_116 : decode cE_leastMultiplier 116 = .ok (.invokestatic 45, 3) := by decide +kernel
theorem dE_leastMultiplier_119 : decode cE_leastMultiplier 119 = .ok (.iinc 4 1, 3) := by decide +kernel
theorem dE_leastMultiplier_122 : decode cE_leastMultiplier 122 = .ok (.goto (-109), 3) := by decide +kernel
theorem dE_leastMultiplier_125 : decode cE_leastMultiplier 125 = .ok (.lload_n 2, 1) := by decide +kernel
theorem dE_leastMultiplier_126 : decode cE_leastMultiplier 126 = .ok (.lreturn, 1) := by decide +kernel
theorem cb_V_addMultiple_E_leastMultiplier : CB yV_addMultiple cV_addMultiple 5 none rm_V_addMultiple rm_E_leastMultiplier 3 := ⟨wd187, wd1, by decide +kernel, rfl, rfl, by decide⟩
theorem cb_V_addMultipleA_E_leastMultiplier : CB yV_addMultiple cV_addMultiple 5 none rm_V_addMultipleA rm_E_leastMultiplier 3 := ⟨wd187, wd1, by decide +kernel, rfl, rfl, by decide⟩
theorem cb_V_commonDivisor_E_leastMultiplier : CB yV_commonDivisor cV_commonDivisor 11 (some .long) rm_V_commonDivisor rm_E_leastMultiplier 2 := ⟨wd299, wd1, by decide +kernel, rfl, rfl, by decide⟩
theorem cb_V_copy_E_leastMultiplier : CB yV_copy cV_copy 2 none rm_V_copy rm_E_leastMultiplier 2 := ⟨wd170, wd1, by decide +kernel, rfl, rfl, by decide⟩
theorem cb_E_isHeld_E_leastMultiplier : CB yE_isHeld cE_isHeld 2 (some .boolean) rm_E_isHeld rm_E_leastMultiplier 1 := ⟨wd195, wd2, by decide +kernel, rfl, rfl, by decide⟩
noncomputable def lE_leastMultiplier_13 (F : Nat) (x_eR : Nat → Nat → Int64) (y_g : Nat → Int64) : Nat → Int64 → Int32 → (Nat → Int64) → Option ((Int64 × (Nat → Int64)) ⊕ (Int64 × (Nat → Int64)))
  | 0, _, _, _ => none
  | n + 1, v2, v4, x_et => if (4 : Int32) ≤ v4 then some (.inl (v2, x_et)) else gd (vp_in v4 4) (if (x_et v4.toNatClampNeg) = (0 : Int64) then lE_leastMultiplier_13 F  x_eR y_g n v2 (v4 + 1) x_et else (E_isHeld F x_eR v4).bind (fun r37 => if r37 = 0 then some (.inr ((0 : Int64), x_et)) else gd (vp_in v4 4) (gd (vp_in v4 4) (gd (vp_in v4 4) ((V_commonDivisor F  ((x_eR v4.toNatClampNeg) v4.toNatClampNeg) (x_et v4.toNatClampNeg)).bind (fun r68 => gd (¬ r68 = 0) ((V_addMultipleA F x_et ((((x_eR v4.toNatClampNeg) v4.toNatClampNeg) / r68) - (1 : Int64))).bind (fun r91 => gd (vp_in v4 4) (gd (vp_in v4 4) (gd (¬ ((x_eR v4.toNatClampNeg) v4.toNatClampNeg) = 0) ((V_addMultiple F r91 (x_eR v4.toNatClampNeg) (-((r91 v4.toNatClampNeg) / ((x_eR v4.toNatClampNeg) v4.toNatClampNeg)))).bind (fun r116 => lE_leastMultiplier_13 F  x_eR y_g n (v2 * (((x_eR v4.toNatClampNeg) v4.toNatClampNeg) / r68)) (v4 + 1) r116))))))))))))
set_option maxHeartbeats 8000000 in
set_option maxRecDepth 100000 in
theorem lE_leastMultiplier_13_ok {g : Gm} {κ : ctx} (G : OK g κ RE cE_leastMultiplier 9 (some .long) rm_E_leastMultiplier) (τ : MS) (F : Nat) {x_added : Nat → Nat → Int64} {x_asked : Nat → Int64} {x_eR : Nat → Nat → Int64} {x_oR : Nat → Nat → Int64} {x_ot : Nat → Int64} {x_bR : Nat → Nat → Int64} {x_bD : Nat → Nat → Int64} {x_bQ : Nat → Int64} {x_bW : Nat → Int64} {x_bS : Nat → Nat → Int64} {x_bM : Nat → Nat → Int64} {x_bT : Nat → Int64} {x_bn : Int32} {x_tg : Nat → Int64} {x_tb : Int64} {x_ts : Nat → Int32} {x_fg : Nat → Int64} {x_fb : Int64} {x_fV : Nat → Nat → Int64} {x_fS : Nat → Int64} {x_fn : Int32} {x_cg : Nat → Int64} {x_cb : Int64} {x_cB : Nat → Int64} {x_cq : Int64} {x_vHeld : Int32} {x_vRed : Int32} {x_vTal : Int32} {x_vLis : Int32} (q_g : Nat) (hq_g : q_g < NW) (y_g : Nat → Int64) (h_g : ∀ (x_eR : Nat → Nat → Int64) (x_et : Nat → Int64), (LM κ τ (LC κ (x_added, x_asked, x_eR, x_et, x_oR, x_ot, x_bR, x_bD, x_bQ, x_bW, x_bS, x_bM, x_bT, x_bn, x_tg, x_tb, x_ts, x_fg, x_fb, x_fV, x_fS, x_fn, x_cg, x_cb, x_cB, x_cq, x_vHeld, x_vRed, x_vTal, x_vLis))) q_g = .inl (κ.2.2.1, 4, .inr (.inl y_g))) (ne_g : q_g ≠ 30) : ∀ (n : Nat) (v2 : Int64) (v4 : Int32) (x_et : Nat → Int64) (out : (Int64 × (Nat → Int64)) ⊕ (Int64 × (Nat → Int64))), lE_leastMultiplier_13 F  x_eR y_g  n v2 v4 x_et = some out → (∀ e, out = .inl e → (J g κ 9 125 [(2, .long e.1)] [] (LM κ τ (LC κ (x_added, x_asked, x_eR, e.2, x_oR, x_ot, x_bR, x_bD, x_bQ, x_bW, x_bS, x_bM, x_bT, x_bn, x_tg, x_tb, x_ts, x_fg, x_fb, x_fV, x_fS, x_fn, x_cg, x_cb, x_cB, x_cq, x_vHeld, x_vRed, x_vTal, x_vLis))))) → (∀ r, out = .inr r → Fn g κ (some (.long r.1)) (LM κ τ (LC κ (x_added, x_asked, x_eR, r.2, x_oR, x_ot, x_bR, x_bD, x_bQ, x_bW, x_bS, x_bM, x_bT, x_bn, x_tg, x_tb, x_ts, x_fg, x_fb, x_fV, x_fS, x_fn, x_cg, x_cb, x_cB, x_cq, x_vHeld, x_vRed, x_vTal, x_vLis)))) → J g κ 9 13 [(0, .ref (κ.1 24)), (2, .long v2), (4, .int v4)] [] (LM κ τ (LC κ (x_added, x_asked, x_eR, x_et, x_oR, x_ot, x_bR, x_bD, x_bQ, x_bW, x_bS, x_bM, x_bT, x_bn, x_tg, x_tb, x_ts, x_fg, x_fb, x_fV, x_fS, x_fn, x_cg, x_cb, x_cB, x_cq, x_vHeld, x_vRed, x_vTal, x_vLis))) := by
  intro n
  induction n with
  | zero =>
    intro v2 v4 x_et
    intro out h
    rw [lE_leastMultiplier_13] at h
    cases h
  | succ n ih =>
    intro v2 v4 x_et out h K K2
    rw [lE_leastMultiplier_13] at h
    refine w_iload (pc := 13) (q := 2) G dE_leastMultiplier_13 rfl ?_
    refine w_iconst (pc := 15) (v := (4 : Int32)) G dE_leastMultiplier_15 (by decide) ?_
    refine w_icmp_ge (pc := 16) (tgt := 125) G dE_leastMultiplier_16 (by decide) (fun c16 => ?_) (fun c16 => ?_)
    · have h := if_t c16 h
      obtain rfl := Option.some.inj h
      refine w_sub (lv' := [(2, .long v2)]) [1] rfl ?_
      have K9 := K _ rfl
      exact K9
    · have h := if_f c16 h
      refine w_aload_n (pc := 19) (q := 0) G dE_leastMultiplier_19 rfl rfl ?_
      refine w_get (pc := 20) (v := .ref (κ.1 30)) (fs := fl_E κ (x_added, x_asked, x_eR, x_et, x_oR, x_ot, x_bR, x_bD, x_bQ, x_bW, x_bS, x_bM, x_bT, x_bn, x_tg, x_tb, x_ts, x_fg, x_fb, x_fV, x_fS, x_fn, x_cg, x_cb, x_cB, x_cq, x_vHeld, x_vRed, x_vTal, x_vLis)) G 24 (by decide) lb_E rfl wsE_ok 1 (by decide) wd30 gf_E_1 dE_leastMultiplier_20 ?_
      refine w_iload (pc := 23) (q := 2) G dE_leastMultiplier_23 rfl ?_
      obtain ⟨i25, h⟩ := gd_some h
      refine w_lald (pc := 25) (n := 4) (f := x_et) G 30 (by decide) lk_et i25 dE_leastMultiplier_25 ?_
      refine w_lconst (pc := 26) (v := (0 : Int64)) G dE_leastMultiplier_26 (by decide) ?_
      refine w_lc_ne (pc := 27) (tgt := 34) G dE_leastMultiplier_27 dE_leastMultiplier_28 (by decide) (fun c27 => ?_) (fun c27 => ?_)
      · have h := if_t c27 h
        refine w_goto (pc := 31) (tgt := 119) G dE_leastMultiplier_31 (by decide) ?_
        refine w_iinc (pc := 119) (q0 := 2) (v := (v4 + 1)) (lv' := [(4, .int (v4 + 1)), (0, .ref (κ.1 24)), (2, .long v2)]) G dE_leastMultiplier_119 rfl rfl (by decide) rfl ?_
        refine w_goto (pc := 122) (tgt := 13) G dE_leastMultiplier_122 (by decide) ?_
        refine w_sub (lv' := [(0, .ref (κ.1 24)), (2, .long v2), (4, .int (v4 + 1))]) [1, 2, 0] rfl ?_
        exact ih v2 (v4 + 1) x_et out h K K2
      · have h := if_f c27 h
        refine w_aload_n (pc := 34) (q := 0) G dE_leastMultiplier_34 rfl rfl ?_
        refine w_iload (pc := 35) (q := 2) G dE_leastMultiplier_35 rfl ?_
        obtain ⟨r37, e37, h⟩ := bd h
        refine w_callV (pc := 37) (av := [.int v4]) (rest := []) (v := some (.int r37)) (L' := (LM κ τ (LC κ (x_added, x_asked, x_eR, x_et, x_oR, x_ot, x_bR, x_bD, x_bQ, x_bW, x_bS, x_bM, x_bT, x_bn, x_tg, x_tb, x_ts, x_fg, x_fb, x_fV, x_fS, x_fn, x_cg, x_cb, x_cB, x_cq, x_vHeld, x_vRed, x_vTal, x_vLis)))) (T := TE) (fs := fl_E κ (x_added, x_asked, x_eR, x_et, x_oR, x_ot, x_bR, x_bD, x_bQ, x_bW, x_bS, x_bM, x_bT, x_bn, x_tg, x_tb, x_ts, x_fg, x_fb, x_fV, x_fS, x_fn, x_cg, x_cb, x_cB, x_cq, x_vHeld, x_vRed, x_vTal, x_vLis)) G 24 2 2 (by decide) lb_E rfl cb_E_isHeld_E_leastMultiplier wd193 wd194 wd192 (met_E_isHeld κ τ F v4  e37) rfl rfl rfl (Nat.le_of_ble_eq_true rfl) dE_leastMultiplier_37 ?_
        refine w_if_ne (pc := 40) (tgt := 45) G dE_leastMultiplier_40 (by decide) (fun c40 => ?_) (fun c40 => ?_)
        · have h := if_t c40 h
          refine w_lconst (pc := 43) (v := (0 : Int64)) G dE_leastMultiplier_43 (by decide) ?_
          obtain rfl := Option.some.inj h
          have K9 := K2 _ rfl
          exact w_lret (pc := 44) G dE_leastMultiplier_44 K9
        · have h := if_f c40 h
          refine w_aload_n (pc := 45) (q := 0) G dE_leastMultiplier_45 rfl rfl ?_
          refine w_get (pc := 46) (v := .ref (κ.1 25)) (fs := fl_E κ (x_added, x_asked, x_eR, x_et, x_oR, x_ot, x_bR, x_bD, x_bQ, x_bW, x_bS, x_bM, x_bT, x_bn, x_tg, x_tb, x_ts, x_fg, x_fb, x_fV, x_fS, x_fn, x_cg, x_cb, x_cB, x_cq, x_vHeld, x_vRed, x_vTal, x_vLis)) G 24 (by decide) lb_E rfl wsE_ok 0 (by decide) wd29 gf_E_0 dE_leastMultiplier_46 ?_
          refine w_iload (pc := 49) (q := 2) G dE_leastMultiplier_49 rfl ?_
          obtain ⟨i51, h⟩ := gd_some h
          refine w_aald (pc := 51) (n := 4) (f := og κ 26 4) (b := κ.1 (26 + v4.toNatClampNeg)) G 25 (by decide) lo_eR i51 (og_at (ixlt i51)) dE_leastMultiplier_51 ?_
          refine w_iload (pc := 52) (q := 2) G dE_leastMultiplier_52 rfl ?_
          obtain ⟨i54, h⟩ := gd_some h
          refine w_lald (pc := 54) (n := 4) (f := (x_eR v4.toNatClampNeg)) G (26 + v4.toNatClampNeg) (nw_eR (ixlt i51)) (lk_eR (ixlt i51)) i54 dE_leastMultiplier_54 ?_
          refine w_lstore (pc := 55) (lv' := [(5, .long ((x_eR v4.toNatClampNeg) v4.toNatClampNeg)), (0, .ref (κ.1 24)), (2, .long v2), (4, .int v4)]) G dE_leastMultiplier_55 (by decide) rfl ?_
          refine w_lload (pc := 57) (q := 0) G dE_leastMultiplier_57 rfl ?_
          refine w_lload (pc := 59) (q := 0) G dE_leastMultiplier_59 rfl ?_
          refine w_aload_n (pc := 61) (q := 1) G dE_leastMultiplier_61 rfl rfl ?_
          refine w_get (pc := 62) (v := .ref (κ.1 30)) (fs := fl_E κ (x_added, x_asked, x_eR, x_et, x_oR, x_ot, x_bR, x_bD, x_bQ, x_bW, x_bS, x_bM, x_bT, x_bn, x_tg, x_tb, x_ts, x_fg, x_fb, x_fV, x_fS, x_fn, x_cg, x_cb, x_cB, x_cq, x_vHeld, x_vRed, x_vTal, x_vLis)) G 24 (by decide) lb_E rfl wsE_ok 1 (by decide) wd30 gf_E_1 dE_leastMultiplier_62 ?_
          refine w_iload (pc := 65) (q := 3) G dE_leastMultiplier_65 rfl ?_
          obtain ⟨i67, h⟩ := gd_some h
          refine w_lald (pc := 67) (n := 4) (f := x_et) G 30 (by decide) lk_et i67 dE_leastMultiplier_67 ?_
          obtain ⟨r68, e68, h⟩ := bd h
          refine w_callSN (pc := 68) (av := [.long ((x_eR v4.toNatClampNeg) v4.toNatClampNeg), .long (x_et v4.toNatClampNeg)]) (rest := [.long ((x_eR v4.toNatClampNeg) v4.toNatClampNeg)]) (v := some (.long r68)) (L' := (LM κ τ (LC κ (x_added, x_asked, x_eR, x_et, x_oR, x_ot, x_bR, x_bD, x_bQ, x_bW, x_bS, x_bM, x_bT, x_bn, x_tg, x_tb, x_ts, x_fg, x_fb, x_fV, x_fS, x_fn, x_cg, x_cb, x_cB, x_cq, x_vHeld, x_vRed, x_vTal, x_vLis)))) G cb_V_commonDivisor_E_leastMultiplier wd298 wd325 (met_V_commonDivisor κ (LM κ τ (LC κ (x_added, x_asked, x_eR, x_et, x_oR, x_ot, x_bR, x_bD, x_bQ, x_bW, x_bS, x_bM, x_bT, x_bn, x_tg, x_tb, x_ts, x_fg, x_fb, x_fV, x_fS, x_fn, x_cg, x_cb, x_cB, x_cq, x_vHeld, x_vRed, x_vTal, x_vLis))) F ((x_eR v4.toNatClampNeg) v4.toNatClampNeg) (x_et v4.toNatClampNeg)  e68) rfl rfl rfl (Nat.le_of_ble_eq_true rfl) dE_leastMultiplier_68 ?_
          obtain ⟨z71, h⟩ := gd_some h
          refine w_ldiv (pc := 71) G dE_leastMultiplier_71 z71 ?_
          refine w_lstore (pc := 72) (lv' := [(7, .long (((x_eR v4.toNatClampNeg) v4.toNatClampNeg) / r68)), (5, .long ((x_eR v4.toNatClampNeg) v4.toNatClampNeg)), (0, .ref (κ.1 24)), (2, .long v2), (4, .int v4)]) G dE_leastMultiplier_72 (by decide) rfl ?_
          refine w_lload_n (pc := 74) (q := 3) G dE_leastMultiplier_74 rfl rfl ?_
          refine w_lload (pc := 75) (q := 0) G dE_leastMultiplier_75 rfl ?_
          refine w_lmul (pc := 77) G dE_leastMultiplier_77 ?_
          refine w_lstore_n (pc := 78) (lv' := [(2, .long (v2 * (((x_eR v4.toNatClampNeg) v4.toNatClampNeg) / r68))), (7, .long (((x_eR v4.toNatClampNeg) v4.toNatClampNeg) / r68)), (5, .long ((x_eR v4.toNatClampNeg) v4.toNatClampNeg)), (0, .ref (κ.1 24)), (4, .int v4)]) G dE_leastMultiplier_78 rfl (by decide) rfl ?_
          refine w_aload_n (pc := 79) (q := 3) G dE_leastMultiplier_79 rfl rfl ?_
          refine w_get (pc := 80) (v := .ref (κ.1 30)) (fs := fl_E κ (x_added, x_asked, x_eR, x_et, x_oR, x_ot, x_bR, x_bD, x_bQ, x_bW, x_bS, x_bM, x_bT, x_bn, x_tg, x_tb, x_ts, x_fg, x_fb, x_fV, x_fS, x_fn, x_cg, x_cb, x_cB, x_cq, x_vHeld, x_vRed, x_vTal, x_vLis)) G 24 (by decide) lb_E rfl wsE_ok 1 (by decide) wd30 gf_E_1 dE_leastMultiplier_80 ?_
          refine w_aload_n (pc := 83) (q := 3) G dE_leastMultiplier_83 rfl rfl ?_
          refine w_get (pc := 84) (v := .ref (κ.1 30)) (fs := fl_E κ (x_added, x_asked, x_eR, x_et, x_oR, x_ot, x_bR, x_bD, x_bQ, x_bW, x_bS, x_bM, x_bT, x_bn, x_tg, x_tb, x_ts, x_fg, x_fb, x_fV, x_fS, x_fn, x_cg, x_cb, x_cB, x_cq, x_vHeld, x_vRed, x_vTal, x_vLis)) G 24 (by decide) lb_E rfl wsE_ok 1 (by decide) wd30 gf_E_1 dE_leastMultiplier_84 ?_
          refine w_lload (pc := 87) (q := 1) G dE_leastMultiplier_87 rfl ?_
          refine w_lconst (pc := 89) (v := (1 : Int64)) G dE_leastMultiplier_89 (by decide) ?_
          refine w_lsub (pc := 90) G dE_leastMultiplier_90 ?_
          obtain ⟨r91, e91, h⟩ := bd h
          refine w_callSN (pc := 91) (av := [.ref (κ.1 30), .ref (κ.1 30), .long ((((x_eR v4.toNatClampNeg) v4.toNatClampNeg) / r68) - (1 : Int64))]) (rest := []) (v := none) (L' := (LM κ τ (LC κ (x_added, x_asked, x_eR, r91, x_oR, x_ot, x_bR, x_bD, x_bQ, x_bW, x_bS, x_bM, x_bT, x_bn, x_tg, x_tb, x_ts, x_fg, x_fb, x_fV, x_fS, x_fn, x_cg, x_cb, x_cB, x_cq, x_vHeld, x_vRed, x_vTal, x_vLis)))) G cb_V_addMultipleA_E_leastMultiplier wd186 wd185 (Mt.eqw up_et (met_V_addMultipleA κ (LM κ τ (LC κ (x_added, x_asked, x_eR, x_et, x_oR, x_ot, x_bR, x_bD, x_bQ, x_bW, x_bS, x_bM, x_bT, x_bn, x_tg, x_tb, x_ts, x_fg, x_fb, x_fV, x_fS, x_fn, x_cg, x_cb, x_cB, x_cq, x_vHeld, x_vRed, x_vTal, x_vLis))) F ((((x_eR v4.toNatClampNeg) v4.toNatClampNeg) / r68) - (1 : Int64)) 30 (by decide) x_et lk_et e91)) rfl rfl rfl (Nat.le_of_ble_eq_true rfl) dE_leastMultiplier_91 ?_
          refine w_aload_n (pc := 94) (q := 3) G dE_leastMultiplier_94 rfl rfl ?_
          refine w_get (pc := 95) (v := .ref (κ.1 30)) (fs := fl_E κ (x_added, x_asked, x_eR, r91, x_oR, x_ot, x_bR, x_bD, x_bQ, x_bW, x_bS, x_bM, x_bT, x_bn, x_tg, x_tb, x_ts, x_fg, x_fb, x_fV, x_fS, x_fn, x_cg, x_cb, x_cB, x_cq, x_vHeld, x_vRed, x_vTal, x_vLis)) G 24 (by decide) lb_E rfl wsE_ok 1 (by decide) wd30 gf_E_1 dE_leastMultiplier_95 ?_
          refine w_aload_n (pc := 98) (q := 3) G dE_leastMultiplier_98 rfl rfl ?_
          refine w_get (pc := 99) (v := .ref (κ.1 25)) (fs := fl_E κ (x_added, x_asked, x_eR, r91, x_oR, x_ot, x_bR, x_bD, x_bQ, x_bW, x_bS, x_bM, x_bT, x_bn, x_tg, x_tb, x_ts, x_fg, x_fb, x_fV, x_fS, x_fn, x_cg, x_cb, x_cB, x_cq, x_vHeld, x_vRed, x_vTal, x_vLis)) G 24 (by decide) lb_E rfl wsE_ok 0 (by decide) wd29 gf_E_0 dE_leastMultiplier_99 ?_
          refine w_iload (pc := 102) (q := 4) G dE_leastMultiplier_102 rfl ?_
          obtain ⟨i104, h⟩ := gd_some h
          refine w_aald (pc := 104) (n := 4) (f := og κ 26 4) (b := κ.1 (26 + v4.toNatClampNeg)) G 25 (by decide) lo_eR i104 (og_at (ixlt i104)) dE_leastMultiplier_104 ?_
          refine w_aload_n (pc := 105) (q := 3) G dE_leastMultiplier_105 rfl rfl ?_
          refine w_get (pc := 106) (v := .ref (κ.1 30)) (fs := fl_E κ (x_added, x_asked, x_eR, r91, x_oR, x_ot, x_bR, x_bD, x_bQ, x_bW, x_bS, x_bM, x_bT, x_bn, x_tg, x_tb, x_ts, x_fg, x_fb, x_fV, x_fS, x_fn, x_cg, x_cb, x_cB, x_cq, x_vHeld, x_vRed, x_vTal, x_vLis)) G 24 (by decide) lb_E rfl wsE_ok 1 (by decide) wd30 gf_E_1 dE_leastMultiplier_106 ?_
          refine w_iload (pc := 109) (q := 4) G dE_leastMultiplier_109 rfl ?_
          obtain ⟨i111, h⟩ := gd_some h
          refine w_lald (pc := 111) (n := 4) (f := r91) G 30 (by decide) lk_et i111 dE_leastMultiplier_111 ?_
          refine w_lload (pc := 112) (q := 2) G dE_leastMultiplier_112 rfl ?_
          obtain ⟨z114, h⟩ := gd_some h
          refine w_ldiv (pc := 114) G dE_leastMultiplier_114 z114 ?_
          refine w_lneg (pc := 115) G dE_leastMultiplier_115 ?_
          obtain ⟨r116, e116, h⟩ := bd h
          refine w_callSN (pc := 116) (av := [.ref (κ.1 30), .ref (κ.1 (26 + v4.toNatClampNeg)), .long (-((r91 v4.toNatClampNeg) / ((x_eR v4.toNatClampNeg) v4.toNatClampNeg)))]) (rest := []) (v := none) (L' := (LM κ τ (LC κ (x_added, x_asked, x_eR, r116, x_oR, x_ot, x_bR, x_bD, x_bQ, x_bW, x_bS, x_bM, x_bT, x_bn, x_tg, x_tb, x_ts, x_fg, x_fb, x_fV, x_fS, x_fn, x_cg, x_cb, x_cB, x_cq, x_vHeld, x_vRed, x_vTal, x_vLis)))) G cb_V_addMultiple_E_leastMultiplier wd186 wd185 (Mt.eqw up_et (met_V_addMultiple κ (LM κ τ (LC κ (x_added, x_asked, x_eR, r91, x_oR, x_ot, x_bR, x_bD, x_bQ, x_bW, x_bS, x_bM, x_bT, x_bn, x_tg, x_tb, x_ts, x_fg, x_fb, x_fV, x_fS, x_fn, x_cg, x_cb, x_cB, x_cq, x_vHeld, x_vRed, x_vTal, x_vLis))) F (-((r91 v4.toNatClampNeg) / ((x_eR v4.toNatClampNeg) v4.toNatClampNeg))) 30 (by decide) r91 lk_et (26 + v4.toNatClampNeg) (nw_eR (ixlt i104)) (x_eR v4.toNatClampNeg) (lk_eR (ixlt i104)) (by have := (ixlt i104); omega) e116)) rfl rfl rfl (Nat.le_of_ble_eq_true rfl) dE_leastMultiplier_116 ?_
          refine w_iinc (pc := 119) (q0 := 4) (v := (v4 + 1)) (lv' := [(4, .int (v4 + 1)), (2, .long (v2 * (((x_eR v4.toNatClampNeg) v4.toNatClampNeg) / r68))), (7, .long (((x_eR v4.toNatClampNeg) v4.toNatClampNeg) / r68)), (5, .long ((x_eR v4.toNatClampNeg) v4.toNatClampNeg)), (0, .ref (κ.1 24))]) G dE_leastMultiplier_119 rfl rfl (by decide) rfl ?_
          refine w_goto (pc := 122) (tgt := 13) G dE_leastMultiplier_122 (by decide) ?_
          refine w_sub (lv' := [(0, .ref (κ.1 24)), (2, .long (v2 * (((x_eR v4.toNatClampNeg) v4.toNatClampNeg) / r68))), (4, .int (v4 + 1))]) [4, 1, 0] rfl ?_
          exact ih (v2 * (((x_eR v4.toNatClampNeg) v4.toNatClampNeg) / r68)) (v4 + 1) r116 out h K K2
noncomputable def E_leastMultiplier (F : Nat)  (x_eR : Nat → Nat → Int64) (x_et : Nat → Int64) (y_g : Nat → Int64)  : Option (Int64 × (Nat → Int64)) := (V_copy F y_g x_et ).bind (fun r5 => (lE_leastMultiplier_13 F  x_eR y_g F (1 : Int64) (0 : Int32) r5).bind (fun o13_15 => match o13_15 with | .inl o13_15 => some (o13_15.1, o13_15.2) | .inr o13_15 => some o13_15))
set_option maxHeartbeats 8000000 in
set_option maxRecDepth 100000 in
theorem met_E_leastMultiplier (κ : ctx) (τ : MS) (F : Nat) {x_added : Nat → Nat → Int64} {x_asked : Nat → Int64} {x_eR : Nat → Nat → Int64} {x_et : Nat → Int64} {x_oR : Nat → Nat → Int64} {x_ot : Nat → Int64} {x_bR : Nat → Nat → Int64} {x_bD : Nat → Nat → Int64} {x_bQ : Nat → Int64} {x_bW : Nat → Int64} {x_bS : Nat → Nat → Int64} {x_bM : Nat → Nat → Int64} {x_bT : Nat → Int64} {x_bn : Int32} {x_tg : Nat → Int64} {x_tb : Int64} {x_ts : Nat → Int32} {x_fg : Nat → Int64} {x_fb : Int64} {x_fV : Nat → Nat → Int64} {x_fS : Nat → Int64} {x_fn : Int32} {x_cg : Nat → Int64} {x_cb : Int64} {x_cB : Nat → Int64} {x_cq : Int64} {x_vHeld : Int32} {x_vRed : Int32} {x_vTal : Int32} {x_vLis : Int32}  (q_g : Nat) (hq_g : q_g < NW) (y_g : Nat → Int64) (h_g : ∀ (x_eR : Nat → Nat → Int64) (x_et : Nat → Int64), (LM κ τ (LC κ (x_added, x_asked, x_eR, x_et, x_oR, x_ot, x_bR, x_bD, x_bQ, x_bW, x_bS, x_bM, x_bT, x_bn, x_tg, x_tb, x_ts, x_fg, x_fb, x_fV, x_fS, x_fn, x_cg, x_cb, x_cB, x_cq, x_vHeld, x_vRed, x_vTal, x_vLis))) q_g = .inl (κ.2.2.1, 4, .inr (.inl y_g))) (ne_g : q_g ≠ 30) {out : Int64 × (Nat → Int64)} (h : E_leastMultiplier F  x_eR x_et y_g  = some out) : Mt yE_leastMultiplier cE_leastMultiplier 9 (some .long) rm_E_leastMultiplier κ [.ref (κ.1 24), .ref (κ.1 q_g)] (LM κ τ (LC κ (x_added, x_asked, x_eR, x_et, x_oR, x_ot, x_bR, x_bD, x_bQ, x_bW, x_bS, x_bM, x_bT, x_bn, x_tg, x_tb, x_ts, x_fg, x_fb, x_fV, x_fS, x_fn, x_cg, x_cb, x_cB, x_cq, x_vHeld, x_vRed, x_vTal, x_vLis))) (some (.long out.1)) (LM κ τ (LC κ (x_added, x_asked, x_eR, out.2, x_oR, x_ot, x_bR, x_bD, x_bQ, x_bW, x_bS, x_bM, x_bT, x_bn, x_tg, x_tb, x_ts, x_fg, x_fb, x_fV, x_fS, x_fn, x_cg, x_cb, x_cB, x_cq, x_vHeld, x_vRed, x_vTal, x_vLis))) := by
  refine Mt.of (by decide) (Nat.le_of_ble_eq_true rfl) ?_
  intro g G Fh
  unfold E_leastMultiplier at h
  show J g κ 9 0 [(0, .ref (κ.1 24)), (1, .ref (κ.1 q_g))] [] (LM κ τ (LC κ (x_added, x_asked, x_eR, x_et, x_oR, x_ot, x_bR, x_bD, x_bQ, x_bW, x_bS, x_bM, x_bT, x_bn, x_tg, x_tb, x_ts, x_fg, x_fb, x_fV, x_fS, x_fn, x_cg, x_cb, x_cB, x_cq, x_vHeld, x_vRed, x_vTal, x_vLis)))
  refine w_aload_n (pc := 0) (q := 1) G dE_leastMultiplier_0 rfl rfl ?_
  refine w_aload_n (pc := 1) (q := 0) G dE_leastMultiplier_1 rfl rfl ?_
  refine w_get (pc := 2) (v := .ref (κ.1 30)) (fs := fl_E κ (x_added, x_asked, x_eR, x_et, x_oR, x_ot, x_bR, x_bD, x_bQ, x_bW, x_bS, x_bM, x_bT, x_bn, x_tg, x_tb, x_ts, x_fg, x_fb, x_fV, x_fS, x_fn, x_cg, x_cb, x_cB, x_cq, x_vHeld, x_vRed, x_vTal, x_vLis)) G 24 (by decide) lb_E rfl wsE_ok 1 (by decide) wd30 gf_E_1 dE_leastMultiplier_2 ?_
  obtain ⟨r5, e5, h⟩ := bd h
  refine w_callSN (pc := 5) (av := [.ref (κ.1 q_g), .ref (κ.1 30)]) (rest := []) (v := none) (L' := (LM κ τ (LC κ (x_added, x_asked, x_eR, r5, x_oR, x_ot, x_bR, x_bD, x_bQ, x_bW, x_bS, x_bM, x_bT, x_bn, x_tg, x_tb, x_ts, x_fg, x_fb, x_fV, x_fS, x_fn, x_cg, x_cb, x_cB, x_cq, x_vHeld, x_vRed, x_vTal, x_vLis)))) G cb_V_copy_E_leastMultiplier wd169 wd178 (Mt.eqw up_et (met_V_copy κ (LM κ τ (LC κ (x_added, x_asked, x_eR, x_et, x_oR, x_ot, x_bR, x_bD, x_bQ, x_bW, x_bS, x_bM, x_bT, x_bn, x_tg, x_tb, x_ts, x_fg, x_fb, x_fV, x_fS, x_fn, x_cg, x_cb, x_cB, x_cq, x_vHeld, x_vRed, x_vTal, x_vLis))) F  q_g hq_g y_g (h_g x_eR x_et) 30 (by decide) x_et lk_et (ne_g) e5)) rfl rfl rfl (Nat.le_of_ble_eq_true rfl) dE_leastMultiplier_5 ?_
  refine w_lconst (pc := 8) (v := (1 : Int64)) G dE_leastMultiplier_8 (by decide) ?_
  refine w_lstore_n (pc := 9) (lv' := [(2, .long (1 : Int64)), (0, .ref (κ.1 24)), (1, .ref (κ.1 q_g))]) G dE_leastMultiplier_9 rfl (by decide) rfl ?_
  refine w_iconst (pc := 10) (v := (0 : Int32)) G dE_leastMultiplier_10 (by decide) ?_
  refine w_istore (pc := 11) (lv' := [(4, .int (0 : Int32)), (2, .long (1 : Int64)), (0, .ref (κ.1 24)), (1, .ref (κ.1 q_g))]) G dE_leastMultiplier_11 (by decide) rfl ?_
  refine w_sub (lv' := [(0, .ref (κ.1 24)), (2, .long (1 : Int64)), (4, .int (0 : Int32))]) [2, 1, 0] rfl ?_
  obtain ⟨o13_15, eo13_15, h⟩ := bd h
  rcases o13_15 with o13_15 | o13_15
  · refine lE_leastMultiplier_13_ok G τ F  q_g hq_g y_g h_g ne_g  F (1 : Int64) (0 : Int32) r5 (.inl o13_15) eo13_15 (fun e he => ?_) (fun r he => by cases he)
    cases he
    dsimp only at h
    refine w_lload_n (pc := 125) (q := 0) G dE_leastMultiplier_125 rfl rfl ?_
    obtain rfl := Option.some.inj h
    exact w_lret (pc := 126) G dE_leastMultiplier_126 Fh
  · refine lE_leastMultiplier_13_ok G τ F  q_g hq_g y_g h_g ne_g  F (1 : Int64) (0 : Int32) r5 (.inr o13_15) eo13_15 (fun e he => by cases he) (fun r he => ?_)
    cases he
    dsimp only at h
    obtain rfl := Option.some.inj h
    exact Fh
def rm_E_holds : Room := { frames := 3, cells := 0, slots := 0, locals := 128 }
theorem dE_holds_0 : decode cE_holds 0 = .ok (.aload_n 0, 1) := by decide +kernel
theorem dE_holds_1 : decode cE_holds 1 = .ok (.aload_n 1, 1) := by decide +kernel
theorem dE_holds_2 : decode cE_holds 2 = .ok (.invokevirtual 55, 3) := by decide +kernel
theorem dE_holds_5 : decode cE_holds 5 = .ok (.lconst 1, 1) := by decide +kernel
theorem dE_holds_6 : decode cE_holds 6 = .ok (.lcmp, 1) := by decide +kernel
theorem dE_holds_7 : decode cE_holds 7 = .ok (.ifCond .ne 7, 3) := by decide +kernel
theorem dE_holds_10 : decode cE_holds 10 = .ok (.iconst 1, 1) := by decide +kernel
theorem dE_holds_11 : decode cE_holds 11 = .ok (.goto 4, 3) := by decide +kernel
theorem dE_holds_14 : decode cE_holds 14 = .ok (.iconst 0, 1) := by decide +kernel
theorem dE_holds_15 : decode cE_holds 15 = .ok (.ireturn, 1) := by decide +kernel
theorem cb_E_leastMultiplier_E_holds : CB yE_leastMultiplier cE_leastMultiplier 9 (some .long) rm_E_leastMultiplier rm_E_holds 1 := ⟨wd324, wd2, by decide +kernel, rfl, rfl, by decide⟩
noncomputable def E_holds (F : Nat)  (x_eR : Nat → Nat → Int64) (x_et : Nat → Int64) (y_g : Nat → Int64)  : Option (Int32 × (Nat → Int64)) := (E_leastMultiplier F x_eR x_et y_g ).bind (fun r2 => if r2.1 = (1 : Int64) then some ((1 : Int32), r2.2) else some ((0 : Int32), r2.2))
set_option maxHeartbeats 8000000 in
set_option maxRecDepth 100000 in
theorem met_E_holds (κ : ctx) (τ : MS) (F : Nat) {x_added : Nat → Nat → Int64} {x_asked : Nat → Int64} {x_eR : Nat → Nat → Int64} {x_et : Nat → Int64} {x_oR : Nat → Nat → Int64} {x_ot : Nat → Int64} {x_bR : Nat → Nat → Int64} {x_bD : Nat → Nat → Int64} {x_bQ : Nat → Int64} {x_bW : Nat → Int64} {x_bS : Nat → Nat → Int64} {x_bM : Nat → Nat → Int64} {x_bT : Nat → Int64} {x_bn : Int32} {x_tg : Nat → Int64} {x_tb : Int64} {x_ts : Nat → Int32} {x_fg : Nat → Int64} {x_fb : Int64} {x_fV : Nat → Nat → Int64} {x_fS : Nat → Int64} {x_fn : Int32} {x_cg : Nat → Int64} {x_cb : Int64} {x_cB : Nat → Int64} {x_cq : Int64} {x_vHeld : Int32} {x_vRed : Int32} {x_vTal : Int32} {x_vLis : Int32}  (q_g : Nat) (hq_g : q_g < NW) (y_g : Nat → Int64) (h_g : ∀ (x_eR : Nat → Nat → Int64) (x_et : Nat → Int64), (LM κ τ (LC κ (x_added, x_asked, x_eR, x_et, x_oR, x_ot, x_bR, x_bD, x_bQ, x_bW, x_bS, x_bM, x_bT, x_bn, x_tg, x_tb, x_ts, x_fg, x_fb, x_fV, x_fS, x_fn, x_cg, x_cb, x_cB, x_cq, x_vHeld, x_vRed, x_vTal, x_vLis))) q_g = .inl (κ.2.2.1, 4, .inr (.inl y_g))) (ne_g : q_g ≠ 30) {out : Int32 × (Nat → Int64)} (h : E_holds F  x_eR x_et y_g  = some out) : Mt yE_holds cE_holds 2 (some .boolean) rm_E_holds κ [.ref (κ.1 24), .ref (κ.1 q_g)] (LM κ τ (LC κ (x_added, x_asked, x_eR, x_et, x_oR, x_ot, x_bR, x_bD, x_bQ, x_bW, x_bS, x_bM, x_bT, x_bn, x_tg, x_tb, x_ts, x_fg, x_fb, x_fV, x_fS, x_fn, x_cg, x_cb, x_cB, x_cq, x_vHeld, x_vRed, x_vTal, x_vLis))) (some (.int out.1)) (LM κ τ (LC κ (x_added, x_asked, x_eR, out.2, x_oR, x_ot, x_bR, x_bD, x_bQ, x_bW, x_bS, x_bM, x_bT, x_bn, x_tg, x_tb, x_ts, x_fg, x_fb, x_fV, x_fS, x_fn, x_cg, x_cb, x_cB, x_cq, x_vHeld, x_vRed, x_vTal, x_vLis))) := by
  refine Mt.of (by decide) (Nat.le_of_ble_eq_true rfl) ?_
  intro g G Fh
  unfold E_holds at h
  show J g κ 2 0 [(0, .ref (κ.1 24)), (1, .ref (κ.1 q_g))] [] (LM κ τ (LC κ (x_added, x_asked, x_eR, x_et, x_oR, x_ot, x_bR, x_bD, x_bQ, x_bW, x_bS, x_bM, x_bT, x_bn, x_tg, x_tb, x_ts, x_fg, x_fb, x_fV, x_fS, x_fn, x_cg, x_cb, x_cB, x_cq, x_vHeld, x_vRed, x_vTal, x_vLis)))
  refine w_aload_n (pc := 0) (q := 0) G dE_holds_0 rfl rfl ?_
  refine w_aload_n (pc := 1) (q := 1) G dE_holds_1 rfl rfl ?_
  obtain ⟨r2, e2, h⟩ := bd h
  refine w_callV (pc := 2) (av := [.ref (κ.1 q_g)]) (rest := []) (v := some (.long r2.1)) (L' := (LM κ τ (LC κ (x_added, x_asked, x_eR, r2.2, x_oR, x_ot, x_bR, x_bD, x_bQ, x_bW, x_bS, x_bM, x_bT, x_bn, x_tg, x_tb, x_ts, x_fg, x_fb, x_fV, x_fS, x_fn, x_cg, x_cb, x_cB, x_cq, x_vHeld, x_vRed, x_vTal, x_vLis)))) (T := TE) (fs := fl_E κ (x_added, x_asked, x_eR, x_et, x_oR, x_ot, x_bR, x_bD, x_bQ, x_bW, x_bS, x_bM, x_bT, x_bn, x_tg, x_tb, x_ts, x_fg, x_fb, x_fV, x_fS, x_fn, x_cg, x_cb, x_cB, x_cq, x_vHeld, x_vRed, x_vTal, x_vLis)) G 24 2 2 (by decide) lb_E rfl cb_E_leastMultiplier_E_holds wd322 wd323 wd321 (met_E_leastMultiplier κ τ F  q_g hq_g y_g h_g ne_g e2) rfl rfl rfl (Nat.le_of_ble_eq_true rfl) dE_holds_2 ?_
  refine w_lconst (pc := 5) (v := (1 : Int64)) G dE_holds_5 (by decide) ?_
  refine w_lc_ne (pc := 6) (tgt := 14) G dE_holds_6 dE_holds_7 (by decide) (fun c6 => ?_) (fun c6 => ?_)
  · have h := if_t c6 h
    refine w_iconst (pc := 10) (v := (1 : Int32)) G dE_holds_10 (by decide) ?_
    refine w_goto (pc := 11) (tgt := 15) G dE_holds_11 (by decide) ?_
    obtain rfl := Option.some.inj h
    exact w_zret (pc := 15) G rfl dE_holds_15 Fh
  · have h := if_f c6 h
    refine w_iconst (pc := 14) (v := (0 : Int32)) G dE_holds_14 (by decide) ?_
    obtain rfl := Option.some.inj h
    exact w_zret (pc := 15) G rfl dE_holds_15 Fh
def rm_O_clear : Room := { frames := 1, cells := 0, slots := 0, locals := 24 }
theorem cb_JA_fillJ_O_clear : CB yJA_fillJ cJA_fillJ 5 none rm_JA_fillJ rm_O_clear 2 := ⟨wd217, wd11, by decide +kernel, rfl, rfl, by decide⟩
set_option maxHeartbeats 8000000 in
set_option maxRecDepth 100000 in
theorem lO_clear_2_ok {g : Gm} {κ : ctx} (G : OK g κ RE cE_clear 2 none rm_O_clear) (τ : MS) (F : Nat) {x_added : Nat → Nat → Int64} {x_asked : Nat → Int64} {x_eR : Nat → Nat → Int64} {x_et : Nat → Int64} {x_ot : Nat → Int64} {x_bR : Nat → Nat → Int64} {x_bD : Nat → Nat → Int64} {x_bQ : Nat → Int64} {x_bW : Nat → Int64} {x_bS : Nat → Nat → Int64} {x_bM : Nat → Nat → Int64} {x_bT : Nat → Int64} {x_bn : Int32} {x_tg : Nat → Int64} {x_tb : Int64} {x_ts : Nat → Int32} {x_fg : Nat → Int64} {x_fb : Int64} {x_fV : Nat → Nat → Int64} {x_fS : Nat → Int64} {x_fn : Int32} {x_cg : Nat → Int64} {x_cb : Int64} {x_cB : Nat → Int64} {x_cq : Int64} {x_vHeld : Int32} {x_vRed : Int32} {x_vTal : Int32} {x_vLis : Int32} : ∀ (n : Nat) (v1 : Int32) (x_oR : Nat → Nat → Int64) (out : (Nat → Nat → Int64)), lE_clear_2 F    n v1 x_oR = some out → (J g κ 2 23 [] [] (LM κ τ (LC κ (x_added, x_asked, x_eR, x_et, out, x_ot, x_bR, x_bD, x_bQ, x_bW, x_bS, x_bM, x_bT, x_bn, x_tg, x_tb, x_ts, x_fg, x_fb, x_fV, x_fS, x_fn, x_cg, x_cb, x_cB, x_cq, x_vHeld, x_vRed, x_vTal, x_vLis)))) → J g κ 2 2 [(0, .ref (κ.1 31)), (1, .int v1)] [] (LM κ τ (LC κ (x_added, x_asked, x_eR, x_et, x_oR, x_ot, x_bR, x_bD, x_bQ, x_bW, x_bS, x_bM, x_bT, x_bn, x_tg, x_tb, x_ts, x_fg, x_fb, x_fV, x_fS, x_fn, x_cg, x_cb, x_cB, x_cq, x_vHeld, x_vRed, x_vTal, x_vLis))) := by
  intro n
  induction n with
  | zero =>
    intro v1 x_oR
    intro out h
    rw [lE_clear_2] at h
    cases h
  | succ n ih =>
    intro v1 x_oR out h K
    rw [lE_clear_2] at h
    refine w_iload_n (pc := 2) (q := 1) G dE_clear_2 rfl rfl ?_
    refine w_iconst (pc := 3) (v := (4 : Int32)) G dE_clear_3 (by decide) ?_
    refine w_icmp_ge (pc := 4) (tgt := 23) G dE_clear_4 (by decide) (fun c4 => ?_) (fun c4 => ?_)
    · have h := if_t c4 h
      obtain rfl := Option.some.inj h
      refine w_sub (lv' := []) [] rfl ?_
      exact K
    · have h := if_f c4 h
      refine w_aload_n (pc := 7) (q := 0) G dE_clear_7 rfl rfl ?_
      refine w_get (pc := 8) (v := .ref (κ.1 32)) (fs := fl_O κ (x_added, x_asked, x_eR, x_et, x_oR, x_ot, x_bR, x_bD, x_bQ, x_bW, x_bS, x_bM, x_bT, x_bn, x_tg, x_tb, x_ts, x_fg, x_fb, x_fV, x_fS, x_fn, x_cg, x_cb, x_cB, x_cq, x_vHeld, x_vRed, x_vTal, x_vLis)) G 31 (by decide) lb_O rfl wsE_ok 0 (by decide) wd29 gf_O_0 dE_clear_8 ?_
      refine w_iload_n (pc := 11) (q := 1) G dE_clear_11 rfl rfl ?_
      obtain ⟨i12, h⟩ := gd_some h
      refine w_aald (pc := 12) (n := 4) (f := og κ 33 4) (b := κ.1 (33 + v1.toNatClampNeg)) G 32 (by decide) lo_oR i12 (og_at (ixlt i12)) dE_clear_12 ?_
      refine w_lconst (pc := 13) (v := (0 : Int64)) G dE_clear_13 (by decide) ?_
      obtain ⟨r14, e14, h⟩ := bd h
      refine w_callS (pc := 14) (av := [.ref (κ.1 (33 + v1.toNatClampNeg)), .long (0 : Int64)]) (rest := []) (v := none) (L' := (LM κ τ (LC κ (x_added, x_asked, x_eR, x_et, va_up x_oR v1.toNatClampNeg r14, x_ot, x_bR, x_bD, x_bQ, x_bW, x_bS, x_bM, x_bT, x_bn, x_tg, x_tb, x_ts, x_fg, x_fb, x_fV, x_fS, x_fn, x_cg, x_cb, x_cB, x_cq, x_vHeld, x_vRed, x_vTal, x_vLis)))) G cb_JA_fillJ_O_clear wd216 wd215 (Mt.eqw (up_oR (ixlt i12)) (met_JA_fillJ κ (LM κ τ (LC κ (x_added, x_asked, x_eR, x_et, x_oR, x_ot, x_bR, x_bD, x_bQ, x_bW, x_bS, x_bM, x_bT, x_bn, x_tg, x_tb, x_ts, x_fg, x_fb, x_fV, x_fS, x_fn, x_cg, x_cb, x_cB, x_cq, x_vHeld, x_vRed, x_vTal, x_vLis))) F (0 : Int64) (33 + v1.toNatClampNeg) (nw_oR (ixlt i12)) (x_oR v1.toNatClampNeg) (lk_oR (ixlt i12)) e14)) rfl rfl rfl (Nat.le_of_ble_eq_true rfl) dE_clear_14 ?_
      refine w_iinc (pc := 17) (q0 := 1) (v := (v1 + 1)) (lv' := [(1, .int (v1 + 1)), (0, .ref (κ.1 31))]) G dE_clear_17 rfl rfl (by decide) rfl ?_
      refine w_goto (pc := 20) (tgt := 2) G dE_clear_20 (by decide) ?_
      refine w_sub (lv' := [(0, .ref (κ.1 31)), (1, .int (v1 + 1))]) [1, 0] rfl ?_
      exact ih (v1 + 1) (va_up x_oR v1.toNatClampNeg r14) out h K
set_option maxHeartbeats 8000000 in
set_option maxRecDepth 100000 in
theorem met_O_clear (κ : ctx) (τ : MS) (F : Nat) {x_added : Nat → Nat → Int64} {x_asked : Nat → Int64} {x_eR : Nat → Nat → Int64} {x_et : Nat → Int64} {x_oR : Nat → Nat → Int64} {x_ot : Nat → Int64} {x_bR : Nat → Nat → Int64} {x_bD : Nat → Nat → Int64} {x_bQ : Nat → Int64} {x_bW : Nat → Int64} {x_bS : Nat → Nat → Int64} {x_bM : Nat → Nat → Int64} {x_bT : Nat → Int64} {x_bn : Int32} {x_tg : Nat → Int64} {x_tb : Int64} {x_ts : Nat → Int32} {x_fg : Nat → Int64} {x_fb : Int64} {x_fV : Nat → Nat → Int64} {x_fS : Nat → Int64} {x_fn : Int32} {x_cg : Nat → Int64} {x_cb : Int64} {x_cB : Nat → Int64} {x_cq : Int64} {x_vHeld : Int32} {x_vRed : Int32} {x_vTal : Int32} {x_vLis : Int32}  {out : (Nat → Nat → Int64)} (h : E_clear F  x_oR  = some out) : Mt yE_clear cE_clear 2 none rm_O_clear κ [.ref (κ.1 31)] (LM κ τ (LC κ (x_added, x_asked, x_eR, x_et, x_oR, x_ot, x_bR, x_bD, x_bQ, x_bW, x_bS, x_bM, x_bT, x_bn, x_tg, x_tb, x_ts, x_fg, x_fb, x_fV, x_fS, x_fn, x_cg, x_cb, x_cB, x_cq, x_vHeld, x_vRed, x_vTal, x_vLis))) none (LM κ τ (LC κ (x_added, x_asked, x_eR, x_et, out, x_ot, x_bR, x_bD, x_bQ, x_bW, x_bS, x_bM, x_bT, x_bn, x_tg, x_tb, x_ts, x_fg, x_fb, x_fV, x_fS, x_fn, x_cg, x_cb, x_cB, x_cq, x_vHeld, x_vRed, x_vTal, x_vLis))) := by
  refine Mt.of (by decide) (Nat.le_of_ble_eq_true rfl) ?_
  intro g G Fh
  unfold E_clear at h
  show J g κ 2 0 [(0, .ref (κ.1 31))] [] (LM κ τ (LC κ (x_added, x_asked, x_eR, x_et, x_oR, x_ot, x_bR, x_bD, x_bQ, x_bW, x_bS, x_bM, x_bT, x_bn, x_tg, x_tb, x_ts, x_fg, x_fb, x_fV, x_fS, x_fn, x_cg, x_cb, x_cB, x_cq, x_vHeld, x_vRed, x_vTal, x_vLis)))
  refine w_iconst (pc := 0) (v := (0 : Int32)) G dE_clear_0 (by decide) ?_
  refine w_istore_n (pc := 1) (lv' := [(1, .int (0 : Int32)), (0, .ref (κ.1 31))]) G dE_clear_1 rfl (by decide) rfl ?_
  refine w_sub (lv' := [(0, .ref (κ.1 31)), (1, .int (0 : Int32))]) [1, 0] rfl ?_
  obtain ⟨o2_7, eo2_7, h⟩ := bd h
  refine lO_clear_2_ok G τ F  F (0 : Int32) x_oR o2_7 eo2_7 ?_
  obtain rfl := Option.some.inj h
  exact w_vret (pc := 23) G dE_clear_23 Fh
def rm_O_isHeld : Room := { frames := 0, cells := 0, slots := 0, locals := 0 }
set_option maxHeartbeats 8000000 in
set_option maxRecDepth 100000 in
theorem met_O_isHeld (κ : ctx) (τ : MS) (F : Nat) {x_added : Nat → Nat → Int64} {x_asked : Nat → Int64} {x_eR : Nat → Nat → Int64} {x_et : Nat → Int64} {x_oR : Nat → Nat → Int64} {x_ot : Nat → Int64} {x_bR : Nat → Nat → Int64} {x_bD : Nat → Nat → Int64} {x_bQ : Nat → Int64} {x_bW : Nat → Int64} {x_bS : Nat → Nat → Int64} {x_bM : Nat → Nat → Int64} {x_bT : Nat → Int64} {x_bn : Int32} {x_tg : Nat → Int64} {x_tb : Int64} {x_ts : Nat → Int32} {x_fg : Nat → Int64} {x_fb : Int64} {x_fV : Nat → Nat → Int64} {x_fS : Nat → Int64} {x_fn : Int32} {x_cg : Nat → Int64} {x_cb : Int64} {x_cB : Nat → Int64} {x_cq : Int64} {x_vHeld : Int32} {x_vRed : Int32} {x_vTal : Int32} {x_vLis : Int32} (v1 : Int32) {out : Int32} (h : E_isHeld F  x_oR v1 = some out) : Mt yE_isHeld cE_isHeld 2 (some .boolean) rm_O_isHeld κ [.ref (κ.1 31), .int v1] (LM κ τ (LC κ (x_added, x_asked, x_eR, x_et, x_oR, x_ot, x_bR, x_bD, x_bQ, x_bW, x_bS, x_bM, x_bT, x_bn, x_tg, x_tb, x_ts, x_fg, x_fb, x_fV, x_fS, x_fn, x_cg, x_cb, x_cB, x_cq, x_vHeld, x_vRed, x_vTal, x_vLis))) (some (.int out)) (LM κ τ (LC κ (x_added, x_asked, x_eR, x_et, x_oR, x_ot, x_bR, x_bD, x_bQ, x_bW, x_bS, x_bM, x_bT, x_bn, x_tg, x_tb, x_ts, x_fg, x_fb, x_fV, x_fS, x_fn, x_cg, x_cb, x_cB, x_cq, x_vHeld, x_vRed, x_vTal, x_vLis))) := by
  refine Mt.of (by decide) (Nat.le_of_ble_eq_true rfl) ?_
  intro g G Fh
  unfold E_isHeld at h
  show J g κ 2 0 [(0, .ref (κ.1 31)), (1, .int v1)] [] (LM κ τ (LC κ (x_added, x_asked, x_eR, x_et, x_oR, x_ot, x_bR, x_bD, x_bQ, x_bW, x_bS, x_bM, x_bT, x_bn, x_tg, x_tb, x_ts, x_fg, x_fb, x_fV, x_fS, x_fn, x_cg, x_cb, x_cB, x_cq, x_vHeld, x_vRed, x_vTal, x_vLis)))
  refine w_aload_n (pc := 0) (q := 0) G dE_isHeld_0 rfl rfl ?_
  refine w_get (pc := 1) (v := .ref (κ.1 32)) (fs := fl_O κ (x_added, x_asked, x_eR, x_et, x_oR, x_ot, x_bR, x_bD, x_bQ, x_bW, x_bS, x_bM, x_bT, x_bn, x_tg, x_tb, x_ts, x_fg, x_fb, x_fV, x_fS, x_fn, x_cg, x_cb, x_cB, x_cq, x_vHeld, x_vRed, x_vTal, x_vLis)) G 31 (by decide) lb_O rfl wsE_ok 0 (by decide) wd29 gf_O_0 dE_isHeld_1 ?_
  refine w_iload_n (pc := 4) (q := 1) G dE_isHeld_4 rfl rfl ?_
  obtain ⟨i5, h⟩ := gd_some h
  refine w_aald (pc := 5) (n := 4) (f := og κ 33 4) (b := κ.1 (33 + v1.toNatClampNeg)) G 32 (by decide) lo_oR i5 (og_at (ixlt i5)) dE_isHeld_5 ?_
  refine w_iload_n (pc := 6) (q := 1) G dE_isHeld_6 rfl rfl ?_
  obtain ⟨i7, h⟩ := gd_some h
  refine w_lald (pc := 7) (n := 4) (f := (x_oR v1.toNatClampNeg)) G (33 + v1.toNatClampNeg) (nw_oR (ixlt i5)) (lk_oR (ixlt i5)) i7 dE_isHeld_7 ?_
  refine w_lconst (pc := 8) (v := (0 : Int64)) G dE_isHeld_8 (by decide) ?_
  refine w_lc_eq (pc := 9) (tgt := 17) G dE_isHeld_9 dE_isHeld_10 (by decide) (fun c9 => ?_) (fun c9 => ?_)
  · have h := if_t c9 h
    refine w_iconst (pc := 17) (v := (0 : Int32)) G dE_isHeld_17 (by decide) ?_
    obtain rfl := Option.some.inj h
    exact w_zret (pc := 18) G rfl dE_isHeld_18 Fh
  · have h := if_f c9 h
    refine w_iconst (pc := 13) (v := (1 : Int32)) G dE_isHeld_13 (by decide) ?_
    refine w_goto (pc := 14) (tgt := 18) G dE_isHeld_14 (by decide) ?_
    obtain rfl := Option.some.inj h
    exact w_zret (pc := 18) G rfl dE_isHeld_18 Fh
def rm_O_merge : Room := { frames := 1, cells := 0, slots := 0, locals := 24 }
theorem cb_V_addMultipleA_O_merge : CB yV_addMultiple cV_addMultiple 5 none rm_V_addMultipleA rm_O_merge 3 := ⟨wd187, wd1, by decide +kernel, rfl, rfl, by decide⟩
set_option maxHeartbeats 8000000 in
set_option maxRecDepth 100000 in
theorem lO_merge_34_ok {g : Gm} {κ : ctx} (G : OK g κ RE cE_merge 9 none rm_O_merge) (τ : MS) (F : Nat) {x_added : Nat → Nat → Int64} {x_asked : Nat → Int64} {x_eR : Nat → Nat → Int64} {x_et : Nat → Int64} {x_bR : Nat → Nat → Int64} {x_bD : Nat → Nat → Int64} {x_bQ : Nat → Int64} {x_bW : Nat → Int64} {x_bS : Nat → Nat → Int64} {x_bM : Nat → Nat → Int64} {x_bT : Nat → Int64} {x_bn : Int32} {x_tg : Nat → Int64} {x_tb : Int64} {x_ts : Nat → Int32} {x_fg : Nat → Int64} {x_fb : Int64} {x_fV : Nat → Nat → Int64} {x_fS : Nat → Int64} {x_fn : Int32} {x_cg : Nat → Int64} {x_cb : Int64} {x_cB : Nat → Int64} {x_cq : Int64} {x_vHeld : Int32} {x_vRed : Int32} {x_vTal : Int32} {x_vLis : Int32} (j1 : Nat) (p1 : j1 < 4) (v2 : Int32) (v3 : Int32) (v4 : Int64) : ∀ (n : Nat) (v6 : Int32) (x_oR : Nat → Nat → Int64) (x_ot : Nat → Int64) (out : (Nat → Nat → Int64) × (Nat → Int64)), lE_merge_34 F   j1 v2 v3 v4 n v6 x_oR x_ot = some out → (J g κ 9 83 [(0, .ref (κ.1 31)), (1, .ref (κ.1 (33 + j1))), (2, .int v2), (3, .int v3)] [] (LM κ τ (LC κ (x_added, x_asked, x_eR, x_et, out.1, out.2, x_bR, x_bD, x_bQ, x_bW, x_bS, x_bM, x_bT, x_bn, x_tg, x_tb, x_ts, x_fg, x_fb, x_fV, x_fS, x_fn, x_cg, x_cb, x_cB, x_cq, x_vHeld, x_vRed, x_vTal, x_vLis)))) → J g κ 9 34 [(0, .ref (κ.1 31)), (1, .ref (κ.1 (33 + j1))), (2, .int v2), (3, .int v3), (4, .long v4), (6, .int v6)] [] (LM κ τ (LC κ (x_added, x_asked, x_eR, x_et, x_oR, x_ot, x_bR, x_bD, x_bQ, x_bW, x_bS, x_bM, x_bT, x_bn, x_tg, x_tb, x_ts, x_fg, x_fb, x_fV, x_fS, x_fn, x_cg, x_cb, x_cB, x_cq, x_vHeld, x_vRed, x_vTal, x_vLis))) := by
  intro n
  induction n with
  | zero =>
    intro v6 x_oR x_ot
    intro out h
    rw [lE_merge_34] at h
    cases h
  | succ n ih =>
    intro v6 x_oR x_ot out h K
    rw [lE_merge_34] at h
    refine w_iload (pc := 34) (q := 5) G dE_merge_34 rfl ?_
    refine w_iconst (pc := 36) (v := (4 : Int32)) G dE_merge_36 (by decide) ?_
    refine w_icmp_ge (pc := 37) (tgt := 83) G dE_merge_37 (by decide) (fun c37 => ?_) (fun c37 => ?_)
    · have h := if_t c37 h
      obtain rfl := Option.some.inj h
      refine w_sub (lv' := [(0, .ref (κ.1 31)), (1, .ref (κ.1 (33 + j1))), (2, .int v2), (3, .int v3)]) [0, 1, 2, 3] rfl ?_
      exact K
    · have h := if_f c37 h
      refine w_aload_n (pc := 40) (q := 1) G dE_merge_40 rfl rfl ?_
      refine w_iload (pc := 41) (q := 5) G dE_merge_41 rfl ?_
      obtain ⟨i43, h⟩ := gd_some h
      refine w_lald (pc := 43) (n := 4) (f := (x_oR j1)) G (33 + j1) (nw_oR p1) (lk_oR p1) i43 dE_merge_43 ?_
      refine w_lload (pc := 44) (q := 4) G dE_merge_44 rfl ?_
      refine w_aload_n (pc := 46) (q := 0) G dE_merge_46 rfl rfl ?_
      refine w_get (pc := 47) (v := .ref (κ.1 37)) (fs := fl_O κ (x_added, x_asked, x_eR, x_et, x_oR, x_ot, x_bR, x_bD, x_bQ, x_bW, x_bS, x_bM, x_bT, x_bn, x_tg, x_tb, x_ts, x_fg, x_fb, x_fV, x_fS, x_fn, x_cg, x_cb, x_cB, x_cq, x_vHeld, x_vRed, x_vTal, x_vLis)) G 31 (by decide) lb_O rfl wsE_ok 1 (by decide) wd30 gf_O_1 dE_merge_47 ?_
      refine w_iload (pc := 50) (q := 5) G dE_merge_50 rfl ?_
      obtain ⟨i52, h⟩ := gd_some h
      refine w_lald (pc := 52) (n := 4) (f := x_ot) G 37 (by decide) lk_ot i52 dE_merge_52 ?_
      refine w_lmul (pc := 53) G dE_merge_53 ?_
      refine w_lsub (pc := 54) G dE_merge_54 ?_
      refine w_lstore (pc := 55) (lv' := [(7, .long (((x_oR j1) v6.toNatClampNeg) - (v4 * (x_ot v6.toNatClampNeg)))), (0, .ref (κ.1 31)), (1, .ref (κ.1 (33 + j1))), (2, .int v2), (3, .int v3), (4, .long v4), (6, .int v6)]) G dE_merge_55 (by decide) rfl ?_
      refine w_aload_n (pc := 57) (q := 2) G dE_merge_57 rfl rfl ?_
      refine w_iload (pc := 58) (q := 6) G dE_merge_58 rfl ?_
      refine w_aload_n (pc := 60) (q := 1) G dE_merge_60 rfl rfl ?_
      refine w_get (pc := 61) (v := .ref (κ.1 37)) (fs := fl_O κ (x_added, x_asked, x_eR, x_et, x_oR, x_ot, x_bR, x_bD, x_bQ, x_bW, x_bS, x_bM, x_bT, x_bn, x_tg, x_tb, x_ts, x_fg, x_fb, x_fV, x_fS, x_fn, x_cg, x_cb, x_cB, x_cq, x_vHeld, x_vRed, x_vTal, x_vLis)) G 31 (by decide) lb_O rfl wsE_ok 1 (by decide) wd30 gf_O_1 dE_merge_61 ?_
      refine w_iload (pc := 64) (q := 6) G dE_merge_64 rfl ?_
      obtain ⟨i66, h⟩ := gd_some h
      refine w_lald (pc := 66) (n := 4) (f := x_ot) G 37 (by decide) lk_ot i66 dE_merge_66 ?_
      obtain ⟨i67, h⟩ := gd_some h
      refine w_last (pc := 67) (n := 4) (f := (x_oR j1)) (L1 := (LM κ τ (LC κ (x_added, x_asked, x_eR, x_et, va_up x_oR j1 (vp_updL (x_oR j1) v6.toNatClampNeg (x_ot v6.toNatClampNeg)), x_ot, x_bR, x_bD, x_bQ, x_bW, x_bS, x_bM, x_bT, x_bn, x_tg, x_tb, x_ts, x_fg, x_fb, x_fV, x_fS, x_fn, x_cg, x_cb, x_cB, x_cq, x_vHeld, x_vRed, x_vTal, x_vLis)))) G (33 + j1) (nw_oR p1) (lk_oR p1) i67 dE_merge_67 (up_oR p1) ?_
      refine w_aload_n (pc := 68) (q := 1) G dE_merge_68 rfl rfl ?_
      refine w_get (pc := 69) (v := .ref (κ.1 37)) (fs := fl_O κ (x_added, x_asked, x_eR, x_et, va_up x_oR j1 (vp_updL (x_oR j1) v6.toNatClampNeg (x_ot v6.toNatClampNeg)), x_ot, x_bR, x_bD, x_bQ, x_bW, x_bS, x_bM, x_bT, x_bn, x_tg, x_tb, x_ts, x_fg, x_fb, x_fV, x_fS, x_fn, x_cg, x_cb, x_cB, x_cq, x_vHeld, x_vRed, x_vTal, x_vLis)) G 31 (by decide) lb_O rfl wsE_ok 1 (by decide) wd30 gf_O_1 dE_merge_69 ?_
      refine w_iload (pc := 72) (q := 6) G dE_merge_72 rfl ?_
      refine w_lload (pc := 74) (q := 0) G dE_merge_74 rfl ?_
      obtain ⟨i76, h⟩ := gd_some h
      refine w_last (pc := 76) (n := 4) (f := x_ot) (L1 := (LM κ τ (LC κ (x_added, x_asked, x_eR, x_et, va_up x_oR j1 (vp_updL (x_oR j1) v6.toNatClampNeg (x_ot v6.toNatClampNeg)), vp_updL x_ot v6.toNatClampNeg (((x_oR j1) v6.toNatClampNeg) - (v4 * (x_ot v6.toNatClampNeg))), x_bR, x_bD, x_bQ, x_bW, x_bS, x_bM, x_bT, x_bn, x_tg, x_tb, x_ts, x_fg, x_fb, x_fV, x_fS, x_fn, x_cg, x_cb, x_cB, x_cq, x_vHeld, x_vRed, x_vTal, x_vLis)))) G 37 (by decide) lk_ot i76 dE_merge_76 up_ot ?_
      refine w_iinc (pc := 77) (q0 := 6) (v := (v6 + 1)) (lv' := [(6, .int (v6 + 1)), (7, .long (((x_oR j1) v6.toNatClampNeg) - (v4 * (x_ot v6.toNatClampNeg)))), (0, .ref (κ.1 31)), (1, .ref (κ.1 (33 + j1))), (2, .int v2), (3, .int v3), (4, .long v4)]) G dE_merge_77 rfl rfl (by decide) rfl ?_
      refine w_goto (pc := 80) (tgt := 34) G dE_merge_80 (by decide) ?_
      refine w_sub (lv' := [(0, .ref (κ.1 31)), (1, .ref (κ.1 (33 + j1))), (2, .int v2), (3, .int v3), (4, .long v4), (6, .int (v6 + 1))]) [2, 3, 4, 5, 6, 0] rfl ?_
      exact ih (v6 + 1) (va_up x_oR j1 (vp_updL (x_oR j1) v6.toNatClampNeg (x_ot v6.toNatClampNeg))) (vp_updL x_ot v6.toNatClampNeg (((x_oR j1) v6.toNatClampNeg) - (v4 * (x_ot v6.toNatClampNeg)))) out h K
set_option maxHeartbeats 8000000 in
set_option maxRecDepth 100000 in
theorem lO_merge_2_ok {g : Gm} {κ : ctx} (G : OK g κ RE cE_merge 9 none rm_O_merge) (τ : MS) (F : Nat) {x_added : Nat → Nat → Int64} {x_asked : Nat → Int64} {x_eR : Nat → Nat → Int64} {x_et : Nat → Int64} {x_bR : Nat → Nat → Int64} {x_bD : Nat → Nat → Int64} {x_bQ : Nat → Int64} {x_bW : Nat → Int64} {x_bS : Nat → Nat → Int64} {x_bM : Nat → Nat → Int64} {x_bT : Nat → Int64} {x_bn : Int32} {x_tg : Nat → Int64} {x_tb : Int64} {x_ts : Nat → Int32} {x_fg : Nat → Int64} {x_fb : Int64} {x_fV : Nat → Nat → Int64} {x_fS : Nat → Int64} {x_fn : Int32} {x_cg : Nat → Int64} {x_cb : Int64} {x_cB : Nat → Int64} {x_cq : Int64} {x_vHeld : Int32} {x_vRed : Int32} {x_vTal : Int32} {x_vLis : Int32} (j1 : Nat) (p1 : j1 < 4) (v2 : Int32) : ∀ (n : Nat) (v3 : Int32) (x_oR : Nat → Nat → Int64) (x_ot : Nat → Int64) (out : (Nat → Nat → Int64) × (Nat → Int64)), lE_merge_2 F   j1 v2 n v3 x_oR x_ot = some out → (J g κ 9 89 [(1, .ref (κ.1 (33 + j1))), (2, .int v2)] [] (LM κ τ (LC κ (x_added, x_asked, x_eR, x_et, out.1, out.2, x_bR, x_bD, x_bQ, x_bW, x_bS, x_bM, x_bT, x_bn, x_tg, x_tb, x_ts, x_fg, x_fb, x_fV, x_fS, x_fn, x_cg, x_cb, x_cB, x_cq, x_vHeld, x_vRed, x_vTal, x_vLis)))) → J g κ 9 2 [(0, .ref (κ.1 31)), (1, .ref (κ.1 (33 + j1))), (2, .int v2), (3, .int v3)] [] (LM κ τ (LC κ (x_added, x_asked, x_eR, x_et, x_oR, x_ot, x_bR, x_bD, x_bQ, x_bW, x_bS, x_bM, x_bT, x_bn, x_tg, x_tb, x_ts, x_fg, x_fb, x_fV, x_fS, x_fn, x_cg, x_cb, x_cB, x_cq, x_vHeld, x_vRed, x_vTal, x_vLis))) := by
  intro n
  induction n with
  | zero =>
    intro v3 x_oR x_ot
    intro out h
    rw [lE_merge_2] at h
    cases h
  | succ n ih =>
    intro v3 x_oR x_ot out h K
    rw [lE_merge_2] at h
    refine w_iload_n (pc := 2) (q := 3) G dE_merge_2 rfl rfl ?_
    refine w_ldc (pc := 3) (v := (1000000 : Int32)) G wd183 dE_merge_3 ?_
    refine w_icmp_ge (pc := 5) (tgt := 89) G dE_merge_5 (by decide) (fun c5 => ?_) (fun c5 => ?_)
    · have h := if_t c5 h
      obtain rfl := Option.some.inj h
      refine w_sub (lv' := [(1, .ref (κ.1 (33 + j1))), (2, .int v2)]) [1, 2] rfl ?_
      exact K
    · have h := if_f c5 h
      refine w_aload_n (pc := 8) (q := 0) G dE_merge_8 rfl rfl ?_
      refine w_get (pc := 9) (v := .ref (κ.1 37)) (fs := fl_O κ (x_added, x_asked, x_eR, x_et, x_oR, x_ot, x_bR, x_bD, x_bQ, x_bW, x_bS, x_bM, x_bT, x_bn, x_tg, x_tb, x_ts, x_fg, x_fb, x_fV, x_fS, x_fn, x_cg, x_cb, x_cB, x_cq, x_vHeld, x_vRed, x_vTal, x_vLis)) G 31 (by decide) lb_O rfl wsE_ok 1 (by decide) wd30 gf_O_1 dE_merge_9 ?_
      refine w_iload_n (pc := 12) (q := 2) G dE_merge_12 rfl rfl ?_
      obtain ⟨i13, h⟩ := gd_some h
      refine w_lald (pc := 13) (n := 4) (f := x_ot) G 37 (by decide) lk_ot i13 dE_merge_13 ?_
      refine w_lconst (pc := 14) (v := (0 : Int64)) G dE_merge_14 (by decide) ?_
      refine w_lc_eq (pc := 15) (tgt := 89) G dE_merge_15 dE_merge_16 (by decide) (fun c15 => ?_) (fun c15 => ?_)
      · have h := if_t c15 h
        obtain rfl := Option.some.inj h
        refine w_sub (lv' := [(1, .ref (κ.1 (33 + j1))), (2, .int v2)]) [1, 2] rfl ?_
        exact K
      · have h := if_f c15 h
        refine w_aload_n (pc := 19) (q := 1) G dE_merge_19 rfl rfl ?_
        refine w_iload_n (pc := 20) (q := 2) G dE_merge_20 rfl rfl ?_
        obtain ⟨i21, h⟩ := gd_some h
        refine w_lald (pc := 21) (n := 4) (f := (x_oR j1)) G (33 + j1) (nw_oR p1) (lk_oR p1) i21 dE_merge_21 ?_
        refine w_aload_n (pc := 22) (q := 0) G dE_merge_22 rfl rfl ?_
        refine w_get (pc := 23) (v := .ref (κ.1 37)) (fs := fl_O κ (x_added, x_asked, x_eR, x_et, x_oR, x_ot, x_bR, x_bD, x_bQ, x_bW, x_bS, x_bM, x_bT, x_bn, x_tg, x_tb, x_ts, x_fg, x_fb, x_fV, x_fS, x_fn, x_cg, x_cb, x_cB, x_cq, x_vHeld, x_vRed, x_vTal, x_vLis)) G 31 (by decide) lb_O rfl wsE_ok 1 (by decide) wd30 gf_O_1 dE_merge_23 ?_
        refine w_iload_n (pc := 26) (q := 2) G dE_merge_26 rfl rfl ?_
        obtain ⟨i27, h⟩ := gd_some h
        refine w_lald (pc := 27) (n := 4) (f := x_ot) G 37 (by decide) lk_ot i27 dE_merge_27 ?_
        obtain ⟨z28, h⟩ := gd_some h
        refine w_ldiv (pc := 28) G dE_merge_28 z28 ?_
        refine w_lstore (pc := 29) (lv' := [(4, .long (((x_oR j1) v2.toNatClampNeg) / (x_ot v2.toNatClampNeg))), (0, .ref (κ.1 31)), (1, .ref (κ.1 (33 + j1))), (2, .int v2), (3, .int v3)]) G dE_merge_29 (by decide) rfl ?_
        refine w_iload_n (pc := 31) (q := 3) G dE_merge_31 rfl rfl ?_
        refine w_istore (pc := 32) (lv' := [(6, .int v2), (4, .long (((x_oR j1) v2.toNatClampNeg) / (x_ot v2.toNatClampNeg))), (0, .ref (κ.1 31)), (1, .ref (κ.1 (33 + j1))), (2, .int v2), (3, .int v3)]) G dE_merge_32 (by decide) rfl ?_
        refine w_sub (lv' := [(0, .ref (κ.1 31)), (1, .ref (κ.1 (33 + j1))), (2, .int v2), (3, .int v3), (4, .long (((x_oR j1) v2.toNatClampNeg) / (x_ot v2.toNatClampNeg))), (6, .int v2)]) [2, 3, 4, 5, 1, 0] rfl ?_
        obtain ⟨o34_20, eo34_20, h⟩ := bd h
        refine lO_merge_34_ok G τ F   j1 p1 v2 v3 (((x_oR j1) v2.toNatClampNeg) / (x_ot v2.toNatClampNeg)) F v2 x_oR x_ot o34_20 eo34_20 ?_
        refine w_iinc (pc := 83) (q0 := 3) (v := (v3 + 1)) (lv' := [(3, .int (v3 + 1)), (0, .ref (κ.1 31)), (1, .ref (κ.1 (33 + j1))), (2, .int v2)]) G dE_merge_83 rfl rfl (by decide) rfl ?_
        refine w_goto (pc := 86) (tgt := 2) G dE_merge_86 (by decide) ?_
        refine w_sub (lv' := [(0, .ref (κ.1 31)), (1, .ref (κ.1 (33 + j1))), (2, .int v2), (3, .int (v3 + 1))]) [1, 2, 3, 0] rfl ?_
        exact ih (v3 + 1) o34_20.1 o34_20.2 out h K
set_option maxHeartbeats 8000000 in
set_option maxRecDepth 100000 in
theorem met_O_merge (κ : ctx) (τ : MS) (F : Nat) {x_added : Nat → Nat → Int64} {x_asked : Nat → Int64} {x_eR : Nat → Nat → Int64} {x_et : Nat → Int64} {x_oR : Nat → Nat → Int64} {x_ot : Nat → Int64} {x_bR : Nat → Nat → Int64} {x_bD : Nat → Nat → Int64} {x_bQ : Nat → Int64} {x_bW : Nat → Int64} {x_bS : Nat → Nat → Int64} {x_bM : Nat → Nat → Int64} {x_bT : Nat → Int64} {x_bn : Int32} {x_tg : Nat → Int64} {x_tb : Int64} {x_ts : Nat → Int32} {x_fg : Nat → Int64} {x_fb : Int64} {x_fV : Nat → Nat → Int64} {x_fS : Nat → Int64} {x_fn : Int32} {x_cg : Nat → Int64} {x_cb : Int64} {x_cB : Nat → Int64} {x_cq : Int64} {x_vHeld : Int32} {x_vRed : Int32} {x_vTal : Int32} {x_vLis : Int32} (v2 : Int32) (hrow : v2.toNatClampNeg < 4) {out : (Nat → Nat → Int64) × (Nat → Int64)} (h : E_merge F  x_oR x_ot v2 = some out) : Mt yE_merge cE_merge 9 none rm_O_merge κ [.ref (κ.1 31), .ref (κ.1 (33 + v2.toNatClampNeg)), .int v2] (LM κ τ (LC κ (x_added, x_asked, x_eR, x_et, x_oR, x_ot, x_bR, x_bD, x_bQ, x_bW, x_bS, x_bM, x_bT, x_bn, x_tg, x_tb, x_ts, x_fg, x_fb, x_fV, x_fS, x_fn, x_cg, x_cb, x_cB, x_cq, x_vHeld, x_vRed, x_vTal, x_vLis))) none (LM κ τ (LC κ (x_added, x_asked, x_eR, x_et, out.1, out.2, x_bR, x_bD, x_bQ, x_bW, x_bS, x_bM, x_bT, x_bn, x_tg, x_tb, x_ts, x_fg, x_fb, x_fV, x_fS, x_fn, x_cg, x_cb, x_cB, x_cq, x_vHeld, x_vRed, x_vTal, x_vLis))) := by
  refine Mt.of (by decide) (Nat.le_of_ble_eq_true rfl) ?_
  intro g G Fh
  unfold E_merge at h
  show J g κ 9 0 [(0, .ref (κ.1 31)), (1, .ref (κ.1 (33 + v2.toNatClampNeg))), (2, .int v2)] [] (LM κ τ (LC κ (x_added, x_asked, x_eR, x_et, x_oR, x_ot, x_bR, x_bD, x_bQ, x_bW, x_bS, x_bM, x_bT, x_bn, x_tg, x_tb, x_ts, x_fg, x_fb, x_fV, x_fS, x_fn, x_cg, x_cb, x_cB, x_cq, x_vHeld, x_vRed, x_vTal, x_vLis)))
  refine w_iconst (pc := 0) (v := (0 : Int32)) G dE_merge_0 (by decide) ?_
  refine w_istore_n (pc := 1) (lv' := [(3, .int (0 : Int32)), (0, .ref (κ.1 31)), (1, .ref (κ.1 (33 + v2.toNatClampNeg))), (2, .int v2)]) G dE_merge_1 rfl (by decide) rfl ?_
  refine w_sub (lv' := [(0, .ref (κ.1 31)), (1, .ref (κ.1 (33 + v2.toNatClampNeg))), (2, .int v2), (3, .int (0 : Int32))]) [1, 2, 3, 0] rfl ?_
  obtain ⟨o2_20, eo2_20, h⟩ := bd h
  refine lO_merge_2_ok G τ F   v2.toNatClampNeg hrow v2 F (0 : Int32) x_oR x_ot o2_20 eo2_20 ?_
  refine w_aload_n (pc := 89) (q := 0) G dE_merge_89 rfl rfl ?_
  refine w_iload_n (pc := 90) (q := 1) G dE_merge_90 rfl rfl ?_
  obtain ⟨i91, h⟩ := gd_some h
  refine w_lald (pc := 91) (n := 4) (f := (o2_20.1 v2.toNatClampNeg)) G (33 + v2.toNatClampNeg) (nw_oR hrow) (lk_oR hrow) i91 dE_merge_91 ?_
  refine w_lconst (pc := 92) (v := (0 : Int64)) G dE_merge_92 (by decide) ?_
  refine w_lc_ge (pc := 93) (tgt := 105) G dE_merge_93 dE_merge_94 (by decide) (fun c93 => ?_) (fun c93 => ?_)
  · have h := if_t c93 h
    obtain rfl := Option.some.inj h
    exact w_vret (pc := 105) G dE_merge_105 Fh
  · have h := if_f c93 h
    refine w_aload_n (pc := 97) (q := 0) G dE_merge_97 rfl rfl ?_
    refine w_aload_n (pc := 98) (q := 0) G dE_merge_98 rfl rfl ?_
    refine w_ldc2 (pc := 99) (v := (-2 : Int64)) G wd184 dE_merge_99 ?_
    obtain ⟨r102, e102, h⟩ := bd h
    refine w_callSN (pc := 102) (av := [.ref (κ.1 (33 + v2.toNatClampNeg)), .ref (κ.1 (33 + v2.toNatClampNeg)), .long (-2 : Int64)]) (rest := []) (v := none) (L' := (LM κ τ (LC κ (x_added, x_asked, x_eR, x_et, va_up o2_20.1 v2.toNatClampNeg r102, o2_20.2, x_bR, x_bD, x_bQ, x_bW, x_bS, x_bM, x_bT, x_bn, x_tg, x_tb, x_ts, x_fg, x_fb, x_fV, x_fS, x_fn, x_cg, x_cb, x_cB, x_cq, x_vHeld, x_vRed, x_vTal, x_vLis)))) G cb_V_addMultipleA_O_merge wd186 wd185 (Mt.eqw (up_oR hrow) (met_V_addMultipleA κ (LM κ τ (LC κ (x_added, x_asked, x_eR, x_et, o2_20.1, o2_20.2, x_bR, x_bD, x_bQ, x_bW, x_bS, x_bM, x_bT, x_bn, x_tg, x_tb, x_ts, x_fg, x_fb, x_fV, x_fS, x_fn, x_cg, x_cb, x_cB, x_cq, x_vHeld, x_vRed, x_vTal, x_vLis))) F (-2 : Int64) (33 + v2.toNatClampNeg) (nw_oR hrow) (o2_20.1 v2.toNatClampNeg) (lk_oR hrow) e102)) rfl rfl rfl (Nat.le_of_ble_eq_true rfl) dE_merge_102 ?_
    obtain rfl := Option.some.inj h
    exact w_vret (pc := 105) G dE_merge_105 Fh
def rm_O_shorten : Room := { frames := 1, cells := 0, slots := 0, locals := 25 }
theorem cb_V_addMultiple_O_shorten : CB yV_addMultiple cV_addMultiple 5 none rm_V_addMultiple rm_O_shorten 3 := ⟨wd187, wd1, by decide +kernel, rfl, rfl, by decide⟩
theorem cb_O_isHeld_O_shorten : CB yE_isHeld cE_isHeld 2 (some .boolean) rm_O_isHeld rm_O_shorten 1 := ⟨wd195, wd2, by decide +kernel, rfl, rfl, by decide⟩
theorem cb_JM_floorDiv_O_shorten : CB yJM_floorDiv cJM_floorDiv 6 (some .long) rm_JM_floorDiv rm_O_shorten 2 := ⟨wd198, wd10, by decide +kernel, rfl, rfl, by decide⟩
set_option maxHeartbeats 8000000 in
set_option maxRecDepth 100000 in
theorem lO_shorten_4_ok {g : Gm} {κ : ctx} (G : OK g κ RE cE_shorten 3 none rm_O_shorten) (τ : MS) (F : Nat) {x_added : Nat → Nat → Int64} {x_asked : Nat → Int64} {x_eR : Nat → Nat → Int64} {x_et : Nat → Int64} {x_ot : Nat → Int64} {x_bR : Nat → Nat → Int64} {x_bD : Nat → Nat → Int64} {x_bQ : Nat → Int64} {x_bW : Nat → Int64} {x_bS : Nat → Nat → Int64} {x_bM : Nat → Nat → Int64} {x_bT : Nat → Int64} {x_bn : Int32} {x_tg : Nat → Int64} {x_tb : Int64} {x_ts : Nat → Int32} {x_fg : Nat → Int64} {x_fb : Int64} {x_fV : Nat → Nat → Int64} {x_fS : Nat → Int64} {x_fn : Int32} {x_cg : Nat → Int64} {x_cb : Int64} {x_cB : Nat → Int64} {x_cq : Int64} {x_vHeld : Int32} {x_vRed : Int32} {x_vTal : Int32} {x_vLis : Int32} (v1 : Int32) : ∀ (n : Nat) (v2 : Int32) (x_oR : Nat → Nat → Int64) (out : (Nat → Nat → Int64)), lE_shorten_4 F   v1 n v2 x_oR = some out → (J g κ 3 58 [] [] (LM κ τ (LC κ (x_added, x_asked, x_eR, x_et, out, x_ot, x_bR, x_bD, x_bQ, x_bW, x_bS, x_bM, x_bT, x_bn, x_tg, x_tb, x_ts, x_fg, x_fb, x_fV, x_fS, x_fn, x_cg, x_cb, x_cB, x_cq, x_vHeld, x_vRed, x_vTal, x_vLis)))) → J g κ 3 4 [(0, .ref (κ.1 31)), (1, .int v1), (2, .int v2)] [] (LM κ τ (LC κ (x_added, x_asked, x_eR, x_et, x_oR, x_ot, x_bR, x_bD, x_bQ, x_bW, x_bS, x_bM, x_bT, x_bn, x_tg, x_tb, x_ts, x_fg, x_fb, x_fV, x_fS, x_fn, x_cg, x_cb, x_cB, x_cq, x_vHeld, x_vRed, x_vTal, x_vLis))) := by
  intro n
  induction n with
  | zero =>
    intro v2 x_oR
    intro out h
    rw [lE_shorten_4] at h
    cases h
  | succ n ih =>
    intro v2 x_oR out h K
    rw [lE_shorten_4] at h
    refine w_iload_n (pc := 4) (q := 2) G dE_shorten_4 rfl rfl ?_
    refine w_iconst (pc := 5) (v := (4 : Int32)) G dE_shorten_5 (by decide) ?_
    refine w_icmp_ge (pc := 6) (tgt := 58) G dE_shorten_6 (by decide) (fun c6 => ?_) (fun c6 => ?_)
    · have h := if_t c6 h
      obtain rfl := Option.some.inj h
      refine w_sub (lv' := []) [] rfl ?_
      exact K
    · have h := if_f c6 h
      refine w_aload_n (pc := 9) (q := 0) G dE_shorten_9 rfl rfl ?_
      refine w_iload_n (pc := 10) (q := 2) G dE_shorten_10 rfl rfl ?_
      obtain ⟨r11, e11, h⟩ := bd h
      refine w_callV (pc := 11) (av := [.int v2]) (rest := []) (v := some (.int r11)) (L' := (LM κ τ (LC κ (x_added, x_asked, x_eR, x_et, x_oR, x_ot, x_bR, x_bD, x_bQ, x_bW, x_bS, x_bM, x_bT, x_bn, x_tg, x_tb, x_ts, x_fg, x_fb, x_fV, x_fS, x_fn, x_cg, x_cb, x_cB, x_cq, x_vHeld, x_vRed, x_vTal, x_vLis)))) (T := TE) (fs := fl_O κ (x_added, x_asked, x_eR, x_et, x_oR, x_ot, x_bR, x_bD, x_bQ, x_bW, x_bS, x_bM, x_bT, x_bn, x_tg, x_tb, x_ts, x_fg, x_fb, x_fV, x_fS, x_fn, x_cg, x_cb, x_cB, x_cq, x_vHeld, x_vRed, x_vTal, x_vLis)) G 31 2 2 (by decide) lb_O rfl cb_O_isHeld_O_shorten wd193 wd194 wd192 (met_O_isHeld κ τ F v2  e11) rfl rfl rfl (Nat.le_of_ble_eq_true rfl) dE_shorten_11 ?_
      refine w_if_eq (pc := 14) (tgt := 52) G dE_shorten_14 (by decide) (fun c14 => ?_) (fun c14 => ?_)
      · have h := if_t c14 h
        refine w_iinc (pc := 52) (q0 := 2) (v := (v2 + 1)) (lv' := [(2, .int (v2 + 1)), (0, .ref (κ.1 31)), (1, .int v1)]) G dE_shorten_52 rfl rfl (by decide) rfl ?_
        refine w_goto (pc := 55) (tgt := 4) G dE_shorten_55 (by decide) ?_
        refine w_sub (lv' := [(0, .ref (κ.1 31)), (1, .int v1), (2, .int (v2 + 1))]) [1, 2, 0] rfl ?_
        exact ih (v2 + 1) x_oR out h K
      · have h := if_f c14 h
        refine w_aload_n (pc := 17) (q := 0) G dE_shorten_17 rfl rfl ?_
        refine w_get (pc := 18) (v := .ref (κ.1 32)) (fs := fl_O κ (x_added, x_asked, x_eR, x_et, x_oR, x_ot, x_bR, x_bD, x_bQ, x_bW, x_bS, x_bM, x_bT, x_bn, x_tg, x_tb, x_ts, x_fg, x_fb, x_fV, x_fS, x_fn, x_cg, x_cb, x_cB, x_cq, x_vHeld, x_vRed, x_vTal, x_vLis)) G 31 (by decide) lb_O rfl wsE_ok 0 (by decide) wd29 gf_O_0 dE_shorten_18 ?_
        refine w_iload_n (pc := 21) (q := 1) G dE_shorten_21 rfl rfl ?_
        obtain ⟨i22, h⟩ := gd_some h
        refine w_aald (pc := 22) (n := 4) (f := og κ 33 4) (b := κ.1 (33 + v1.toNatClampNeg)) G 32 (by decide) lo_oR i22 (og_at (ixlt i22)) dE_shorten_22 ?_
        refine w_aload_n (pc := 23) (q := 0) G dE_shorten_23 rfl rfl ?_
        refine w_get (pc := 24) (v := .ref (κ.1 32)) (fs := fl_O κ (x_added, x_asked, x_eR, x_et, x_oR, x_ot, x_bR, x_bD, x_bQ, x_bW, x_bS, x_bM, x_bT, x_bn, x_tg, x_tb, x_ts, x_fg, x_fb, x_fV, x_fS, x_fn, x_cg, x_cb, x_cB, x_cq, x_vHeld, x_vRed, x_vTal, x_vLis)) G 31 (by decide) lb_O rfl wsE_ok 0 (by decide) wd29 gf_O_0 dE_shorten_24 ?_
        refine w_iload_n (pc := 27) (q := 2) G dE_shorten_27 rfl rfl ?_
        obtain ⟨i28, h⟩ := gd_some h
        refine w_aald (pc := 28) (n := 4) (f := og κ 33 4) (b := κ.1 (33 + v2.toNatClampNeg)) G 32 (by decide) lo_oR i28 (og_at (ixlt i28)) dE_shorten_28 ?_
        refine w_aload_n (pc := 29) (q := 0) G dE_shorten_29 rfl rfl ?_
        refine w_get (pc := 30) (v := .ref (κ.1 32)) (fs := fl_O κ (x_added, x_asked, x_eR, x_et, x_oR, x_ot, x_bR, x_bD, x_bQ, x_bW, x_bS, x_bM, x_bT, x_bn, x_tg, x_tb, x_ts, x_fg, x_fb, x_fV, x_fS, x_fn, x_cg, x_cb, x_cB, x_cq, x_vHeld, x_vRed, x_vTal, x_vLis)) G 31 (by decide) lb_O rfl wsE_ok 0 (by decide) wd29 gf_O_0 dE_shorten_30 ?_
        refine w_iload_n (pc := 33) (q := 1) G dE_shorten_33 rfl rfl ?_
        obtain ⟨i34, h⟩ := gd_some h
        refine w_aald (pc := 34) (n := 4) (f := og κ 33 4) (b := κ.1 (33 + v1.toNatClampNeg)) G 32 (by decide) lo_oR i34 (og_at (ixlt i34)) dE_shorten_34 ?_
        refine w_iload_n (pc := 35) (q := 2) G dE_shorten_35 rfl rfl ?_
        obtain ⟨i36, h⟩ := gd_some h
        refine w_lald (pc := 36) (n := 4) (f := (x_oR v1.toNatClampNeg)) G (33 + v1.toNatClampNeg) (nw_oR (ixlt i34)) (lk_oR (ixlt i34)) i36 dE_shorten_36 ?_
        refine w_aload_n (pc := 37) (q := 0) G dE_shorten_37 rfl rfl ?_
        refine w_get (pc := 38) (v := .ref (κ.1 32)) (fs := fl_O κ (x_added, x_asked, x_eR, x_et, x_oR, x_ot, x_bR, x_bD, x_bQ, x_bW, x_bS, x_bM, x_bT, x_bn, x_tg, x_tb, x_ts, x_fg, x_fb, x_fV, x_fS, x_fn, x_cg, x_cb, x_cB, x_cq, x_vHeld, x_vRed, x_vTal, x_vLis)) G 31 (by decide) lb_O rfl wsE_ok 0 (by decide) wd29 gf_O_0 dE_shorten_38 ?_
        refine w_iload_n (pc := 41) (q := 2) G dE_shorten_41 rfl rfl ?_
        obtain ⟨i42, h⟩ := gd_some h
        refine w_aald (pc := 42) (n := 4) (f := og κ 33 4) (b := κ.1 (33 + v2.toNatClampNeg)) G 32 (by decide) lo_oR i42 (og_at (ixlt i42)) dE_shorten_42 ?_
        refine w_iload_n (pc := 43) (q := 2) G dE_shorten_43 rfl rfl ?_
        obtain ⟨i44, h⟩ := gd_some h
        refine w_lald (pc := 44) (n := 4) (f := (x_oR v2.toNatClampNeg)) G (33 + v2.toNatClampNeg) (nw_oR (ixlt i42)) (lk_oR (ixlt i42)) i44 dE_shorten_44 ?_
        obtain ⟨r45, e45, h⟩ := bd h
        refine w_callS (pc := 45) (av := [.long ((x_oR v1.toNatClampNeg) v2.toNatClampNeg), .long ((x_oR v2.toNatClampNeg) v2.toNatClampNeg)]) (rest := [.ref (κ.1 (33 + v2.toNatClampNeg)), .ref (κ.1 (33 + v1.toNatClampNeg))]) (v := some (.long r45)) (L' := (LM κ τ (LC κ (x_added, x_asked, x_eR, x_et, x_oR, x_ot, x_bR, x_bD, x_bQ, x_bW, x_bS, x_bM, x_bT, x_bn, x_tg, x_tb, x_ts, x_fg, x_fb, x_fV, x_fS, x_fn, x_cg, x_cb, x_cB, x_cq, x_vHeld, x_vRed, x_vTal, x_vLis)))) G cb_JM_floorDiv_O_shorten wd197 wd196 (met_JM_floorDiv κ (LM κ τ (LC κ (x_added, x_asked, x_eR, x_et, x_oR, x_ot, x_bR, x_bD, x_bQ, x_bW, x_bS, x_bM, x_bT, x_bn, x_tg, x_tb, x_ts, x_fg, x_fb, x_fV, x_fS, x_fn, x_cg, x_cb, x_cB, x_cq, x_vHeld, x_vRed, x_vTal, x_vLis))) F ((x_oR v1.toNatClampNeg) v2.toNatClampNeg) ((x_oR v2.toNatClampNeg) v2.toNatClampNeg)  e45) rfl rfl rfl (Nat.le_of_ble_eq_true rfl) dE_shorten_45 ?_
        refine w_lneg (pc := 48) G dE_shorten_48 ?_
        obtain ⟨ne49, h⟩ := gd_some h
        obtain ⟨r49, e49, h⟩ := bd h
        refine w_callSN (pc := 49) (av := [.ref (κ.1 (33 + v1.toNatClampNeg)), .ref (κ.1 (33 + v2.toNatClampNeg)), .long (-r45)]) (rest := []) (v := none) (L' := (LM κ τ (LC κ (x_added, x_asked, x_eR, x_et, va_up x_oR v1.toNatClampNeg r49, x_ot, x_bR, x_bD, x_bQ, x_bW, x_bS, x_bM, x_bT, x_bn, x_tg, x_tb, x_ts, x_fg, x_fb, x_fV, x_fS, x_fn, x_cg, x_cb, x_cB, x_cq, x_vHeld, x_vRed, x_vTal, x_vLis)))) G cb_V_addMultiple_O_shorten wd186 wd185 (Mt.eqw (up_oR (ixlt i22)) (met_V_addMultiple κ (LM κ τ (LC κ (x_added, x_asked, x_eR, x_et, x_oR, x_ot, x_bR, x_bD, x_bQ, x_bW, x_bS, x_bM, x_bT, x_bn, x_tg, x_tb, x_ts, x_fg, x_fb, x_fV, x_fS, x_fn, x_cg, x_cb, x_cB, x_cq, x_vHeld, x_vRed, x_vTal, x_vLis))) F (-r45) (33 + v1.toNatClampNeg) (nw_oR (ixlt i22)) (x_oR v1.toNatClampNeg) (lk_oR (ixlt i22)) (33 + v2.toNatClampNeg) (nw_oR (ixlt i28)) (x_oR v2.toNatClampNeg) (lk_oR (ixlt i28)) (fun q => ne49 (by omega)) e49)) rfl rfl rfl (Nat.le_of_ble_eq_true rfl) dE_shorten_49 ?_
        refine w_iinc (pc := 52) (q0 := 2) (v := (v2 + 1)) (lv' := [(2, .int (v2 + 1)), (0, .ref (κ.1 31)), (1, .int v1)]) G dE_shorten_52 rfl rfl (by decide) rfl ?_
        refine w_goto (pc := 55) (tgt := 4) G dE_shorten_55 (by decide) ?_
        refine w_sub (lv' := [(0, .ref (κ.1 31)), (1, .int v1), (2, .int (v2 + 1))]) [1, 2, 0] rfl ?_
        exact ih (v2 + 1) (va_up x_oR v1.toNatClampNeg r49) out h K
set_option maxHeartbeats 8000000 in
set_option maxRecDepth 100000 in
theorem met_O_shorten (κ : ctx) (τ : MS) (F : Nat) {x_added : Nat → Nat → Int64} {x_asked : Nat → Int64} {x_eR : Nat → Nat → Int64} {x_et : Nat → Int64} {x_oR : Nat → Nat → Int64} {x_ot : Nat → Int64} {x_bR : Nat → Nat → Int64} {x_bD : Nat → Nat → Int64} {x_bQ : Nat → Int64} {x_bW : Nat → Int64} {x_bS : Nat → Nat → Int64} {x_bM : Nat → Nat → Int64} {x_bT : Nat → Int64} {x_bn : Int32} {x_tg : Nat → Int64} {x_tb : Int64} {x_ts : Nat → Int32} {x_fg : Nat → Int64} {x_fb : Int64} {x_fV : Nat → Nat → Int64} {x_fS : Nat → Int64} {x_fn : Int32} {x_cg : Nat → Int64} {x_cb : Int64} {x_cB : Nat → Int64} {x_cq : Int64} {x_vHeld : Int32} {x_vRed : Int32} {x_vTal : Int32} {x_vLis : Int32} (v1 : Int32) {out : (Nat → Nat → Int64)} (h : E_shorten F  x_oR v1 = some out) : Mt yE_shorten cE_shorten 3 none rm_O_shorten κ [.ref (κ.1 31), .int v1] (LM κ τ (LC κ (x_added, x_asked, x_eR, x_et, x_oR, x_ot, x_bR, x_bD, x_bQ, x_bW, x_bS, x_bM, x_bT, x_bn, x_tg, x_tb, x_ts, x_fg, x_fb, x_fV, x_fS, x_fn, x_cg, x_cb, x_cB, x_cq, x_vHeld, x_vRed, x_vTal, x_vLis))) none (LM κ τ (LC κ (x_added, x_asked, x_eR, x_et, out, x_ot, x_bR, x_bD, x_bQ, x_bW, x_bS, x_bM, x_bT, x_bn, x_tg, x_tb, x_ts, x_fg, x_fb, x_fV, x_fS, x_fn, x_cg, x_cb, x_cB, x_cq, x_vHeld, x_vRed, x_vTal, x_vLis))) := by
  refine Mt.of (by decide) (Nat.le_of_ble_eq_true rfl) ?_
  intro g G Fh
  unfold E_shorten at h
  show J g κ 3 0 [(0, .ref (κ.1 31)), (1, .int v1)] [] (LM κ τ (LC κ (x_added, x_asked, x_eR, x_et, x_oR, x_ot, x_bR, x_bD, x_bQ, x_bW, x_bS, x_bM, x_bT, x_bn, x_tg, x_tb, x_ts, x_fg, x_fb, x_fV, x_fS, x_fn, x_cg, x_cb, x_cB, x_cq, x_vHeld, x_vRed, x_vTal, x_vLis)))
  refine w_iload_n (pc := 0) (q := 1) G dE_shorten_0 rfl rfl ?_
  refine w_iconst (pc := 1) (v := (1 : Int32)) G dE_shorten_1 (by decide) ?_
  refine w_iadd (pc := 2) G dE_shorten_2 ?_
  refine w_istore_n (pc := 3) (lv' := [(2, .int (v1 + (1 : Int32))), (0, .ref (κ.1 31)), (1, .int v1)]) G dE_shorten_3 rfl (by decide) rfl ?_
  refine w_sub (lv' := [(0, .ref (κ.1 31)), (1, .int v1), (2, .int (v1 + (1 : Int32)))]) [1, 2, 0] rfl ?_
  obtain ⟨o4_11, eo4_11, h⟩ := bd h
  refine lO_shorten_4_ok G τ F  v1 F (v1 + (1 : Int32)) x_oR o4_11 eo4_11 ?_
  obtain rfl := Option.some.inj h
  exact w_vret (pc := 58) G dE_shorten_58 Fh
def rm_O_include : Room := { frames := 2, cells := 0, slots := 0, locals := 91 }
theorem cb_V_copy_O_include : CB yV_copy cV_copy 2 none rm_V_copy rm_O_include 2 := ⟨wd170, wd1, by decide +kernel, rfl, rfl, by decide⟩
theorem cb_O_merge_O_include : CB yE_merge cE_merge 9 none rm_O_merge rm_O_include 2 := ⟨wd182, wd2, by decide +kernel, rfl, rfl, by decide⟩
theorem cb_O_shorten_O_include : CB yE_shorten cE_shorten 3 none rm_O_shorten rm_O_include 1 := ⟨wd191, wd2, by decide +kernel, rfl, rfl, by decide⟩
set_option maxHeartbeats 8000000 in
set_option maxRecDepth 100000 in
theorem lO_include_10_ok {g : Gm} {κ : ctx} (G : OK g κ RE cE_include 3 none rm_O_include) (τ : MS) (F : Nat) {x_added : Nat → Nat → Int64} {x_asked : Nat → Int64} {x_eR : Nat → Nat → Int64} {x_et : Nat → Int64} {x_bR : Nat → Nat → Int64} {x_bD : Nat → Nat → Int64} {x_bQ : Nat → Int64} {x_bW : Nat → Int64} {x_bS : Nat → Nat → Int64} {x_bM : Nat → Nat → Int64} {x_bT : Nat → Int64} {x_bn : Int32} {x_tg : Nat → Int64} {x_tb : Int64} {x_ts : Nat → Int32} {x_fg : Nat → Int64} {x_fb : Int64} {x_fV : Nat → Nat → Int64} {x_fS : Nat → Int64} {x_fn : Int32} {x_cg : Nat → Int64} {x_cb : Int64} {x_cB : Nat → Int64} {x_cq : Int64} {x_vHeld : Int32} {x_vRed : Int32} {x_vTal : Int32} {x_vLis : Int32} (q_g : Nat) (hq_g : q_g < NW) (y_g : Nat → Int64) (h_g : ∀ (x_oR : Nat → Nat → Int64) (x_ot : Nat → Int64), (LM κ τ (LC κ (x_added, x_asked, x_eR, x_et, x_oR, x_ot, x_bR, x_bD, x_bQ, x_bW, x_bS, x_bM, x_bT, x_bn, x_tg, x_tb, x_ts, x_fg, x_fb, x_fV, x_fS, x_fn, x_cg, x_cb, x_cB, x_cq, x_vHeld, x_vRed, x_vTal, x_vLis))) q_g = .inl (κ.2.2.1, 4, .inr (.inl y_g))) (ne_g : q_g ≠ 37) : ∀ (n : Nat) (v2 : Int32) (x_oR : Nat → Nat → Int64) (x_ot : Nat → Int64) (out : (Nat → Nat → Int64) × (Nat → Int64)), lE_include_10 F  y_g  n v2 x_oR x_ot = some out → (J g κ 3 32 [(0, .ref (κ.1 31))] [] (LM κ τ (LC κ (x_added, x_asked, x_eR, x_et, out.1, out.2, x_bR, x_bD, x_bQ, x_bW, x_bS, x_bM, x_bT, x_bn, x_tg, x_tb, x_ts, x_fg, x_fb, x_fV, x_fS, x_fn, x_cg, x_cb, x_cB, x_cq, x_vHeld, x_vRed, x_vTal, x_vLis)))) → J g κ 3 10 [(0, .ref (κ.1 31)), (2, .int v2)] [] (LM κ τ (LC κ (x_added, x_asked, x_eR, x_et, x_oR, x_ot, x_bR, x_bD, x_bQ, x_bW, x_bS, x_bM, x_bT, x_bn, x_tg, x_tb, x_ts, x_fg, x_fb, x_fV, x_fS, x_fn, x_cg, x_cb, x_cB, x_cq, x_vHeld, x_vRed, x_vTal, x_vLis))) := by
  intro n
  induction n with
  | zero =>
    intro v2 x_oR x_ot
    intro out h
    rw [lE_include_10] at h
    cases h
  | succ n ih =>
    intro v2 x_oR x_ot out h K
    rw [lE_include_10] at h
    refine w_iload_n (pc := 10) (q := 1) G dE_include_10 rfl rfl ?_
    refine w_iconst (pc := 11) (v := (4 : Int32)) G dE_include_11 (by decide) ?_
    refine w_icmp_ge (pc := 12) (tgt := 32) G dE_include_12 (by decide) (fun c12 => ?_) (fun c12 => ?_)
    · have h := if_t c12 h
      obtain rfl := Option.some.inj h
      refine w_sub (lv' := [(0, .ref (κ.1 31))]) [0] rfl ?_
      exact K
    · have h := if_f c12 h
      refine w_aload_n (pc := 15) (q := 0) G dE_include_15 rfl rfl ?_
      refine w_aload_n (pc := 16) (q := 0) G dE_include_16 rfl rfl ?_
      refine w_get (pc := 17) (v := .ref (κ.1 32)) (fs := fl_O κ (x_added, x_asked, x_eR, x_et, x_oR, x_ot, x_bR, x_bD, x_bQ, x_bW, x_bS, x_bM, x_bT, x_bn, x_tg, x_tb, x_ts, x_fg, x_fb, x_fV, x_fS, x_fn, x_cg, x_cb, x_cB, x_cq, x_vHeld, x_vRed, x_vTal, x_vLis)) G 31 (by decide) lb_O rfl wsE_ok 0 (by decide) wd29 gf_O_0 dE_include_17 ?_
      refine w_iload_n (pc := 20) (q := 1) G dE_include_20 rfl rfl ?_
      obtain ⟨i21, h⟩ := gd_some h
      refine w_aald (pc := 21) (n := 4) (f := og κ 33 4) (b := κ.1 (33 + v2.toNatClampNeg)) G 32 (by decide) lo_oR i21 (og_at (ixlt i21)) dE_include_21 ?_
      refine w_iload_n (pc := 22) (q := 1) G dE_include_22 rfl rfl ?_
      obtain ⟨r23, e23, h⟩ := bd h
      refine w_callV (pc := 23) (av := [.ref (κ.1 (33 + v2.toNatClampNeg)), .int v2]) (rest := []) (v := none) (L' := (LM κ τ (LC κ (x_added, x_asked, x_eR, x_et, r23.1, r23.2, x_bR, x_bD, x_bQ, x_bW, x_bS, x_bM, x_bT, x_bn, x_tg, x_tb, x_ts, x_fg, x_fb, x_fV, x_fS, x_fn, x_cg, x_cb, x_cB, x_cq, x_vHeld, x_vRed, x_vTal, x_vLis)))) (T := TE) (fs := fl_O κ (x_added, x_asked, x_eR, x_et, x_oR, x_ot, x_bR, x_bD, x_bQ, x_bW, x_bS, x_bM, x_bT, x_bn, x_tg, x_tb, x_ts, x_fg, x_fb, x_fV, x_fS, x_fn, x_cg, x_cb, x_cB, x_cq, x_vHeld, x_vRed, x_vTal, x_vLis)) G 31 2 2 (by decide) lb_O rfl cb_O_merge_O_include wd181 ws1 wd179 (met_O_merge κ τ F v2 (ixlt i21) e23) rfl rfl rfl (Nat.le_of_ble_eq_true rfl) dE_include_23 ?_
      refine w_iinc (pc := 26) (q0 := 1) (v := (v2 + 1)) (lv' := [(2, .int (v2 + 1)), (0, .ref (κ.1 31))]) G dE_include_26 rfl rfl (by decide) rfl ?_
      refine w_goto (pc := 29) (tgt := 10) G dE_include_29 (by decide) ?_
      refine w_sub (lv' := [(0, .ref (κ.1 31)), (2, .int (v2 + 1))]) [1, 0] rfl ?_
      exact ih (v2 + 1) r23.1 r23.2 out h K
set_option maxHeartbeats 8000000 in
set_option maxRecDepth 100000 in
theorem lO_include_34_ok {g : Gm} {κ : ctx} (G : OK g κ RE cE_include 3 none rm_O_include) (τ : MS) (F : Nat) {x_added : Nat → Nat → Int64} {x_asked : Nat → Int64} {x_eR : Nat → Nat → Int64} {x_et : Nat → Int64} {x_ot : Nat → Int64} {x_bR : Nat → Nat → Int64} {x_bD : Nat → Nat → Int64} {x_bQ : Nat → Int64} {x_bW : Nat → Int64} {x_bS : Nat → Nat → Int64} {x_bM : Nat → Nat → Int64} {x_bT : Nat → Int64} {x_bn : Int32} {x_tg : Nat → Int64} {x_tb : Int64} {x_ts : Nat → Int32} {x_fg : Nat → Int64} {x_fb : Int64} {x_fV : Nat → Nat → Int64} {x_fS : Nat → Int64} {x_fn : Int32} {x_cg : Nat → Int64} {x_cb : Int64} {x_cB : Nat → Int64} {x_cq : Int64} {x_vHeld : Int32} {x_vRed : Int32} {x_vTal : Int32} {x_vLis : Int32} (q_g : Nat) (hq_g : q_g < NW) (y_g : Nat → Int64) (h_g : ∀ (x_oR : Nat → Nat → Int64) (x_ot : Nat → Int64), (LM κ τ (LC κ (x_added, x_asked, x_eR, x_et, x_oR, x_ot, x_bR, x_bD, x_bQ, x_bW, x_bS, x_bM, x_bT, x_bn, x_tg, x_tb, x_ts, x_fg, x_fb, x_fV, x_fS, x_fn, x_cg, x_cb, x_cB, x_cq, x_vHeld, x_vRed, x_vTal, x_vLis))) q_g = .inl (κ.2.2.1, 4, .inr (.inl y_g))) (ne_g : q_g ≠ 37) : ∀ (n : Nat) (v2 : Int32) (x_oR : Nat → Nat → Int64) (out : (Nat → Nat → Int64)), lE_include_34 F  y_g  n v2 x_oR = some out → (J g κ 3 49 [] [] (LM κ τ (LC κ (x_added, x_asked, x_eR, x_et, out, x_ot, x_bR, x_bD, x_bQ, x_bW, x_bS, x_bM, x_bT, x_bn, x_tg, x_tb, x_ts, x_fg, x_fb, x_fV, x_fS, x_fn, x_cg, x_cb, x_cB, x_cq, x_vHeld, x_vRed, x_vTal, x_vLis)))) → J g κ 3 34 [(0, .ref (κ.1 31)), (2, .int v2)] [] (LM κ τ (LC κ (x_added, x_asked, x_eR, x_et, x_oR, x_ot, x_bR, x_bD, x_bQ, x_bW, x_bS, x_bM, x_bT, x_bn, x_tg, x_tb, x_ts, x_fg, x_fb, x_fV, x_fS, x_fn, x_cg, x_cb, x_cB, x_cq, x_vHeld, x_vRed, x_vTal, x_vLis))) := by
  intro n
  induction n with
  | zero =>
    intro v2 x_oR
    intro out h
    rw [lE_include_34] at h
    cases h
  | succ n ih =>
    intro v2 x_oR out h K
    rw [lE_include_34] at h
    refine w_iload_n (pc := 34) (q := 1) G dE_include_34 rfl rfl ?_
    refine w_if_lt (pc := 35) (tgt := 49) G dE_include_35 (by decide) (fun c35 => ?_) (fun c35 => ?_)
    · have h := if_t c35 h
      obtain rfl := Option.some.inj h
      refine w_sub (lv' := []) [] rfl ?_
      exact K
    · have h := if_f c35 h
      refine w_aload_n (pc := 38) (q := 0) G dE_include_38 rfl rfl ?_
      refine w_iload_n (pc := 39) (q := 1) G dE_include_39 rfl rfl ?_
      obtain ⟨r40, e40, h⟩ := bd h
      refine w_callV (pc := 40) (av := [.int v2]) (rest := []) (v := none) (L' := (LM κ τ (LC κ (x_added, x_asked, x_eR, x_et, r40, x_ot, x_bR, x_bD, x_bQ, x_bW, x_bS, x_bM, x_bT, x_bn, x_tg, x_tb, x_ts, x_fg, x_fb, x_fV, x_fS, x_fn, x_cg, x_cb, x_cB, x_cq, x_vHeld, x_vRed, x_vTal, x_vLis)))) (T := TE) (fs := fl_O κ (x_added, x_asked, x_eR, x_et, x_oR, x_ot, x_bR, x_bD, x_bQ, x_bW, x_bS, x_bM, x_bT, x_bn, x_tg, x_tb, x_ts, x_fg, x_fb, x_fV, x_fS, x_fn, x_cg, x_cb, x_cB, x_cq, x_vHeld, x_vRed, x_vTal, x_vLis)) G 31 2 2 (by decide) lb_O rfl cb_O_shorten_O_include wd190 ws2 wd188 (met_O_shorten κ τ F v2  e40) rfl rfl rfl (Nat.le_of_ble_eq_true rfl) dE_include_40 ?_
      refine w_iinc (pc := 43) (q0 := 1) (v := (v2 + (-1))) (lv' := [(2, .int (v2 + (-1))), (0, .ref (κ.1 31))]) G dE_include_43 rfl rfl (by decide) rfl ?_
      refine w_goto (pc := 46) (tgt := 34) G dE_include_46 (by decide) ?_
      refine w_sub (lv' := [(0, .ref (κ.1 31)), (2, .int (v2 + (-1)))]) [1, 0] rfl ?_
      exact ih (v2 + (-1)) r40 out h K
set_option maxHeartbeats 8000000 in
set_option maxRecDepth 100000 in
theorem met_O_include (κ : ctx) (τ : MS) (F : Nat) {x_added : Nat → Nat → Int64} {x_asked : Nat → Int64} {x_eR : Nat → Nat → Int64} {x_et : Nat → Int64} {x_oR : Nat → Nat → Int64} {x_ot : Nat → Int64} {x_bR : Nat → Nat → Int64} {x_bD : Nat → Nat → Int64} {x_bQ : Nat → Int64} {x_bW : Nat → Int64} {x_bS : Nat → Nat → Int64} {x_bM : Nat → Nat → Int64} {x_bT : Nat → Int64} {x_bn : Int32} {x_tg : Nat → Int64} {x_tb : Int64} {x_ts : Nat → Int32} {x_fg : Nat → Int64} {x_fb : Int64} {x_fV : Nat → Nat → Int64} {x_fS : Nat → Int64} {x_fn : Int32} {x_cg : Nat → Int64} {x_cb : Int64} {x_cB : Nat → Int64} {x_cq : Int64} {x_vHeld : Int32} {x_vRed : Int32} {x_vTal : Int32} {x_vLis : Int32}  (q_g : Nat) (hq_g : q_g < NW) (y_g : Nat → Int64) (h_g : ∀ (x_oR : Nat → Nat → Int64) (x_ot : Nat → Int64), (LM κ τ (LC κ (x_added, x_asked, x_eR, x_et, x_oR, x_ot, x_bR, x_bD, x_bQ, x_bW, x_bS, x_bM, x_bT, x_bn, x_tg, x_tb, x_ts, x_fg, x_fb, x_fV, x_fS, x_fn, x_cg, x_cb, x_cB, x_cq, x_vHeld, x_vRed, x_vTal, x_vLis))) q_g = .inl (κ.2.2.1, 4, .inr (.inl y_g))) (ne_g : q_g ≠ 37) {out : (Nat → Nat → Int64) × (Nat → Int64)} (h : E_include F  x_oR x_ot y_g  = some out) : Mt yE_include cE_include 3 none rm_O_include κ [.ref (κ.1 31), .ref (κ.1 q_g)] (LM κ τ (LC κ (x_added, x_asked, x_eR, x_et, x_oR, x_ot, x_bR, x_bD, x_bQ, x_bW, x_bS, x_bM, x_bT, x_bn, x_tg, x_tb, x_ts, x_fg, x_fb, x_fV, x_fS, x_fn, x_cg, x_cb, x_cB, x_cq, x_vHeld, x_vRed, x_vTal, x_vLis))) none (LM κ τ (LC κ (x_added, x_asked, x_eR, x_et, out.1, out.2, x_bR, x_bD, x_bQ, x_bW, x_bS, x_bM, x_bT, x_bn, x_tg, x_tb, x_ts, x_fg, x_fb, x_fV, x_fS, x_fn, x_cg, x_cb, x_cB, x_cq, x_vHeld, x_vRed, x_vTal, x_vLis))) := by
  refine Mt.of (by decide) (Nat.le_of_ble_eq_true rfl) ?_
  intro g G Fh
  unfold E_include at h
  show J g κ 3 0 [(0, .ref (κ.1 31)), (1, .ref (κ.1 q_g))] [] (LM κ τ (LC κ (x_added, x_asked, x_eR, x_et, x_oR, x_ot, x_bR, x_bD, x_bQ, x_bW, x_bS, x_bM, x_bT, x_bn, x_tg, x_tb, x_ts, x_fg, x_fb, x_fV, x_fS, x_fn, x_cg, x_cb, x_cB, x_cq, x_vHeld, x_vRed, x_vTal, x_vLis)))
  refine w_aload_n (pc := 0) (q := 1) G dE_include_0 rfl rfl ?_
  refine w_aload_n (pc := 1) (q := 0) G dE_include_1 rfl rfl ?_
  refine w_get (pc := 2) (v := .ref (κ.1 37)) (fs := fl_O κ (x_added, x_asked, x_eR, x_et, x_oR, x_ot, x_bR, x_bD, x_bQ, x_bW, x_bS, x_bM, x_bT, x_bn, x_tg, x_tb, x_ts, x_fg, x_fb, x_fV, x_fS, x_fn, x_cg, x_cb, x_cB, x_cq, x_vHeld, x_vRed, x_vTal, x_vLis)) G 31 (by decide) lb_O rfl wsE_ok 1 (by decide) wd30 gf_O_1 dE_include_2 ?_
  obtain ⟨r5, e5, h⟩ := bd h
  refine w_callSN (pc := 5) (av := [.ref (κ.1 q_g), .ref (κ.1 37)]) (rest := []) (v := none) (L' := (LM κ τ (LC κ (x_added, x_asked, x_eR, x_et, x_oR, r5, x_bR, x_bD, x_bQ, x_bW, x_bS, x_bM, x_bT, x_bn, x_tg, x_tb, x_ts, x_fg, x_fb, x_fV, x_fS, x_fn, x_cg, x_cb, x_cB, x_cq, x_vHeld, x_vRed, x_vTal, x_vLis)))) G cb_V_copy_O_include wd169 wd178 (Mt.eqw up_ot (met_V_copy κ (LM κ τ (LC κ (x_added, x_asked, x_eR, x_et, x_oR, x_ot, x_bR, x_bD, x_bQ, x_bW, x_bS, x_bM, x_bT, x_bn, x_tg, x_tb, x_ts, x_fg, x_fb, x_fV, x_fS, x_fn, x_cg, x_cb, x_cB, x_cq, x_vHeld, x_vRed, x_vTal, x_vLis))) F  q_g hq_g y_g (h_g x_oR x_ot) 37 (by decide) x_ot lk_ot (ne_g) e5)) rfl rfl rfl (Nat.le_of_ble_eq_true rfl) dE_include_5 ?_
  refine w_iconst (pc := 8) (v := (0 : Int32)) G dE_include_8 (by decide) ?_
  refine w_istore_n (pc := 9) (lv' := [(2, .int (0 : Int32)), (0, .ref (κ.1 31)), (1, .ref (κ.1 q_g))]) G dE_include_9 rfl (by decide) rfl ?_
  refine w_sub (lv' := [(0, .ref (κ.1 31)), (2, .int (0 : Int32))]) [1, 0] rfl ?_
  obtain ⟨o10_7, eo10_7, h⟩ := bd h
  refine lO_include_10_ok G τ F  q_g hq_g y_g h_g ne_g  F (0 : Int32) x_oR r5 o10_7 eo10_7 ?_
  refine w_iconst (pc := 32) (v := (3 : Int32)) G dE_include_32 (by decide) ?_
  refine w_istore_n (pc := 33) (lv' := [(2, .int (3 : Int32)), (0, .ref (κ.1 31))]) G dE_include_33 rfl (by decide) rfl ?_
  refine w_sub (lv' := [(0, .ref (κ.1 31)), (2, .int (3 : Int32))]) [1, 0] rfl ?_
  obtain ⟨o34_13, eo34_13, h⟩ := bd h
  refine lO_include_34_ok G τ F  q_g hq_g y_g h_g ne_g  F (3 : Int32) o10_7.1 o34_13 eo34_13 ?_
  obtain rfl := Option.some.inj h
  exact w_vret (pc := 49) G dE_include_49 Fh
def rm_O_leastMultiplier : Room := { frames := 2, cells := 0, slots := 0, locals := 100 }
theorem cb_V_addMultiple_O_leastMultiplier : CB yV_addMultiple cV_addMultiple 5 none rm_V_addMultiple rm_O_leastMultiplier 3 := ⟨wd187, wd1, by decide +kernel, rfl, rfl, by decide⟩
theorem cb_V_addMultipleA_O_leastMultiplier : CB yV_addMultiple cV_addMultiple 5 none rm_V_addMultipleA rm_O_leastMultiplier 3 := ⟨wd187, wd1, by decide +kernel, rfl, rfl, by decide⟩
theorem cb_V_commonDivisor_O_leastMultiplier : CB yV_commonDivisor cV_commonDivisor 11 (some .long) rm_V_commonDivisor rm_O_leastMultiplier 2 := ⟨wd299, wd1, by decide +kernel, rfl, rfl, by decide⟩
theorem cb_V_copy_O_leastMultiplier : CB yV_copy cV_copy 2 none rm_V_copy rm_O_leastMultiplier 2 := ⟨wd170, wd1, by decide +kernel, rfl, rfl, by decide⟩
theorem cb_O_isHeld_O_leastMultiplier : CB yE_isHeld cE_isHeld 2 (some .boolean) rm_O_isHeld rm_O_leastMultiplier 1 := ⟨wd195, wd2, by decide +kernel, rfl, rfl, by decide⟩
set_option maxHeartbeats 8000000 in
set_option maxRecDepth 100000 in
theorem lO_leastMultiplier_13_ok {g : Gm} {κ : ctx} (G : OK g κ RE cE_leastMultiplier 9 (some .long) rm_O_leastMultiplier) (τ : MS) (F : Nat) {x_added : Nat → Nat → Int64} {x_asked : Nat → Int64} {x_eR : Nat → Nat → Int64} {x_et : Nat → Int64} {x_oR : Nat → Nat → Int64} {x_bR : Nat → Nat → Int64} {x_bD : Nat → Nat → Int64} {x_bQ : Nat → Int64} {x_bW : Nat → Int64} {x_bS : Nat → Nat → Int64} {x_bM : Nat → Nat → Int64} {x_bT : Nat → Int64} {x_bn : Int32} {x_tg : Nat → Int64} {x_tb : Int64} {x_ts : Nat → Int32} {x_fg : Nat → Int64} {x_fb : Int64} {x_fV : Nat → Nat → Int64} {x_fS : Nat → Int64} {x_fn : Int32} {x_cg : Nat → Int64} {x_cb : Int64} {x_cB : Nat → Int64} {x_cq : Int64} {x_vHeld : Int32} {x_vRed : Int32} {x_vTal : Int32} {x_vLis : Int32} (q_g : Nat) (hq_g : q_g < NW) (y_g : Nat → Int64) (h_g : ∀ (x_oR : Nat → Nat → Int64) (x_ot : Nat → Int64), (LM κ τ (LC κ (x_added, x_asked, x_eR, x_et, x_oR, x_ot, x_bR, x_bD, x_bQ, x_bW, x_bS, x_bM, x_bT, x_bn, x_tg, x_tb, x_ts, x_fg, x_fb, x_fV, x_fS, x_fn, x_cg, x_cb, x_cB, x_cq, x_vHeld, x_vRed, x_vTal, x_vLis))) q_g = .inl (κ.2.2.1, 4, .inr (.inl y_g))) (ne_g : q_g ≠ 37) : ∀ (n : Nat) (v2 : Int64) (v4 : Int32) (x_ot : Nat → Int64) (out : (Int64 × (Nat → Int64)) ⊕ (Int64 × (Nat → Int64))), lE_leastMultiplier_13 F  x_oR y_g  n v2 v4 x_ot = some out → (∀ e, out = .inl e → (J g κ 9 125 [(2, .long e.1)] [] (LM κ τ (LC κ (x_added, x_asked, x_eR, x_et, x_oR, e.2, x_bR, x_bD, x_bQ, x_bW, x_bS, x_bM, x_bT, x_bn, x_tg, x_tb, x_ts, x_fg, x_fb, x_fV, x_fS, x_fn, x_cg, x_cb, x_cB, x_cq, x_vHeld, x_vRed, x_vTal, x_vLis))))) → (∀ r, out = .inr r → Fn g κ (some (.long r.1)) (LM κ τ (LC κ (x_added, x_asked, x_eR, x_et, x_oR, r.2, x_bR, x_bD, x_bQ, x_bW, x_bS, x_bM, x_bT, x_bn, x_tg, x_tb, x_ts, x_fg, x_fb, x_fV, x_fS, x_fn, x_cg, x_cb, x_cB, x_cq, x_vHeld, x_vRed, x_vTal, x_vLis)))) → J g κ 9 13 [(0, .ref (κ.1 31)), (2, .long v2), (4, .int v4)] [] (LM κ τ (LC κ (x_added, x_asked, x_eR, x_et, x_oR, x_ot, x_bR, x_bD, x_bQ, x_bW, x_bS, x_bM, x_bT, x_bn, x_tg, x_tb, x_ts, x_fg, x_fb, x_fV, x_fS, x_fn, x_cg, x_cb, x_cB, x_cq, x_vHeld, x_vRed, x_vTal, x_vLis))) := by
  intro n
  induction n with
  | zero =>
    intro v2 v4 x_ot
    intro out h
    rw [lE_leastMultiplier_13] at h
    cases h
  | succ n ih =>
    intro v2 v4 x_ot out h K K2
    rw [lE_leastMultiplier_13] at h
    refine w_iload (pc := 13) (q := 2) G dE_leastMultiplier_13 rfl ?_
    refine w_iconst (pc := 15) (v := (4 : Int32)) G dE_leastMultiplier_15 (by decide) ?_
    refine w_icmp_ge (pc := 16) (tgt := 125) G dE_leastMultiplier_16 (by decide) (fun c16 => ?_) (fun c16 => ?_)
    · have h := if_t c16 h
      obtain rfl := Option.some.inj h
      refine w_sub (lv' := [(2, .long v2)]) [1] rfl ?_
      have K9 := K _ rfl
      exact K9
    · have h := if_f c16 h
      refine w_aload_n (pc := 19) (q := 0) G dE_leastMultiplier_19 rfl rfl ?_
      refine w_get (pc := 20) (v := .ref (κ.1 37)) (fs := fl_O κ (x_added, x_asked, x_eR, x_et, x_oR, x_ot, x_bR, x_bD, x_bQ, x_bW, x_bS, x_bM, x_bT, x_bn, x_tg, x_tb, x_ts, x_fg, x_fb, x_fV, x_fS, x_fn, x_cg, x_cb, x_cB, x_cq, x_vHeld, x_vRed, x_vTal, x_vLis)) G 31 (by decide) lb_O rfl wsE_ok 1 (by decide) wd30 gf_O_1 dE_leastMultiplier_20 ?_
      refine w_iload (pc := 23) (q := 2) G dE_leastMultiplier_23 rfl ?_
      obtain ⟨i25, h⟩ := gd_some h
      refine w_lald (pc := 25) (n := 4) (f := x_ot) G 37 (by decide) lk_ot i25 dE_leastMultiplier_25 ?_
      refine w_lconst (pc := 26) (v := (0 : Int64)) G dE_leastMultiplier_26 (by decide) ?_
      refine w_lc_ne (pc := 27) (tgt := 34) G dE_leastMultiplier_27 dE_leastMultiplier_28 (by decide) (fun c27 => ?_) (fun c27 => ?_)
      · have h := if_t c27 h
        refine w_goto (pc := 31) (tgt := 119) G dE_leastMultiplier_31 (by decide) ?_
        refine w_iinc (pc := 119) (q0 := 2) (v := (v4 + 1)) (lv' := [(4, .int (v4 + 1)), (0, .ref (κ.1 31)), (2, .long v2)]) G dE_leastMultiplier_119 rfl rfl (by decide) rfl ?_
        refine w_goto (pc := 122) (tgt := 13) G dE_leastMultiplier_122 (by decide) ?_
        refine w_sub (lv' := [(0, .ref (κ.1 31)), (2, .long v2), (4, .int (v4 + 1))]) [1, 2, 0] rfl ?_
        exact ih v2 (v4 + 1) x_ot out h K K2
      · have h := if_f c27 h
        refine w_aload_n (pc := 34) (q := 0) G dE_leastMultiplier_34 rfl rfl ?_
        refine w_iload (pc := 35) (q := 2) G dE_leastMultiplier_35 rfl ?_
        obtain ⟨r37, e37, h⟩ := bd h
        refine w_callV (pc := 37) (av := [.int v4]) (rest := []) (v := some (.int r37)) (L' := (LM κ τ (LC κ (x_added, x_asked, x_eR, x_et, x_oR, x_ot, x_bR, x_bD, x_bQ, x_bW, x_bS, x_bM, x_bT, x_bn, x_tg, x_tb, x_ts, x_fg, x_fb, x_fV, x_fS, x_fn, x_cg, x_cb, x_cB, x_cq, x_vHeld, x_vRed, x_vTal, x_vLis)))) (T := TE) (fs := fl_O κ (x_added, x_asked, x_eR, x_et, x_oR, x_ot, x_bR, x_bD, x_bQ, x_bW, x_bS, x_bM, x_bT, x_bn, x_tg, x_tb, x_ts, x_fg, x_fb, x_fV, x_fS, x_fn, x_cg, x_cb, x_cB, x_cq, x_vHeld, x_vRed, x_vTal, x_vLis)) G 31 2 2 (by decide) lb_O rfl cb_O_isHeld_O_leastMultiplier wd193 wd194 wd192 (met_O_isHeld κ τ F v4  e37) rfl rfl rfl (Nat.le_of_ble_eq_true rfl) dE_leastMultiplier_37 ?_
        refine w_if_ne (pc := 40) (tgt := 45) G dE_leastMultiplier_40 (by decide) (fun c40 => ?_) (fun c40 => ?_)
        · have h := if_t c40 h
          refine w_lconst (pc := 43) (v := (0 : Int64)) G dE_leastMultiplier_43 (by decide) ?_
          obtain rfl := Option.some.inj h
          have K9 := K2 _ rfl
          exact w_lret (pc := 44) G dE_leastMultiplier_44 K9
        · have h := if_f c40 h
          refine w_aload_n (pc := 45) (q := 0) G dE_leastMultiplier_45 rfl rfl ?_
          refine w_get (pc := 46) (v := .ref (κ.1 32)) (fs := fl_O κ (x_added, x_asked, x_eR, x_et, x_oR, x_ot, x_bR, x_bD, x_bQ, x_bW, x_bS, x_bM, x_bT, x_bn, x_tg, x_tb, x_ts, x_fg, x_fb, x_fV, x_fS, x_fn, x_cg, x_cb, x_cB, x_cq, x_vHeld, x_vRed, x_vTal, x_vLis)) G 31 (by decide) lb_O rfl wsE_ok 0 (by decide) wd29 gf_O_0 dE_leastMultiplier_46 ?_
          refine w_iload (pc := 49) (q := 2) G dE_leastMultiplier_49 rfl ?_
          obtain ⟨i51, h⟩ := gd_some h
          refine w_aald (pc := 51) (n := 4) (f := og κ 33 4) (b := κ.1 (33 + v4.toNatClampNeg)) G 32 (by decide) lo_oR i51 (og_at (ixlt i51)) dE_leastMultiplier_51 ?_
          refine w_iload (pc := 52) (q := 2) G dE_leastMultiplier_52 rfl ?_
          obtain ⟨i54, h⟩ := gd_some h
          refine w_lald (pc := 54) (n := 4) (f := (x_oR v4.toNatClampNeg)) G (33 + v4.toNatClampNeg) (nw_oR (ixlt i51)) (lk_oR (ixlt i51)) i54 dE_leastMultiplier_54 ?_
          refine w_lstore (pc := 55) (lv' := [(5, .long ((x_oR v4.toNatClampNeg) v4.toNatClampNeg)), (0, .ref (κ.1 31)), (2, .long v2), (4, .int v4)]) G dE_leastMultiplier_55 (by decide) rfl ?_
          refine w_lload (pc := 57) (q := 0) G dE_leastMultiplier_57 rfl ?_
          refine w_lload (pc := 59) (q := 0) G dE_leastMultiplier_59 rfl ?_
          refine w_aload_n (pc := 61) (q := 1) G dE_leastMultiplier_61 rfl rfl ?_
          refine w_get (pc := 62) (v := .ref (κ.1 37)) (fs := fl_O κ (x_added, x_asked, x_eR, x_et, x_oR, x_ot, x_bR, x_bD, x_bQ, x_bW, x_bS, x_bM, x_bT, x_bn, x_tg, x_tb, x_ts, x_fg, x_fb, x_fV, x_fS, x_fn, x_cg, x_cb, x_cB, x_cq, x_vHeld, x_vRed, x_vTal, x_vLis)) G 31 (by decide) lb_O rfl wsE_ok 1 (by decide) wd30 gf_O_1 dE_leastMultiplier_62 ?_
          refine w_iload (pc := 65) (q := 3) G dE_leastMultiplier_65 rfl ?_
          obtain ⟨i67, h⟩ := gd_some h
          refine w_lald (pc := 67) (n := 4) (f := x_ot) G 37 (by decide) lk_ot i67 dE_leastMultiplier_67 ?_
          obtain ⟨r68, e68, h⟩ := bd h
          refine w_callSN (pc := 68) (av := [.long ((x_oR v4.toNatClampNeg) v4.toNatClampNeg), .long (x_ot v4.toNatClampNeg)]) (rest := [.long ((x_oR v4.toNatClampNeg) v4.toNatClampNeg)]) (v := some (.long r68)) (L' := (LM κ τ (LC κ (x_added, x_asked, x_eR, x_et, x_oR, x_ot, x_bR, x_bD, x_bQ, x_bW, x_bS, x_bM, x_bT, x_bn, x_tg, x_tb, x_ts, x_fg, x_fb, x_fV, x_fS, x_fn, x_cg, x_cb, x_cB, x_cq, x_vHeld, x_vRed, x_vTal, x_vLis)))) G cb_V_commonDivisor_O_leastMultiplier wd298 wd325 (met_V_commonDivisor κ (LM κ τ (LC κ (x_added, x_asked, x_eR, x_et, x_oR, x_ot, x_bR, x_bD, x_bQ, x_bW, x_bS, x_bM, x_bT, x_bn, x_tg, x_tb, x_ts, x_fg, x_fb, x_fV, x_fS, x_fn, x_cg, x_cb, x_cB, x_cq, x_vHeld, x_vRed, x_vTal, x_vLis))) F ((x_oR v4.toNatClampNeg) v4.toNatClampNeg) (x_ot v4.toNatClampNeg)  e68) rfl rfl rfl (Nat.le_of_ble_eq_true rfl) dE_leastMultiplier_68 ?_
          obtain ⟨z71, h⟩ := gd_some h
          refine w_ldiv (pc := 71) G dE_leastMultiplier_71 z71 ?_
          refine w_lstore (pc := 72) (lv' := [(7, .long (((x_oR v4.toNatClampNeg) v4.toNatClampNeg) / r68)), (5, .long ((x_oR v4.toNatClampNeg) v4.toNatClampNeg)), (0, .ref (κ.1 31)), (2, .long v2), (4, .int v4)]) G dE_leastMultiplier_72 (by decide) rfl ?_
          refine w_lload_n (pc := 74) (q := 3) G dE_leastMultiplier_74 rfl rfl ?_
          refine w_lload (pc := 75) (q := 0) G dE_leastMultiplier_75 rfl ?_
          refine w_lmul (pc := 77) G dE_leastMultiplier_77 ?_
          refine w_lstore_n (pc := 78) (lv' := [(2, .long (v2 * (((x_oR v4.toNatClampNeg) v4.toNatClampNeg) / r68))), (7, .long (((x_oR v4.toNatClampNeg) v4.toNatClampNeg) / r68)), (5, .long ((x_oR v4.toNatClampNeg) v4.toNatClampNeg)), (0, .ref (κ.1 31)), (4, .int v4)]) G dE_leastMultiplier_78 rfl (by decide) rfl ?_
          refine w_aload_n (pc := 79) (q := 3) G dE_leastMultiplier_79 rfl rfl ?_
          refine w_get (pc := 80) (v := .ref (κ.1 37)) (fs := fl_O κ (x_added, x_asked, x_eR, x_et, x_oR, x_ot, x_bR, x_bD, x_bQ, x_bW, x_bS, x_bM, x_bT, x_bn, x_tg, x_tb, x_ts, x_fg, x_fb, x_fV, x_fS, x_fn, x_cg, x_cb, x_cB, x_cq, x_vHeld, x_vRed, x_vTal, x_vLis)) G 31 (by decide) lb_O rfl wsE_ok 1 (by decide) wd30 gf_O_1 dE_leastMultiplier_80 ?_
          refine w_aload_n (pc := 83) (q := 3) G dE_leastMultiplier_83 rfl rfl ?_
          refine w_get (pc := 84) (v := .ref (κ.1 37)) (fs := fl_O κ (x_added, x_asked, x_eR, x_et, x_oR, x_ot, x_bR, x_bD, x_bQ, x_bW, x_bS, x_bM, x_bT, x_bn, x_tg, x_tb, x_ts, x_fg, x_fb, x_fV, x_fS, x_fn, x_cg, x_cb, x_cB, x_cq, x_vHeld, x_vRed, x_vTal, x_vLis)) G 31 (by decide) lb_O rfl wsE_ok 1 (by decide) wd30 gf_O_1 dE_leastMultiplier_84 ?_
          refine w_lload (pc := 87) (q := 1) G dE_leastMultiplier_87 rfl ?_
          refine w_lconst (pc := 89) (v := (1 : Int64)) G dE_leastMultiplier_89 (by decide) ?_
          refine w_lsub (pc := 90) G dE_leastMultiplier_90 ?_
          obtain ⟨r91, e91, h⟩ := bd h
          refine w_callSN (pc := 91) (av := [.ref (κ.1 37), .ref (κ.1 37), .long ((((x_oR v4.toNatClampNeg) v4.toNatClampNeg) / r68) - (1 : Int64))]) (rest := []) (v := none) (L' := (LM κ τ (LC κ (x_added, x_asked, x_eR, x_et, x_oR, r91, x_bR, x_bD, x_bQ, x_bW, x_bS, x_bM, x_bT, x_bn, x_tg, x_tb, x_ts, x_fg, x_fb, x_fV, x_fS, x_fn, x_cg, x_cb, x_cB, x_cq, x_vHeld, x_vRed, x_vTal, x_vLis)))) G cb_V_addMultipleA_O_leastMultiplier wd186 wd185 (Mt.eqw up_ot (met_V_addMultipleA κ (LM κ τ (LC κ (x_added, x_asked, x_eR, x_et, x_oR, x_ot, x_bR, x_bD, x_bQ, x_bW, x_bS, x_bM, x_bT, x_bn, x_tg, x_tb, x_ts, x_fg, x_fb, x_fV, x_fS, x_fn, x_cg, x_cb, x_cB, x_cq, x_vHeld, x_vRed, x_vTal, x_vLis))) F ((((x_oR v4.toNatClampNeg) v4.toNatClampNeg) / r68) - (1 : Int64)) 37 (by decide) x_ot lk_ot e91)) rfl rfl rfl (Nat.le_of_ble_eq_true rfl) dE_leastMultiplier_91 ?_
          refine w_aload_n (pc := 94) (q := 3) G dE_leastMultiplier_94 rfl rfl ?_
          refine w_get (pc := 95) (v := .ref (κ.1 37)) (fs := fl_O κ (x_added, x_asked, x_eR, x_et, x_oR, r91, x_bR, x_bD, x_bQ, x_bW, x_bS, x_bM, x_bT, x_bn, x_tg, x_tb, x_ts, x_fg, x_fb, x_fV, x_fS, x_fn, x_cg, x_cb, x_cB, x_cq, x_vHeld, x_vRed, x_vTal, x_vLis)) G 31 (by decide) lb_O rfl wsE_ok 1 (by decide) wd30 gf_O_1 dE_leastMultiplier_95 ?_
          refine w_aload_n (pc := 98) (q := 3) G dE_leastMultiplier_98 rfl rfl ?_
          refine w_get (pc := 99) (v := .ref (κ.1 32)) (fs := fl_O κ (x_added, x_asked, x_eR, x_et, x_oR, r91, x_bR, x_bD, x_bQ, x_bW, x_bS, x_bM, x_bT, x_bn, x_tg, x_tb, x_ts, x_fg, x_fb, x_fV, x_fS, x_fn, x_cg, x_cb, x_cB, x_cq, x_vHeld, x_vRed, x_vTal, x_vLis)) G 31 (by decide) lb_O rfl wsE_ok 0 (by decide) wd29 gf_O_0 dE_leastMultiplier_99 ?_
          refine w_iload (pc := 102) (q := 4) G dE_leastMultiplier_102 rfl ?_
          obtain ⟨i104, h⟩ := gd_some h
          refine w_aald (pc := 104) (n := 4) (f := og κ 33 4) (b := κ.1 (33 + v4.toNatClampNeg)) G 32 (by decide) lo_oR i104 (og_at (ixlt i104)) dE_leastMultiplier_104 ?_
          refine w_aload_n (pc := 105) (q := 3) G dE_leastMultiplier_105 rfl rfl ?_
          refine w_get (pc := 106) (v := .ref (κ.1 37)) (fs := fl_O κ (x_added, x_asked, x_eR, x_et, x_oR, r91, x_bR, x_bD, x_bQ, x_bW, x_bS, x_bM, x_bT, x_bn, x_tg, x_tb, x_ts, x_fg, x_fb, x_fV, x_fS, x_fn, x_cg, x_cb, x_cB, x_cq, x_vHeld, x_vRed, x_vTal, x_vLis)) G 31 (by decide) lb_O rfl wsE_ok 1 (by decide) wd30 gf_O_1 dE_leastMultiplier_106 ?_
          refine w_iload (pc := 109) (q := 4) G dE_leastMultiplier_109 rfl ?_
          obtain ⟨i111, h⟩ := gd_some h
          refine w_lald (pc := 111) (n := 4) (f := r91) G 37 (by decide) lk_ot i111 dE_leastMultiplier_111 ?_
          refine w_lload (pc := 112) (q := 2) G dE_leastMultiplier_112 rfl ?_
          obtain ⟨z114, h⟩ := gd_some h
          refine w_ldiv (pc := 114) G dE_leastMultiplier_114 z114 ?_
          refine w_lneg (pc := 115) G dE_leastMultiplier_115 ?_
          obtain ⟨r116, e116, h⟩ := bd h
          refine w_callSN (pc := 116) (av := [.ref (κ.1 37), .ref (κ.1 (33 + v4.toNatClampNeg)), .long (-((r91 v4.toNatClampNeg) / ((x_oR v4.toNatClampNeg) v4.toNatClampNeg)))]) (rest := []) (v := none) (L' := (LM κ τ (LC κ (x_added, x_asked, x_eR, x_et, x_oR, r116, x_bR, x_bD, x_bQ, x_bW, x_bS, x_bM, x_bT, x_bn, x_tg, x_tb, x_ts, x_fg, x_fb, x_fV, x_fS, x_fn, x_cg, x_cb, x_cB, x_cq, x_vHeld, x_vRed, x_vTal, x_vLis)))) G cb_V_addMultiple_O_leastMultiplier wd186 wd185 (Mt.eqw up_ot (met_V_addMultiple κ (LM κ τ (LC κ (x_added, x_asked, x_eR, x_et, x_oR, r91, x_bR, x_bD, x_bQ, x_bW, x_bS, x_bM, x_bT, x_bn, x_tg, x_tb, x_ts, x_fg, x_fb, x_fV, x_fS, x_fn, x_cg, x_cb, x_cB, x_cq, x_vHeld, x_vRed, x_vTal, x_vLis))) F (-((r91 v4.toNatClampNeg) / ((x_oR v4.toNatClampNeg) v4.toNatClampNeg))) 37 (by decide) r91 lk_ot (33 + v4.toNatClampNeg) (nw_oR (ixlt i104)) (x_oR v4.toNatClampNeg) (lk_oR (ixlt i104)) (by have := (ixlt i104); omega) e116)) rfl rfl rfl (Nat.le_of_ble_eq_true rfl) dE_leastMultiplier_116 ?_
          refine w_iinc (pc := 119) (q0 := 4) (v := (v4 + 1)) (lv' := [(4, .int (v4 + 1)), (2, .long (v2 * (((x_oR v4.toNatClampNeg) v4.toNatClampNeg) / r68))), (7, .long (((x_oR v4.toNatClampNeg) v4.toNatClampNeg) / r68)), (5, .long ((x_oR v4.toNatClampNeg) v4.toNatClampNeg)), (0, .ref (κ.1 31))]) G dE_leastMultiplier_119 rfl rfl (by decide) rfl ?_
          refine w_goto (pc := 122) (tgt := 13) G dE_leastMultiplier_122 (by decide) ?_
          refine w_sub (lv' := [(0, .ref (κ.1 31)), (2, .long (v2 * (((x_oR v4.toNatClampNeg) v4.toNatClampNeg) / r68))), (4, .int (v4 + 1))]) [4, 1, 0] rfl ?_
          exact ih (v2 * (((x_oR v4.toNatClampNeg) v4.toNatClampNeg) / r68)) (v4 + 1) r116 out h K K2
set_option maxHeartbeats 8000000 in
set_option maxRecDepth 100000 in
theorem met_O_leastMultiplier (κ : ctx) (τ : MS) (F : Nat) {x_added : Nat → Nat → Int64} {x_asked : Nat → Int64} {x_eR : Nat → Nat → Int64} {x_et : Nat → Int64} {x_oR : Nat → Nat → Int64} {x_ot : Nat → Int64} {x_bR : Nat → Nat → Int64} {x_bD : Nat → Nat → Int64} {x_bQ : Nat → Int64} {x_bW : Nat → Int64} {x_bS : Nat → Nat → Int64} {x_bM : Nat → Nat → Int64} {x_bT : Nat → Int64} {x_bn : Int32} {x_tg : Nat → Int64} {x_tb : Int64} {x_ts : Nat → Int32} {x_fg : Nat → Int64} {x_fb : Int64} {x_fV : Nat → Nat → Int64} {x_fS : Nat → Int64} {x_fn : Int32} {x_cg : Nat → Int64} {x_cb : Int64} {x_cB : Nat → Int64} {x_cq : Int64} {x_vHeld : Int32} {x_vRed : Int32} {x_vTal : Int32} {x_vLis : Int32}  (q_g : Nat) (hq_g : q_g < NW) (y_g : Nat → Int64) (h_g : ∀ (x_oR : Nat → Nat → Int64) (x_ot : Nat → Int64), (LM κ τ (LC κ (x_added, x_asked, x_eR, x_et, x_oR, x_ot, x_bR, x_bD, x_bQ, x_bW, x_bS, x_bM, x_bT, x_bn, x_tg, x_tb, x_ts, x_fg, x_fb, x_fV, x_fS, x_fn, x_cg, x_cb, x_cB, x_cq, x_vHeld, x_vRed, x_vTal, x_vLis))) q_g = .inl (κ.2.2.1, 4, .inr (.inl y_g))) (ne_g : q_g ≠ 37) {out : Int64 × (Nat → Int64)} (h : E_leastMultiplier F  x_oR x_ot y_g  = some out) : Mt yE_leastMultiplier cE_leastMultiplier 9 (some .long) rm_O_leastMultiplier κ [.ref (κ.1 31), .ref (κ.1 q_g)] (LM κ τ (LC κ (x_added, x_asked, x_eR, x_et, x_oR, x_ot, x_bR, x_bD, x_bQ, x_bW, x_bS, x_bM, x_bT, x_bn, x_tg, x_tb, x_ts, x_fg, x_fb, x_fV, x_fS, x_fn, x_cg, x_cb, x_cB, x_cq, x_vHeld, x_vRed, x_vTal, x_vLis))) (some (.long out.1)) (LM κ τ (LC κ (x_added, x_asked, x_eR, x_et, x_oR, out.2, x_bR, x_bD, x_bQ, x_bW, x_bS, x_bM, x_bT, x_bn, x_tg, x_tb, x_ts, x_fg, x_fb, x_fV, x_fS, x_fn, x_cg, x_cb, x_cB, x_cq, x_vHeld, x_vRed, x_vTal, x_vLis))) := by
  refine Mt.of (by decide) (Nat.le_of_ble_eq_true rfl) ?_
  intro g G Fh
  unfold E_leastMultiplier at h
  show J g κ 9 0 [(0, .ref (κ.1 31)), (1, .ref (κ.1 q_g))] [] (LM κ τ (LC κ (x_added, x_asked, x_eR, x_et, x_oR, x_ot, x_bR, x_bD, x_bQ, x_bW, x_bS, x_bM, x_bT, x_bn, x_tg, x_tb, x_ts, x_fg, x_fb, x_fV, x_fS, x_fn, x_cg, x_cb, x_cB, x_cq, x_vHeld, x_vRed, x_vTal, x_vLis)))
  refine w_aload_n (pc := 0) (q := 1) G dE_leastMultiplier_0 rfl rfl ?_
  refine w_aload_n (pc := 1) (q := 0) G dE_leastMultiplier_1 rfl rfl ?_
  refine w_get (pc := 2) (v := .ref (κ.1 37)) (fs := fl_O κ (x_added, x_asked, x_eR, x_et, x_oR, x_ot, x_bR, x_bD, x_bQ, x_bW, x_bS, x_bM, x_bT, x_bn, x_tg, x_tb, x_ts, x_fg, x_fb, x_fV, x_fS, x_fn, x_cg, x_cb, x_cB, x_cq, x_vHeld, x_vRed, x_vTal, x_vLis)) G 31 (by decide) lb_O rfl wsE_ok 1 (by decide) wd30 gf_O_1 dE_leastMultiplier_2 ?_
  obtain ⟨r5, e5, h⟩ := bd h
  refine w_callSN (pc := 5) (av := [.ref (κ.1 q_g), .ref (κ.1 37)]) (rest := []) (v := none) (L' := (LM κ τ (LC κ (x_added, x_asked, x_eR, x_et, x_oR, r5, x_bR, x_bD, x_bQ, x_bW, x_bS, x_bM, x_bT, x_bn, x_tg, x_tb, x_ts, x_fg, x_fb, x_fV, x_fS, x_fn, x_cg, x_cb, x_cB, x_cq, x_vHeld, x_vRed, x_vTal, x_vLis)))) G cb_V_copy_O_leastMultiplier wd169 wd178 (Mt.eqw up_ot (met_V_copy κ (LM κ τ (LC κ (x_added, x_asked, x_eR, x_et, x_oR, x_ot, x_bR, x_bD, x_bQ, x_bW, x_bS, x_bM, x_bT, x_bn, x_tg, x_tb, x_ts, x_fg, x_fb, x_fV, x_fS, x_fn, x_cg, x_cb, x_cB, x_cq, x_vHeld, x_vRed, x_vTal, x_vLis))) F  q_g hq_g y_g (h_g x_oR x_ot) 37 (by decide) x_ot lk_ot (ne_g) e5)) rfl rfl rfl (Nat.le_of_ble_eq_true rfl) dE_leastMultiplier_5 ?_
  refine w_lconst (pc := 8) (v := (1 : Int64)) G dE_leastMultiplier_8 (by decide) ?_
  refine w_lstore_n (pc := 9) (lv' := [(2, .long (1 : Int64)), (0, .ref (κ.1 31)), (1, .ref (κ.1 q_g))]) G dE_leastMultiplier_9 rfl (by decide) rfl ?_
  refine w_iconst (pc := 10) (v := (0 : Int32)) G dE_leastMultiplier_10 (by decide) ?_
  refine w_istore (pc := 11) (lv' := [(4, .int (0 : Int32)), (2, .long (1 : Int64)), (0, .ref (κ.1 31)), (1, .ref (κ.1 q_g))]) G dE_leastMultiplier_11 (by decide) rfl ?_
  refine w_sub (lv' := [(0, .ref (κ.1 31)), (2, .long (1 : Int64)), (4, .int (0 : Int32))]) [2, 1, 0] rfl ?_
  obtain ⟨o13_15, eo13_15, h⟩ := bd h
  rcases o13_15 with o13_15 | o13_15
  · refine lO_leastMultiplier_13_ok G τ F  q_g hq_g y_g h_g ne_g  F (1 : Int64) (0 : Int32) r5 (.inl o13_15) eo13_15 (fun e he => ?_) (fun r he => by cases he)
    cases he
    dsimp only at h
    refine w_lload_n (pc := 125) (q := 0) G dE_leastMultiplier_125 rfl rfl ?_
    obtain rfl := Option.some.inj h
    exact w_lret (pc := 126) G dE_leastMultiplier_126 Fh
  · refine lO_leastMultiplier_13_ok G τ F  q_g hq_g y_g h_g ne_g  F (1 : Int64) (0 : Int32) r5 (.inr o13_15) eo13_15 (fun e he => by cases he) (fun r he => ?_)
    cases he
    dsimp only at h
    obtain rfl := Option.some.inj h
    exact Fh
def rm_O_holds : Room := { frames := 3, cells := 0, slots := 0, locals := 128 }
theorem cb_O_leastMultiplier_O_holds : CB yE_leastMultiplier cE_leastMultiplier 9 (some .long) rm_O_leastMultiplier rm_O_holds 1 := ⟨wd324, wd2, by decide +kernel, rfl, rfl, by decide⟩
set_option maxHeartbeats 8000000 in
set_option maxRecDepth 100000 in
theorem met_O_holds (κ : ctx) (τ : MS) (F : Nat) {x_added : Nat → Nat → Int64} {x_asked : Nat → Int64} {x_eR : Nat → Nat → Int64} {x_et : Nat → Int64} {x_oR : Nat → Nat → Int64} {x_ot : Nat → Int64} {x_bR : Nat → Nat → Int64} {x_bD : Nat → Nat → Int64} {x_bQ : Nat → Int64} {x_bW : Nat → Int64} {x_bS : Nat → Nat → Int64} {x_bM : Nat → Nat → Int64} {x_bT : Nat → Int64} {x_bn : Int32} {x_tg : Nat → Int64} {x_tb : Int64} {x_ts : Nat → Int32} {x_fg : Nat → Int64} {x_fb : Int64} {x_fV : Nat → Nat → Int64} {x_fS : Nat → Int64} {x_fn : Int32} {x_cg : Nat → Int64} {x_cb : Int64} {x_cB : Nat → Int64} {x_cq : Int64} {x_vHeld : Int32} {x_vRed : Int32} {x_vTal : Int32} {x_vLis : Int32}  (q_g : Nat) (hq_g : q_g < NW) (y_g : Nat → Int64) (h_g : ∀ (x_oR : Nat → Nat → Int64) (x_ot : Nat → Int64), (LM κ τ (LC κ (x_added, x_asked, x_eR, x_et, x_oR, x_ot, x_bR, x_bD, x_bQ, x_bW, x_bS, x_bM, x_bT, x_bn, x_tg, x_tb, x_ts, x_fg, x_fb, x_fV, x_fS, x_fn, x_cg, x_cb, x_cB, x_cq, x_vHeld, x_vRed, x_vTal, x_vLis))) q_g = .inl (κ.2.2.1, 4, .inr (.inl y_g))) (ne_g : q_g ≠ 37) {out : Int32 × (Nat → Int64)} (h : E_holds F  x_oR x_ot y_g  = some out) : Mt yE_holds cE_holds 2 (some .boolean) rm_O_holds κ [.ref (κ.1 31), .ref (κ.1 q_g)] (LM κ τ (LC κ (x_added, x_asked, x_eR, x_et, x_oR, x_ot, x_bR, x_bD, x_bQ, x_bW, x_bS, x_bM, x_bT, x_bn, x_tg, x_tb, x_ts, x_fg, x_fb, x_fV, x_fS, x_fn, x_cg, x_cb, x_cB, x_cq, x_vHeld, x_vRed, x_vTal, x_vLis))) (some (.int out.1)) (LM κ τ (LC κ (x_added, x_asked, x_eR, x_et, x_oR, out.2, x_bR, x_bD, x_bQ, x_bW, x_bS, x_bM, x_bT, x_bn, x_tg, x_tb, x_ts, x_fg, x_fb, x_fV, x_fS, x_fn, x_cg, x_cb, x_cB, x_cq, x_vHeld, x_vRed, x_vTal, x_vLis))) := by
  refine Mt.of (by decide) (Nat.le_of_ble_eq_true rfl) ?_
  intro g G Fh
  unfold E_holds at h
  show J g κ 2 0 [(0, .ref (κ.1 31)), (1, .ref (κ.1 q_g))] [] (LM κ τ (LC κ (x_added, x_asked, x_eR, x_et, x_oR, x_ot, x_bR, x_bD, x_bQ, x_bW, x_bS, x_bM, x_bT, x_bn, x_tg, x_tb, x_ts, x_fg, x_fb, x_fV, x_fS, x_fn, x_cg, x_cb, x_cB, x_cq, x_vHeld, x_vRed, x_vTal, x_vLis)))
  refine w_aload_n (pc := 0) (q := 0) G dE_holds_0 rfl rfl ?_
  refine w_aload_n (pc := 1) (q := 1) G dE_holds_1 rfl rfl ?_
  obtain ⟨r2, e2, h⟩ := bd h
  refine w_callV (pc := 2) (av := [.ref (κ.1 q_g)]) (rest := []) (v := some (.long r2.1)) (L' := (LM κ τ (LC κ (x_added, x_asked, x_eR, x_et, x_oR, r2.2, x_bR, x_bD, x_bQ, x_bW, x_bS, x_bM, x_bT, x_bn, x_tg, x_tb, x_ts, x_fg, x_fb, x_fV, x_fS, x_fn, x_cg, x_cb, x_cB, x_cq, x_vHeld, x_vRed, x_vTal, x_vLis)))) (T := TE) (fs := fl_O κ (x_added, x_asked, x_eR, x_et, x_oR, x_ot, x_bR, x_bD, x_bQ, x_bW, x_bS, x_bM, x_bT, x_bn, x_tg, x_tb, x_ts, x_fg, x_fb, x_fV, x_fS, x_fn, x_cg, x_cb, x_cB, x_cq, x_vHeld, x_vRed, x_vTal, x_vLis)) G 31 2 2 (by decide) lb_O rfl cb_O_leastMultiplier_O_holds wd322 wd323 wd321 (met_O_leastMultiplier κ τ F  q_g hq_g y_g h_g ne_g e2) rfl rfl rfl (Nat.le_of_ble_eq_true rfl) dE_holds_2 ?_
  refine w_lconst (pc := 5) (v := (1 : Int64)) G dE_holds_5 (by decide) ?_
  refine w_lc_ne (pc := 6) (tgt := 14) G dE_holds_6 dE_holds_7 (by decide) (fun c6 => ?_) (fun c6 => ?_)
  · have h := if_t c6 h
    refine w_iconst (pc := 10) (v := (1 : Int32)) G dE_holds_10 (by decide) ?_
    refine w_goto (pc := 11) (tgt := 15) G dE_holds_11 (by decide) ?_
    obtain rfl := Option.some.inj h
    exact w_zret (pc := 15) G rfl dE_holds_15 Fh
  · have h := if_f c6 h
    refine w_iconst (pc := 14) (v := (0 : Int32)) G dE_holds_14 (by decide) ?_
    obtain rfl := Option.some.inj h
    exact w_zret (pc := 15) G rfl dE_holds_15 Fh
