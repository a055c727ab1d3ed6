/-! Layer B: the calls that need no basis, as the law asks for them -/
set_option maxHeartbeats 4000000 in
set_option maxRecDepth 100000 in
theorem st_has {PB : List Z4 → (Nat → Nat → Int64) → (Nat → Nat → Int64) → (Nat → Int64) → (Nat → Int64) → Int32 → Prop} {PT : List Z4 → (Nat → Int32) → Prop} {PL : List Z4 → (Nat → Nat → Int64) → Int32 → Prop} {QL : List Z4 → (Nat → Int64) → Prop} {QM : List Z4 → (Nat → Int32) → Prop} : St (InvP PB PT PL QL QM) 4 Value.int (some .boolean) yV_has cV_has 5 rm_V_has yM_has cM_has 5 rm_M_has := by
  intro σ τ hI is hl
  obtain ⟨a, b, c, d, rfl⟩ := list4 hl
  obtain ⟨x_added, x_asked, x_eR, x_et, x_oR, x_ot, x_bR, x_bD, x_bQ, x_bW, x_bS, x_bM, x_bT, x_bn, x_tg, x_tb, x_ts, x_fg, x_fb, x_fV, x_fS, x_fn, x_cg, x_cb, x_cB, x_cq, x_vHeld, x_vRed, x_vTal, x_vLis⟩ := σ
  obtain ⟨y_many, y_generator, y_known, y_without, y_rows, y_row, y_pivot, y_fresh, y_multiple, y_last, y_made, y_settled, y_point, y_limit, y_mode, y_counted, y_listed, y_held, y_first, y_squares, y_wanted, y_spanned, y_span, y_minima, y_measured, y_found, y_any⟩ := τ
  obtain ⟨n, G, hn, h9, hC, hM⟩ := hI
  have hC : InvC PB PT PL n G x_added x_eR x_bR x_bD x_bQ x_bW x_bn x_tg x_ts x_fg x_fV x_fn x_vHeld x_vRed x_vTal x_vLis := hC
  have hM : InvM QL QM n G y_many y_generator y_known y_without y_rows y_row y_pivot y_listed y_first y_measured y_minima := hM
  obtain ⟨C1, C2, C3, C4, C5, C6, C7, C8⟩ := id hC
  obtain ⟨M1, M2, M3, M4, M5⟩ := id hM
  obtain ⟨r, t1, t2, k2, w2, rs2, ro2, pi2, fr2, e1, e2, hM2⟩ := has_eq (asked := x_asked) (et := x_et) (fresh := y_fresh) hn h9 C3 hM a b c d
  exact ⟨r, (x_added, t1, x_eR, t2, x_oR, x_ot, x_bR, x_bD, x_bQ, x_bW, x_bS, x_bM, x_bT, x_bn, x_tg, x_tb, x_ts, x_fg, x_fb, x_fV, x_fS, x_fn, x_cg, x_cb, x_cB, x_cq, x_vHeld, x_vRed, x_vTal, x_vLis), (y_many, y_generator, k2, w2, rs2, ro2, pi2, fr2, y_multiple, y_last, y_made, y_settled, y_point, y_limit, y_mode, y_counted, y_listed, y_held, y_first, y_squares, y_wanted, y_spanned, y_span, y_minima, y_measured, y_found, y_any), ⟨n, G, hn, h9, hC, hM2⟩, fun κ => met_V_has κ _ 1000 a b c d e1, fun κ => met_M_has κ _ 1000 a b c d e2⟩
set_option maxHeartbeats 4000000 in
set_option maxRecDepth 100000 in
theorem st_order {PB : List Z4 → (Nat → Nat → Int64) → (Nat → Nat → Int64) → (Nat → Int64) → (Nat → Int64) → Int32 → Prop} {PT : List Z4 → (Nat → Int32) → Prop} {PL : List Z4 → (Nat → Nat → Int64) → Int32 → Prop} {QL : List Z4 → (Nat → Int64) → Prop} {QM : List Z4 → (Nat → Int32) → Prop} : St (InvP PB PT PL QL QM) 4 Value.long (some .long) yV_order cV_order 5 rm_V_order yM_order cM_order 5 rm_M_order := by
  intro σ τ hI is hl
  obtain ⟨a, b, c, d, rfl⟩ := list4 hl
  obtain ⟨x_added, x_asked, x_eR, x_et, x_oR, x_ot, x_bR, x_bD, x_bQ, x_bW, x_bS, x_bM, x_bT, x_bn, x_tg, x_tb, x_ts, x_fg, x_fb, x_fV, x_fS, x_fn, x_cg, x_cb, x_cB, x_cq, x_vHeld, x_vRed, x_vTal, x_vLis⟩ := σ
  obtain ⟨y_many, y_generator, y_known, y_without, y_rows, y_row, y_pivot, y_fresh, y_multiple, y_last, y_made, y_settled, y_point, y_limit, y_mode, y_counted, y_listed, y_held, y_first, y_squares, y_wanted, y_spanned, y_span, y_minima, y_measured, y_found, y_any⟩ := τ
  obtain ⟨n, G, hn, h9, hC, hM⟩ := hI
  have hC : InvC PB PT PL n G x_added x_eR x_bR x_bD x_bQ x_bW x_bn x_tg x_ts x_fg x_fV x_fn x_vHeld x_vRed x_vTal x_vLis := hC
  have hM : InvM QL QM n G y_many y_generator y_known y_without y_rows y_row y_pivot y_listed y_first y_measured y_minima := hM
  obtain ⟨C1, C2, C3, C4, C5, C6, C7, C8⟩ := id hC
  obtain ⟨M1, M2, M3, M4, M5⟩ := id hM
  obtain ⟨r, t1, t2, k2, w2, rs2, ro2, pi2, fr2, e1, e2, hM2⟩ := order_eq (asked := x_asked) (et := x_et) (fresh := y_fresh) hn h9 C3 hM a b c d
  exact ⟨r, (x_added, t1, x_eR, t2, x_oR, x_ot, x_bR, x_bD, x_bQ, x_bW, x_bS, x_bM, x_bT, x_bn, x_tg, x_tb, x_ts, x_fg, x_fb, x_fV, x_fS, x_fn, x_cg, x_cb, x_cB, x_cq, x_vHeld, x_vRed, x_vTal, x_vLis), (y_many, y_generator, k2, w2, rs2, ro2, pi2, fr2, y_multiple, y_last, y_made, y_settled, y_point, y_limit, y_mode, y_counted, y_listed, y_held, y_first, y_squares, y_wanted, y_spanned, y_span, y_minima, y_measured, y_found, y_any), ⟨n, G, hn, h9, hC, hM2⟩, fun κ => met_V_order κ _ 1000 a b c d e1, fun κ => met_M_order κ _ 1000 a b c d e2⟩
set_option maxHeartbeats 4000000 in
set_option maxRecDepth 100000 in
theorem st_rank {PB : List Z4 → (Nat → Nat → Int64) → (Nat → Nat → Int64) → (Nat → Int64) → (Nat → Int64) → Int32 → Prop} {PT : List Z4 → (Nat → Int32) → Prop} {PL : List Z4 → (Nat → Nat → Int64) → Int32 → Prop} {QL : List Z4 → (Nat → Int64) → Prop} {QM : List Z4 → (Nat → Int32) → Prop} : St (InvP PB PT PL QL QM) 0 Value.int (some .int) yV_rank cV_rank 1 rm_V_rank yM_rank cM_rank 1 rm_M_rank := by
  intro σ τ hI is hl
  obtain rfl := list0 hl
  obtain ⟨x_added, x_asked, x_eR, x_et, x_oR, x_ot, x_bR, x_bD, x_bQ, x_bW, x_bS, x_bM, x_bT, x_bn, x_tg, x_tb, x_ts, x_fg, x_fb, x_fV, x_fS, x_fn, x_cg, x_cb, x_cB, x_cq, x_vHeld, x_vRed, x_vTal, x_vLis⟩ := σ
  obtain ⟨y_many, y_generator, y_known, y_without, y_rows, y_row, y_pivot, y_fresh, y_multiple, y_last, y_made, y_settled, y_point, y_limit, y_mode, y_counted, y_listed, y_held, y_first, y_squares, y_wanted, y_spanned, y_span, y_minima, y_measured, y_found, y_any⟩ := τ
  obtain ⟨n, G, hn, h9, hC, hM⟩ := hI
  have hC : InvC PB PT PL n G x_added x_eR x_bR x_bD x_bQ x_bW x_bn x_tg x_ts x_fg x_fV x_fn x_vHeld x_vRed x_vTal x_vLis := hC
  have hM : InvM QL QM n G y_many y_generator y_known y_without y_rows y_row y_pivot y_listed y_first y_measured y_minima := hM
  obtain ⟨C1, C2, C3, C4, C5, C6, C7, C8⟩ := id hC
  obtain ⟨M1, M2, M3, M4, M5⟩ := id hM
  obtain ⟨r, k2, w2, rs2, ro2, pi2, fr2, e1, e2, hM2⟩ := rank_eq (fresh := y_fresh) hn h9 C3 hM
  exact ⟨r, (x_added, x_asked, x_eR, x_et, x_oR, x_ot, x_bR, x_bD, x_bQ, x_bW, x_bS, x_bM, x_bT, x_bn, x_tg, x_tb, x_ts, x_fg, x_fb, x_fV, x_fS, x_fn, x_cg, x_cb, x_cB, x_cq, x_vHeld, x_vRed, x_vTal, x_vLis), (y_many, y_generator, k2, w2, rs2, ro2, pi2, fr2, y_multiple, y_last, y_made, y_settled, y_point, y_limit, y_mode, y_counted, y_listed, y_held, y_first, y_squares, y_wanted, y_spanned, y_span, y_minima, y_measured, y_found, y_any), ⟨n, G, hn, h9, hC, hM2⟩, fun κ => met_V_rank κ _ 1000 e1, fun κ => met_M_rank κ _ 1000 e2⟩
set_option maxHeartbeats 4000000 in
set_option maxRecDepth 100000 in
theorem st_spare {PB : List Z4 → (Nat → Nat → Int64) → (Nat → Nat → Int64) → (Nat → Int64) → (Nat → Int64) → Int32 → Prop} {PT : List Z4 → (Nat → Int32) → Prop} {PL : List Z4 → (Nat → Nat → Int64) → Int32 → Prop} {QL : List Z4 → (Nat → Int64) → Prop} {QM : List Z4 → (Nat → Int32) → Prop} : St (InvP PB PT PL QL QM) 1 Value.int (some .boolean) yV_spare cV_spare 2 rm_V_spare yM_spare cM_spare 2 rm_M_spare := by
  intro σ τ hI is hl
  obtain ⟨a, rfl⟩ := list1 hl
  obtain ⟨x_added, x_asked, x_eR, x_et, x_oR, x_ot, x_bR, x_bD, x_bQ, x_bW, x_bS, x_bM, x_bT, x_bn, x_tg, x_tb, x_ts, x_fg, x_fb, x_fV, x_fS, x_fn, x_cg, x_cb, x_cB, x_cq, x_vHeld, x_vRed, x_vTal, x_vLis⟩ := σ
  obtain ⟨y_many, y_generator, y_known, y_without, y_rows, y_row, y_pivot, y_fresh, y_multiple, y_last, y_made, y_settled, y_point, y_limit, y_mode, y_counted, y_listed, y_held, y_first, y_squares, y_wanted, y_spanned, y_span, y_minima, y_measured, y_found, y_any⟩ := τ
  obtain ⟨n, G, hn, h9, hC, hM⟩ := hI
  have hC : InvC PB PT PL n G x_added x_eR x_bR x_bD x_bQ x_bW x_bn x_tg x_ts x_fg x_fV x_fn x_vHeld x_vRed x_vTal x_vLis := hC
  have hM : InvM QL QM n G y_many y_generator y_known y_without y_rows y_row y_pivot y_listed y_first y_measured y_minima := hM
  obtain ⟨C1, C2, C3, C4, C5, C6, C7, C8⟩ := id hC
  obtain ⟨M1, M2, M3, M4, M5⟩ := id hM
  obtain ⟨r, t1, t2, k2, w2, rs2, ro2, pi2, fr2, e1, e2, hM2⟩ := spare_eq (oR := x_oR) (ot := x_ot) (fresh := y_fresh) hn h9 C1 C2 hM a
  exact ⟨r, (x_added, x_asked, x_eR, x_et, t1, t2, x_bR, x_bD, x_bQ, x_bW, x_bS, x_bM, x_bT, x_bn, x_tg, x_tb, x_ts, x_fg, x_fb, x_fV, x_fS, x_fn, x_cg, x_cb, x_cB, x_cq, x_vHeld, x_vRed, x_vTal, x_vLis), (y_many, y_generator, k2, w2, rs2, ro2, pi2, fr2, y_multiple, y_last, y_made, y_settled, y_point, y_limit, y_mode, y_counted, y_listed, y_held, y_first, y_squares, y_wanted, y_spanned, y_span, y_minima, y_measured, y_found, y_any), ⟨n, G, hn, h9, hC, hM2⟩, fun κ => met_V_spare κ _ 1000 a e1, fun κ => met_M_spare κ _ 1000 a e2⟩
set_option maxHeartbeats 4000000 in
set_option maxRecDepth 100000 in
theorem st_generators {PB : List Z4 → (Nat → Nat → Int64) → (Nat → Nat → Int64) → (Nat → Int64) → (Nat → Int64) → Int32 → Prop} {PT : List Z4 → (Nat → Int32) → Prop} {PL : List Z4 → (Nat → Nat → Int64) → Int32 → Prop} {QL : List Z4 → (Nat → Int64) → Prop} {QM : List Z4 → (Nat → Int32) → Prop} : St (InvP PB PT PL QL QM) 0 Value.int (some .int) yV_generators cV_generators 1 rm_V_generators yM_generators cM_generators 1 rm_M_generators := by
  intro σ τ hI is hl
  obtain rfl := list0 hl
  obtain ⟨x_added, x_asked, x_eR, x_et, x_oR, x_ot, x_bR, x_bD, x_bQ, x_bW, x_bS, x_bM, x_bT, x_bn, x_tg, x_tb, x_ts, x_fg, x_fb, x_fV, x_fS, x_fn, x_cg, x_cb, x_cB, x_cq, x_vHeld, x_vRed, x_vTal, x_vLis⟩ := σ
  obtain ⟨y_many, y_generator, y_known, y_without, y_rows, y_row, y_pivot, y_fresh, y_multiple, y_last, y_made, y_settled, y_point, y_limit, y_mode, y_counted, y_listed, y_held, y_first, y_squares, y_wanted, y_spanned, y_span, y_minima, y_measured, y_found, y_any⟩ := τ
  obtain ⟨n, G, hn, h9, hC, hM⟩ := hI
  have hC : InvC PB PT PL n G x_added x_eR x_bR x_bD x_bQ x_bW x_bn x_tg x_ts x_fg x_fV x_fn x_vHeld x_vRed x_vTal x_vLis := hC
  have hM : InvM QL QM n G y_many y_generator y_known y_without y_rows y_row y_pivot y_listed y_first y_measured y_minima := hM
  obtain ⟨C1, C2, C3, C4, C5, C6, C7, C8⟩ := id hC
  obtain ⟨M1, M2, M3, M4, M5⟩ := id hM
  have e1 : V_generators 1000 x_vHeld = some (nI n) := by rw [C1]; rfl
  have e2 : M_generators 1000 y_many = some (nI n) := by rw [M1]; rfl
  exact ⟨nI n, (x_added, x_asked, x_eR, x_et, x_oR, x_ot, x_bR, x_bD, x_bQ, x_bW, x_bS, x_bM, x_bT, x_bn, x_tg, x_tb, x_ts, x_fg, x_fb, x_fV, x_fS, x_fn, x_cg, x_cb, x_cB, x_cq, x_vHeld, x_vRed, x_vTal, x_vLis), (y_many, y_generator, y_known, y_without, y_rows, y_row, y_pivot, y_fresh, y_multiple, y_last, y_made, y_settled, y_point, y_limit, y_mode, y_counted, y_listed, y_held, y_first, y_squares, y_wanted, y_spanned, y_span, y_minima, y_measured, y_found, y_any), ⟨n, G, hn, h9, hC, hM⟩, fun κ => met_V_generators κ _ 1000 e1, fun κ => met_M_generators κ _ 1000 e2⟩
set_option maxHeartbeats 4000000 in
set_option maxRecDepth 100000 in
theorem st_drop {PB : List Z4 → (Nat → Nat → Int64) → (Nat → Nat → Int64) → (Nat → Int64) → (Nat → Int64) → Int32 → Prop} {PT : List Z4 → (Nat → Int32) → Prop} {PL : List Z4 → (Nat → Nat → Int64) → Int32 → Prop} {QL : List Z4 → (Nat → Int64) → Prop} {QM : List Z4 → (Nat → Int32) → Prop} : St (InvP PB PT PL QL QM) 0 Value.int (some .boolean) yV_drop cV_drop 1 rm_V_drop yM_drop cM_drop 1 rm_M_drop := by
  intro σ τ hI is hl
  obtain rfl := list0 hl
  obtain ⟨x_added, x_asked, x_eR, x_et, x_oR, x_ot, x_bR, x_bD, x_bQ, x_bW, x_bS, x_bM, x_bT, x_bn, x_tg, x_tb, x_ts, x_fg, x_fb, x_fV, x_fS, x_fn, x_cg, x_cb, x_cB, x_cq, x_vHeld, x_vRed, x_vTal, x_vLis⟩ := σ
  obtain ⟨y_many, y_generator, y_known, y_without, y_rows, y_row, y_pivot, y_fresh, y_multiple, y_last, y_made, y_settled, y_point, y_limit, y_mode, y_counted, y_listed, y_held, y_first, y_squares, y_wanted, y_spanned, y_span, y_minima, y_measured, y_found, y_any⟩ := τ
  obtain ⟨n, G, hn, h9, hC, hM⟩ := hI
  have hC : InvC PB PT PL n G x_added x_eR x_bR x_bD x_bQ x_bW x_bn x_tg x_ts x_fg x_fV x_fn x_vHeld x_vRed x_vTal x_vLis := hC
  have hM : InvM QL QM n G y_many y_generator y_known y_without y_rows y_row y_pivot y_listed y_first y_measured y_minima := hM
  obtain ⟨C1, C2, C3, C4, C5, C6, C7, C8⟩ := id hC
  obtain ⟨M1, M2, M3, M4, M5⟩ := id hM
  rcases drop_eq (eR := x_eR) (et := x_et) (vRed := x_vRed) (vTal := x_vTal) (vLis := x_vLis) (known := y_known) (listed := y_listed) (measured := y_measured) hn h9 C1 C2 M1 with ⟨h0, e1, e2⟩ | ⟨m, eR2, et2, h0, e1, e2, hE2⟩
  · exact ⟨0, (x_added, x_asked, x_eR, x_et, x_oR, x_ot, x_bR, x_bD, x_bQ, x_bW, x_bS, x_bM, x_bT, x_bn, x_tg, x_tb, x_ts, x_fg, x_fb, x_fV, x_fS, x_fn, x_cg, x_cb, x_cB, x_cq, x_vHeld, x_vRed, x_vTal, x_vLis), (y_many, y_generator, y_known, y_without, y_rows, y_row, y_pivot, y_fresh, y_multiple, y_last, y_made, y_settled, y_point, y_limit, y_mode, y_counted, y_listed, y_held, y_first, y_squares, y_wanted, y_spanned, y_span, y_minima, y_measured, y_found, y_any), ⟨n, G, hn, h9, hC, hM⟩, fun κ => met_V_drop κ _ 1000 e1, fun κ => met_M_drop κ _ 1000 e2⟩
  · refine ⟨1, (x_added, x_asked, eR2, et2, x_oR, x_ot, x_bR, x_bD, x_bQ, x_bW, x_bS, x_bM, x_bT, x_bn, x_tg, x_tb, x_ts, x_fg, x_fb, x_fV, x_fS, x_fn, x_cg, x_cb, x_cB, x_cq, nI m, 0, 0, 0), (nI m, y_generator, 0, y_without, y_rows, y_row, y_pivot, y_fresh, y_multiple, y_last, y_made, y_settled, y_point, y_limit, y_mode, y_counted, 0, y_held, y_first, y_squares, y_wanted, y_spanned, y_span, y_minima, 0, y_found, y_any), ⟨m, G, by omega, fun g hg => h9 g (by omega), ⟨rfl, fun g hg => C2 g (by omega), hE2, fun h => absurd rfl h, fun h => absurd rfl h, fun h => absurd rfl h, C7, C8⟩, ⟨rfl, M2, fun h => absurd rfl h, fun h => absurd rfl h, fun h => absurd rfl h⟩⟩, fun κ => met_V_drop κ _ 1000 e1, fun κ => met_M_drop κ _ 1000 e2⟩
set_option maxHeartbeats 4000000 in
set_option maxRecDepth 100000 in
theorem st_add {PB : List Z4 → (Nat → Nat → Int64) → (Nat → Nat → Int64) → (Nat → Int64) → (Nat → Int64) → Int32 → Prop} {PT : List Z4 → (Nat → Int32) → Prop} {PL : List Z4 → (Nat → Nat → Int64) → Int32 → Prop} {QL : List Z4 → (Nat → Int64) → Prop} {QM : List Z4 → (Nat → Int32) → Prop} : St (InvP PB PT PL QL QM) 4 Value.int (some .int) yV_add cV_add 5 rm_V_add yM_add cM_add 5 rm_M_add := by
  intro σ τ hI is hl
  obtain ⟨a, b, c, d, rfl⟩ := list4 hl
  obtain ⟨x_added, x_asked, x_eR, x_et, x_oR, x_ot, x_bR, x_bD, x_bQ, x_bW, x_bS, x_bM, x_bT, x_bn, x_tg, x_tb, x_ts, x_fg, x_fb, x_fV, x_fS, x_fn, x_cg, x_cb, x_cB, x_cq, x_vHeld, x_vRed, x_vTal, x_vLis⟩ := σ
  obtain ⟨y_many, y_generator, y_known, y_without, y_rows, y_row, y_pivot, y_fresh, y_multiple, y_last, y_made, y_settled, y_point, y_limit, y_mode, y_counted, y_listed, y_held, y_first, y_squares, y_wanted, y_spanned, y_span, y_minima, y_measured, y_found, y_any⟩ := τ
  obtain ⟨n, G, hn, h9, hC, hM⟩ := hI
  have hC : InvC PB PT PL n G x_added x_eR x_bR x_bD x_bQ x_bW x_bn x_tg x_ts x_fg x_fV x_fn x_vHeld x_vRed x_vTal x_vLis := hC
  have hM : InvM QL QM n G y_many y_generator y_known y_without y_rows y_row y_pivot y_listed y_first y_measured y_minima := hM
  obtain ⟨C1, C2, C3, C4, C5, C6, C7, C8⟩ := id hC
  obtain ⟨M1, M2, M3, M4, M5⟩ := id hM
  rcases add_eq (added := x_added) (asked := x_asked) (et := x_et) (vRed := x_vRed) (vTal := x_vTal) (vLis := x_vLis) (known := y_known) (listed := y_listed) (measured := y_measured) hn h9 C1 C3 M1 M2 a b c d with ⟨r, t1, e1, e2⟩ | ⟨t1, eR2, et2, ad2, h6, e1, e2, hz, h92, hE2⟩
  · exact ⟨r, (x_added, t1, x_eR, x_et, x_oR, x_ot, x_bR, x_bD, x_bQ, x_bW, x_bS, x_bM, x_bT, x_bn, x_tg, x_tb, x_ts, x_fg, x_fb, x_fV, x_fS, x_fn, x_cg, x_cb, x_cB, x_cq, x_vHeld, x_vRed, x_vTal, x_vLis), (y_many, y_generator, y_known, y_without, y_rows, y_row, y_pivot, y_fresh, y_multiple, y_last, y_made, y_settled, y_point, y_limit, y_mode, y_counted, y_listed, y_held, y_first, y_squares, y_wanted, y_spanned, y_span, y_minima, y_measured, y_found, y_any), ⟨n, G, hn, h9, hC, hM⟩, fun κ => met_V_add κ _ 1000 a b c d e1, fun κ => met_M_add κ _ 1000 a b c d e2⟩
  · subst M2
    have hgl : gl (gen4 y_generator n a b c d) (-1) (n + 1) = i4 a b c d :: gl y_generator (-1) n := by
      show (if nI n = -1 then _ else _) = _
      rw [if_neg (not_m1 (by omega)), gv_gen4, gl_cong (fun g hg => gv_gen4_lt hg)]
    refine ⟨nI n, (va_up x_added n ad2, t1, eR2, et2, x_oR, x_ot, x_bR, x_bD, x_bQ, x_bW, x_bS, x_bM, x_bT, x_bn, x_tg, x_tb, x_ts, x_fg, x_fb, x_fV, x_fS, x_fn, x_cg, x_cb, x_cB, x_cq, nI (n + 1), 0, 0, 0), (nI (n + 1), gen4 y_generator n a b c d, 0, y_without, y_rows, y_row, y_pivot, y_fresh, y_multiple, y_last, y_made, y_settled, y_point, y_limit, y_mode, y_counted, 0, y_held, y_first, y_squares, y_wanted, y_spanned, y_span, y_minima, 0, y_found, y_any), ⟨n + 1, gen4 y_generator n a b c d, by omega, fun g hg => ?_, ⟨rfl, fun g hg => ?_, ?_, fun h => absurd rfl h, fun h => absurd rfl h, fun h => absurd rfl h, C7, C8⟩, ⟨rfl, rfl, fun h => absurd rfl h, fun h => absurd rfl h, fun h => absurd rfl h⟩⟩, fun κ => met_V_add κ _ 1000 a b c d e1, fun κ => met_M_add κ _ 1000 a b c d e2⟩
    · by_cases e : g = n
      · rw [e, gv_gen4]; exact h92
      · rw [gv_gen4_lt (by omega)]; exact h9 g (by omega)
    · show z4 (va_up x_added n ad2 g) = _
      by_cases e : g = n
      · rw [e, va_up_self, gv_gen4]; exact hz
      · rw [va_up_ne _ _ e, gv_gen4_lt (by omega)]; exact C2 g (by omega)
    · rw [hgl]; exact hE2
