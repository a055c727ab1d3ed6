def rm_M_two : Room := { frames := 0, cells := 0, slots := 0, locals := 0 }
theorem dM_two_0 : decode cM_two 0 = .ok (.aload_n 0, 1) := by decide +kernel
theorem dM_two_1 : decode cM_two 1 = .ok (.getfield 13, 3) := by decide +kernel
theorem dM_two_4 : decode cM_two 4 = .ok (.iconst 4, 1) := by decide +kernel
theorem dM_two_5 : decode cM_two 5 = .ok (.iload_n 1, 1) := by decide +kernel
theorem dM_two_6 : decode cM_two 6 = .ok (.imul, 1) := by decide +kernel
theorem dM_two_7 : decode cM_two 7 = .ok (.iload_n 3, 1) := by decide +kernel
theorem dM_two_8 : decode cM_two 8 = .ok (.iadd, 1) := by decide +kernel
theorem dM_two_9 : decode cM_two 9 = .ok (.laload, 1) := by decide +kernel
theorem dM_two_10 : decode cM_two 10 = .ok (.aload_n 0, 1) := by decide +kernel
theorem dM_two_11 : decode cM_two 11 = .ok (.getfield 13, 3) := by decide +kernel
theorem dM_two_14 : decode cM_two 14 = .ok (.iconst 4, 1) := by decide +kernel
theorem dM_two_15 : decode cM_two 15 = .ok (.iload_n 2, 1) := by decide +kernel
theorem dM_two_16 : decode cM_two 16 = .ok (.imul, 1) := by decide +kernel
theorem dM_two_17 : decode cM_two 17 = .ok (.iload 4, 2) := by decide +kernel
theorem dM_two_19 : decode cM_two 19 = .ok (.iadd, 1) := by decide +kernel
theorem dM_two_20 : decode cM_two 20 = .ok (.laload, 1) := by decide +kernel
theorem dM_two_21 : decode cM_two 21 = .ok (.lmul, 1) := by decide +kernel
theorem dM_two_22 : decode cM_two 22 = .ok (.aload_n 0, 1) := by decide +kernel
theorem dM_two_23 : decode cM_two 23 = .ok (.getfield 13, 3) := by decide +kernel
theorem dM_two_26 : decode cM_two 26 = .ok (.iconst 4, 1) := by decide +kernel
theorem dM_two_27 : decode cM_two 27 = .ok (.iload_n 1, 1) := by decide +kernel
theorem dM_two_28 : decode cM_two 28 = .ok (.imul, 1) := by decide +kernel
theorem dM_two_29 : decode cM_two 29 = .ok (.iload 4, 2) := by decide +kernel
theorem dM_two_31 : decode cM_two 31 = .ok (.iadd, 1) := by decide +kernel
theorem dM_two_32 : decode cM_two 32 = .ok (.laload, 1) := by decide +kernel
theorem dM_two_33 : decode cM_two 33 = .ok (.aload_n 0, 1) := by decide +kernel
theorem dM_two_34 : decode cM_two 34 = .ok (.getfield 13, 3) := by decide +kernel
theorem dM_two_37 : decode cM_two 37 = .ok (.iconst 4, 1) := by decide +kernel
theorem dM_two_38 : decode cM_two 38 = .ok (.iload_n 2, 1) := by decide +kernel
theorem dM_two_39 : decode cM_two 39 = .ok (.imul, 1) := by decide +kernel
theorem dM_two_40 : decode cM_two 40 = .ok (.iload_n 3, 1) := by decide +kernel
theorem dM_two_41 : decode cM_two 41 = .ok (.iadd, 1) := by decide +kernel
theorem dM_two_42 : decode cM_two 42 = .ok (.laload, 1) := by decide +kernel
theorem dM_two_43 : decode cM_two 43 = .ok (.lmul, 1) := by decide +kernel
theorem dM_two_44 : decode cM_two 44 = .ok (.lsub, 1) := by decide +kernel
theorem dM_two_45 : decode cM_two 45 = .ok (.lreturn, 1) := by decide +kernel
noncomputable def M_two (F : Nat) (x_row : Nat → Int64) (v1 : Int32) (v2 : Int32) (v3 : Int32) (v4 : Int32) : Option (Int64) := gd (vp_in (((4 : Int32) * v1) + v3) 16) (gd (vp_in (((4 : Int32) * v2) + v4) 16) (gd (vp_in (((4 : Int32) * v1) + v4) 16) (gd (vp_in (((4 : Int32) * v2) + v3) 16) (some (((x_row (((4 : Int32) * v1) + v3).toNatClampNeg) * (x_row (((4 : Int32) * v2) + v4).toNatClampNeg)) - ((x_row (((4 : Int32) * v1) + v4).toNatClampNeg) * (x_row (((4 : Int32) * v2) + v3).toNatClampNeg)))))))
set_option maxHeartbeats 8000000 in
set_option maxRecDepth 100000 in
theorem met_M_two (κ : ctx) (X : Nat → va_E) (F : Nat) {x_many : Int32} {x_generator : Nat → Int32} {x_known : Int32} {x_without : Int32} {x_rows : Int32} {x_row : Nat → Int64} {x_pivot : Nat → Int32} {x_fresh : Nat → Int64} {x_multiple : Nat → Int64} {x_last : Nat → Int64} {x_made : Nat → Int64} {x_settled : Nat → Int64} {x_point : Nat → Int64} {x_limit : Int64} {x_mode : Int32} {x_counted : Int32} {x_listed : Int32} {x_held : Int32} {x_first : Nat → Int64} {x_squares : Nat → Int64} {x_wanted : Int32} {x_spanned : Int32} {x_span : Nat → Int64} {x_minima : Nat → Int32} {x_measured : Int32} {x_found : Nat → Int64} {x_any : Int32} (v1 : Int32) (v2 : Int32) (v3 : Int32) (v4 : Int32) {out : Int64} (h : M_two F x_row v1 v2 v3 v4 = some out) : Mt yM_two cM_two 5 (some .long) rm_M_two κ [.ref (κ.1 0), .int v1, .int v2, .int v3, .int v4] (LM κ (x_many, x_generator, x_known, x_without, x_rows, x_row, x_pivot, x_fresh, x_multiple, x_last, x_made, x_settled, x_point, x_limit, x_mode, x_counted, x_listed, x_held, x_first, x_squares, x_wanted, x_spanned, x_span, x_minima, x_measured, x_found, x_any) X) (some (.long out)) (LM κ (x_many, x_generator, x_known, x_without, x_rows, x_row, x_pivot, x_fresh, x_multiple, x_last, x_made, x_settled, x_point, x_limit, x_mode, x_counted, x_listed, x_held, x_first, x_squares, x_wanted, x_spanned, x_span, x_minima, x_measured, x_found, x_any) X) := by
  refine Mt.of (by decide) (Nat.le_of_ble_eq_true rfl) ?_
  intro g G Fh
  unfold M_two at h
  show J g κ 5 0 [(0, .ref (κ.1 0)), (1, .int v1), (2, .int v2), (3, .int v3), (4, .int v4)] [] (LM κ (x_many, x_generator, x_known, x_without, x_rows, x_row, x_pivot, x_fresh, x_multiple, x_last, x_made, x_settled, x_point, x_limit, x_mode, x_counted, x_listed, x_held, x_first, x_squares, x_wanted, x_spanned, x_span, x_minima, x_measured, x_found, x_any) X)
  refine w_aload_n (pc := 0) (q := 0) G dM_two_0 rfl rfl ?_
  refine w_get (pc := 1) (v := .ref (κ.1 2)) (fs := fl_M κ (x_many, x_generator, x_known, x_without, x_rows, x_row, x_pivot, x_fresh, x_multiple, x_last, x_made, x_settled, x_point, x_limit, x_mode, x_counted, x_listed, x_held, x_first, x_squares, x_wanted, x_spanned, x_span, x_minima, x_measured, x_found, x_any)) G 0 (by decide) lb_M rfl wsM_ok 5 (by decide) wd495 gf_M_5 dM_two_1 ?_
  refine w_iconst (pc := 4) (v := (4 : Int32)) G dM_two_4 (by decide) ?_
  refine w_iload_n (pc := 5) (q := 1) G dM_two_5 rfl rfl ?_
  refine w_imul (pc := 6) G dM_two_6 ?_
  refine w_iload_n (pc := 7) (q := 3) G dM_two_7 rfl rfl ?_
  refine w_iadd (pc := 8) G dM_two_8 ?_
  obtain ⟨i9, h⟩ := gd_some h
  refine w_lald (pc := 9) (n := 16) (f := x_row) G 2 (by decide) lk_row i9 dM_two_9 ?_
  refine w_aload_n (pc := 10) (q := 0) G dM_two_10 rfl rfl ?_
  refine w_get (pc := 11) (v := .ref (κ.1 2)) (fs := fl_M κ (x_many, x_generator, x_known, x_without, x_rows, x_row, x_pivot, x_fresh, x_multiple, x_last, x_made, x_settled, x_point, x_limit, x_mode, x_counted, x_listed, x_held, x_first, x_squares, x_wanted, x_spanned, x_span, x_minima, x_measured, x_found, x_any)) G 0 (by decide) lb_M rfl wsM_ok 5 (by decide) wd495 gf_M_5 dM_two_11 ?_
  refine w_iconst (pc := 14) (v := (4 : Int32)) G dM_two_14 (by decide) ?_
  refine w_iload_n (pc := 15) (q := 2) G dM_two_15 rfl rfl ?_
  refine w_imul (pc := 16) G dM_two_16 ?_
  refine w_iload (pc := 17) (q := 4) G dM_two_17 rfl ?_
  refine w_iadd (pc := 19) G dM_two_19 ?_
  obtain ⟨i20, h⟩ := gd_some h
  refine w_lald (pc := 20) (n := 16) (f := x_row) G 2 (by decide) lk_row i20 dM_two_20 ?_
  refine w_lmul (pc := 21) G dM_two_21 ?_
  refine w_aload_n (pc := 22) (q := 0) G dM_two_22 rfl rfl ?_
  refine w_get (pc := 23) (v := .ref (κ.1 2)) (fs := fl_M κ (x_many, x_generator, x_known, x_without, x_rows, x_row, x_pivot, x_fresh, x_multiple, x_last, x_made, x_settled, x_point, x_limit, x_mode, x_counted, x_listed, x_held, x_first, x_squares, x_wanted, x_spanned, x_span, x_minima, x_measured, x_found, x_any)) G 0 (by decide) lb_M rfl wsM_ok 5 (by decide) wd495 gf_M_5 dM_two_23 ?_
  refine w_iconst (pc := 26) (v := (4 : Int32)) G dM_two_26 (by decide) ?_
  refine w_iload_n (pc := 27) (q := 1) G dM_two_27 rfl rfl ?_
  refine w_imul (pc := 28) G dM_two_28 ?_
  refine w_iload (pc := 29) (q := 4) G dM_two_29 rfl ?_
  refine w_iadd (pc := 31) G dM_two_31 ?_
  obtain ⟨i32, h⟩ := gd_some h
  refine w_lald (pc := 32) (n := 16) (f := x_row) G 2 (by decide) lk_row i32 dM_two_32 ?_
  refine w_aload_n (pc := 33) (q := 0) G dM_two_33 rfl rfl ?_
  refine w_get (pc := 34) (v := .ref (κ.1 2)) (fs := fl_M κ (x_many, x_generator, x_known, x_without, x_rows, x_row, x_pivot, x_fresh, x_multiple, x_last, x_made, x_settled, x_point, x_limit, x_mode, x_counted, x_listed, x_held, x_first, x_squares, x_wanted, x_spanned, x_span, x_minima, x_measured, x_found, x_any)) G 0 (by decide) lb_M rfl wsM_ok 5 (by decide) wd495 gf_M_5 dM_two_34 ?_
  refine w_iconst (pc := 37) (v := (4 : Int32)) G dM_two_37 (by decide) ?_
  refine w_iload_n (pc := 38) (q := 2) G dM_two_38 rfl rfl ?_
  refine w_imul (pc := 39) G dM_two_39 ?_
  refine w_iload_n (pc := 40) (q := 3) G dM_two_40 rfl rfl ?_
  refine w_iadd (pc := 41) G dM_two_41 ?_
  obtain ⟨i42, h⟩ := gd_some h
  refine w_lald (pc := 42) (n := 16) (f := x_row) G 2 (by decide) lk_row i42 dM_two_42 ?_
  refine w_lmul (pc := 43) G dM_two_43 ?_
  refine w_lsub (pc := 44) G dM_two_44 ?_
  obtain rfl := Option.some.inj h
  exact w_lret (pc := 45) G dM_two_45 Fh
def rm_M_three : Room := { frames := 1, cells := 0, slots := 0, locals := 24 }
theorem dM_three_0 : decode cM_three 0 = .ok (.aload_n 0, 1) := by decide +kernel
theorem dM_three_1 : decode cM_three 1 = .ok (.getfield 13, 3) := by decide +kernel
theorem dM_three_4 : decode cM_three 4 = .ok (.iload_n 1, 1) := by decide +kernel
theorem dM_three_5 : decode cM_three 5 = .ok (.laload, 1) := by decide +kernel
theorem dM_three_6 : decode cM_three 6 = .ok (.aload_n 0, 1) := by decide +kernel
theorem dM_three_7 : decode cM_three 7 = .ok (.iconst 1, 1) := by decide +kernel
theorem dM_three_8 : decode cM_three 8 = .ok (.iconst 2, 1) := by decide +kernel
theorem dM_three_9 : decode cM_three 9 = .ok (.iload_n 2, 1) := by decide +kernel
theorem dM_three_10 : decode cM_three 10 = .ok (.iload_n 3, 1) := by decide +kernel
theorem dM_three_11 : decode cM_three 11 = .ok (.invokevirtual 110, 3) := by decide +kernel
theorem dM_three_14 : decode cM_three 14 = .ok (.lmul, 1) := by decide +kernel
theorem dM_three_15 : decode cM_three 15 = .ok (.aload_n 0, 1) := by decide +kernel
theorem dM_three_16 : decode cM_three 16 = .ok (.getfield 13, 3) := by decide +kernel
theorem dM_three_19 : decode cM_three 19 = .ok (.iload_n 2, 1) := by decide +kernel
theorem dM_three_20 : decode cM_three 20 = .ok (.laload, 1) := by decide +kernel
theorem dM_three_21 : decode cM_three 21 = .ok (.aload_n 0, 1) := by decide +kernel
theorem dM_three_22 : decode cM_three 22 = .ok (.iconst 1, 1) := by decide +kernel
theorem dM_three_23 : decode cM_three 23 = .ok (.iconst 2, 1) := by decide +kernel
theorem dM_three_24 : decode cM_three 24 = .ok (.iload_n 1, 1) := by decide +kernel
theorem dM_three_25 : decode cM_three 25 = .ok (.iload_n 3, 1) := by decide +kernel
theorem dM_three_26 : decode cM_three 26 = .ok (.invokevirtual 110, 3) := by decide +kernel
theorem dM_three_29 : decode cM_three 29 = .ok (.lmul, 1) := by decide +kernel
theorem dM_three_30 : decode cM_three 30 = .ok (.lsub, 1) := by decide +kernel
theorem dM_three_31 : decode cM_three 31 = .ok (.aload_n 0, 1) := by decide +kernel
theorem dM_three_32 : decode cM_three 32 = .ok (.getfield 13, 3) := by decide +kernel
theorem dM_three_35 : decode cM_three 35 = .ok (.iload_n 3, 1) := by decide +kernel
theorem dM_three_36 : decode cM_three 36 = .ok (.laload, 1) := by decide +kernel
theorem dM_three_37 : decode cM_three 37 = .ok (.aload_n 0, 1) := by decide +kernel
theorem dM_three_38 : decode cM_three 38 = .ok (.iconst 1, 1) := by decide +kernel
theorem dM_three_39 : decode cM_three 39 = .ok (.iconst 2, 1) := by decide +kernel
theorem dM_three_40 : decode cM_three 40 = .ok (.iload_n 1, 1) := by decide +kernel
theorem dM_three_41 : decode cM_three 41 = .ok (.iload_n 2, 1) := by decide +kernel
theorem dM_three_42 : decode cM_three 42 = .ok (.invokevirtual 110, 3) := by decide +kernel
theorem dM_three_45 : decode cM_three 45 = .ok (.lmul, 1) := by decide +kernel
theorem dM_three_46 : decode cM_three 46 = .ok (.ladd, 1) := by decide +kernel
theorem dM_three_47 : decode cM_three 47 = .ok (.lreturn, 1) := by decide +kernel
theorem cb_M_two_M_three : CB yM_two cM_two 5 (some .long) rm_M_two rm_M_three 4 := ⟨wd633, wd8, by decide +kernel, rfl, rfl, by decide⟩
noncomputable def M_three (F : Nat) (x_row : Nat → Int64) (v1 : Int32) (v2 : Int32) (v3 : Int32) : Option (Int64) := gd (vp_in v1 16) ((M_two F x_row (1 : Int32) (2 : Int32) v2 v3).bind (fun r11 => gd (vp_in v2 16) ((M_two F x_row (1 : Int32) (2 : Int32) v1 v3).bind (fun r26 => gd (vp_in v3 16) ((M_two F x_row (1 : Int32) (2 : Int32) v1 v2).bind (fun r42 => some ((((x_row v1.toNatClampNeg) * r11) - ((x_row v2.toNatClampNeg) * r26)) + ((x_row v3.toNatClampNeg) * r42))))))))
set_option maxHeartbeats 8000000 in
set_option maxRecDepth 100000 in
theorem met_M_three (κ : ctx) (X : Nat → va_E) (F : Nat) {x_many : Int32} {x_generator : Nat → Int32} {x_known : Int32} {x_without : Int32} {x_rows : Int32} {x_row : Nat → Int64} {x_pivot : Nat → Int32} {x_fresh : Nat → Int64} {x_multiple : Nat → Int64} {x_last : Nat → Int64} {x_made : Nat → Int64} {x_settled : Nat → Int64} {x_point : Nat → Int64} {x_limit : Int64} {x_mode : Int32} {x_counted : Int32} {x_listed : Int32} {x_held : Int32} {x_first : Nat → Int64} {x_squares : Nat → Int64} {x_wanted : Int32} {x_spanned : Int32} {x_span : Nat → Int64} {x_minima : Nat → Int32} {x_measured : Int32} {x_found : Nat → Int64} {x_any : Int32} (v1 : Int32) (v2 : Int32) (v3 : Int32) {out : Int64} (h : M_three F x_row v1 v2 v3 = some out) : Mt yM_three cM_three 4 (some .long) rm_M_three κ [.ref (κ.1 0), .int v1, .int v2, .int v3] (LM κ (x_many, x_generator, x_known, x_without, x_rows, x_row, x_pivot, x_fresh, x_multiple, x_last, x_made, x_settled, x_point, x_limit, x_mode, x_counted, x_listed, x_held, x_first, x_squares, x_wanted, x_spanned, x_span, x_minima, x_measured, x_found, x_any) X) (some (.long out)) (LM κ (x_many, x_generator, x_known, x_without, x_rows, x_row, x_pivot, x_fresh, x_multiple, x_last, x_made, x_settled, x_point, x_limit, x_mode, x_counted, x_listed, x_held, x_first, x_squares, x_wanted, x_spanned, x_span, x_minima, x_measured, x_found, x_any) X) := by
  refine Mt.of (by decide) (Nat.le_of_ble_eq_true rfl) ?_
  intro g G Fh
  unfold M_three at h
  show J g κ 4 0 [(0, .ref (κ.1 0)), (1, .int v1), (2, .int v2), (3, .int v3)] [] (LM κ (x_many, x_generator, x_known, x_without, x_rows, x_row, x_pivot, x_fresh, x_multiple, x_last, x_made, x_settled, x_point, x_limit, x_mode, x_counted, x_listed, x_held, x_first, x_squares, x_wanted, x_spanned, x_span, x_minima, x_measured, x_found, x_any) X)
  refine w_aload_n (pc := 0) (q := 0) G dM_three_0 rfl rfl ?_
  refine w_get (pc := 1) (v := .ref (κ.1 2)) (fs := fl_M κ (x_many, x_generator, x_known, x_without, x_rows, x_row, x_pivot, x_fresh, x_multiple, x_last, x_made, x_settled, x_point, x_limit, x_mode, x_counted, x_listed, x_held, x_first, x_squares, x_wanted, x_spanned, x_span, x_minima, x_measured, x_found, x_any)) G 0 (by decide) lb_M rfl wsM_ok 5 (by decide) wd495 gf_M_5 dM_three_1 ?_
  refine w_iload_n (pc := 4) (q := 1) G dM_three_4 rfl rfl ?_
  obtain ⟨i5, h⟩ := gd_some h
  refine w_lald (pc := 5) (n := 16) (f := x_row) G 2 (by decide) lk_row i5 dM_three_5 ?_
  refine w_aload_n (pc := 6) (q := 0) G dM_three_6 rfl rfl ?_
  refine w_iconst (pc := 7) (v := (1 : Int32)) G dM_three_7 (by decide) ?_
  refine w_iconst (pc := 8) (v := (2 : Int32)) G dM_three_8 (by decide) ?_
  refine w_iload_n (pc := 9) (q := 2) G dM_three_9 rfl rfl ?_
  refine w_iload_n (pc := 10) (q := 3) G dM_three_10 rfl rfl ?_
  obtain ⟨r11, e11, h⟩ := bd h
  refine w_callV (pc := 11) (av := [.int (1 : Int32), .int (2 : Int32), .int v2, .int v3]) (rest := [.long (x_row v1.toNatClampNeg)]) (v := some (.long r11)) (L' := (LM κ (x_many, x_generator, x_known, x_without, x_rows, x_row, x_pivot, x_fresh, x_multiple, x_last, x_made, x_settled, x_point, x_limit, x_mode, x_counted, x_listed, x_held, x_first, x_squares, x_wanted, x_spanned, x_span, x_minima, x_measured, x_found, x_any) X)) (T := TM) (fs := fl_M κ (x_many, x_generator, x_known, x_without, x_rows, x_row, x_pivot, x_fresh, x_multiple, x_last, x_made, x_settled, x_point, x_limit, x_mode, x_counted, x_listed, x_held, x_first, x_squares, x_wanted, x_spanned, x_span, x_minima, x_measured, x_found, x_any)) G 0 0 27 (by decide) lb_M rfl cb_M_two_M_three wd632 ws27 wd630 (met_M_two κ X F (1 : Int32) (2 : Int32) v2 v3  e11) rfl rfl rfl (Nat.le_of_ble_eq_true rfl) dM_three_11 ?_
  refine w_lmul (pc := 14) G dM_three_14 ?_
  refine w_aload_n (pc := 15) (q := 0) G dM_three_15 rfl rfl ?_
  refine w_get (pc := 16) (v := .ref (κ.1 2)) (fs := fl_M κ (x_many, x_generator, x_known, x_without, x_rows, x_row, x_pivot, x_fresh, x_multiple, x_last, x_made, x_settled, x_point, x_limit, x_mode, x_counted, x_listed, x_held, x_first, x_squares, x_wanted, x_spanned, x_span, x_minima, x_measured, x_found, x_any)) G 0 (by decide) lb_M rfl wsM_ok 5 (by decide) wd495 gf_M_5 dM_three_16 ?_
  refine w_iload_n (pc := 19) (q := 2) G dM_three_19 rfl rfl ?_
  obtain ⟨i20, h⟩ := gd_some h
  refine w_lald (pc := 20) (n := 16) (f := x_row) G 2 (by decide) lk_row i20 dM_three_20 ?_
  refine w_aload_n (pc := 21) (q := 0) G dM_three_21 rfl rfl ?_
  refine w_iconst (pc := 22) (v := (1 : Int32)) G dM_three_22 (by decide) ?_
  refine w_iconst (pc := 23) (v := (2 : Int32)) G dM_three_23 (by decide) ?_
  refine w_iload_n (pc := 24) (q := 1) G dM_three_24 rfl rfl ?_
  refine w_iload_n (pc := 25) (q := 3) G dM_three_25 rfl rfl ?_
  obtain ⟨r26, e26, h⟩ := bd h
  refine w_callV (pc := 26) (av := [.int (1 : Int32), .int (2 : Int32), .int v1, .int v3]) (rest := [.long (x_row v2.toNatClampNeg), .long ((x_row v1.toNatClampNeg) * r11)]) (v := some (.long r26)) (L' := (LM κ (x_many, x_generator, x_known, x_without, x_rows, x_row, x_pivot, x_fresh, x_multiple, x_last, x_made, x_settled, x_point, x_limit, x_mode, x_counted, x_listed, x_held, x_first, x_squares, x_wanted, x_spanned, x_span, x_minima, x_measured, x_found, x_any) X)) (T := TM) (fs := fl_M κ (x_many, x_generator, x_known, x_without, x_rows, x_row, x_pivot, x_fresh, x_multiple, x_last, x_made, x_settled, x_point, x_limit, x_mode, x_counted, x_listed, x_held, x_first, x_squares, x_wanted, x_spanned, x_span, x_minima, x_measured, x_found, x_any)) G 0 0 27 (by decide) lb_M rfl cb_M_two_M_three wd632 ws27 wd630 (met_M_two κ X F (1 : Int32) (2 : Int32) v1 v3  e26) rfl rfl rfl (Nat.le_of_ble_eq_true rfl) dM_three_26 ?_
  refine w_lmul (pc := 29) G dM_three_29 ?_
  refine w_lsub (pc := 30) G dM_three_30 ?_
  refine w_aload_n (pc := 31) (q := 0) G dM_three_31 rfl rfl ?_
  refine w_get (pc := 32) (v := .ref (κ.1 2)) (fs := fl_M κ (x_many, x_generator, x_known, x_without, x_rows, x_row, x_pivot, x_fresh, x_multiple, x_last, x_made, x_settled, x_point, x_limit, x_mode, x_counted, x_listed, x_held, x_first, x_squares, x_wanted, x_spanned, x_span, x_minima, x_measured, x_found, x_any)) G 0 (by decide) lb_M rfl wsM_ok 5 (by decide) wd495 gf_M_5 dM_three_32 ?_
  refine w_iload_n (pc := 35) (q := 3) G dM_three_35 rfl rfl ?_
  obtain ⟨i36, h⟩ := gd_some h
  refine w_lald (pc := 36) (n := 16) (f := x_row) G 2 (by decide) lk_row i36 dM_three_36 ?_
  refine w_aload_n (pc := 37) (q := 0) G dM_three_37 rfl rfl ?_
  refine w_iconst (pc := 38) (v := (1 : Int32)) G dM_three_38 (by decide) ?_
  refine w_iconst (pc := 39) (v := (2 : Int32)) G dM_three_39 (by decide) ?_
  refine w_iload_n (pc := 40) (q := 1) G dM_three_40 rfl rfl ?_
  refine w_iload_n (pc := 41) (q := 2) G dM_three_41 rfl rfl ?_
  obtain ⟨r42, e42, h⟩ := bd h
  refine w_callV (pc := 42) (av := [.int (1 : Int32), .int (2 : Int32), .int v1, .int v2]) (rest := [.long (x_row v3.toNatClampNeg), .long (((x_row v1.toNatClampNeg) * r11) - ((x_row v2.toNatClampNeg) * r26))]) (v := some (.long r42)) (L' := (LM κ (x_many, x_generator, x_known, x_without, x_rows, x_row, x_pivot, x_fresh, x_multiple, x_last, x_made, x_settled, x_point, x_limit, x_mode, x_counted, x_listed, x_held, x_first, x_squares, x_wanted, x_spanned, x_span, x_minima, x_measured, x_found, x_any) X)) (T := TM) (fs := fl_M κ (x_many, x_generator, x_known, x_without, x_rows, x_row, x_pivot, x_fresh, x_multiple, x_last, x_made, x_settled, x_point, x_limit, x_mode, x_counted, x_listed, x_held, x_first, x_squares, x_wanted, x_spanned, x_span, x_minima, x_measured, x_found, x_any)) G 0 0 27 (by decide) lb_M rfl cb_M_two_M_three wd632 ws27 wd630 (met_M_two κ X F (1 : Int32) (2 : Int32) v1 v2  e42) rfl rfl rfl (Nat.le_of_ble_eq_true rfl) dM_three_42 ?_
  refine w_lmul (pc := 45) G dM_three_45 ?_
  refine w_ladd (pc := 46) G dM_three_46 ?_
  obtain rfl := Option.some.inj h
  exact w_lret (pc := 47) G dM_three_47 Fh
def rm_M_volume : Room := { frames := 5, cells := 0, slots := 0, locals := 121 }
theorem dM_volume_0 : decode cM_volume 0 = .ok (.aload_n 0, 1) := by decide +kernel
theorem dM_volume_1 : decode cM_volume 1 = .ok (.iconst (-1), 1) := by decide +kernel
theorem dM_volume_2 : decode cM_volume 2 = .ok (.invokevirtual 107, 3) := by decide +kernel
theorem dM_volume_5 : decode cM_volume 5 = .ok (.aload_n 0, 1) := by decide +kernel
theorem dM_volume_6 : decode cM_volume 6 = .ok (.getfield 74, 3) := by decide +kernel
theorem dM_volume_9 : decode cM_volume 9 = .ok (.ifCond .ne 7, 3) := by decide +kernel
theorem dM_volume_12 : decode cM_volume 12 = .ok (.lconst 1, 1) := by decide +kernel
theorem dM_volume_13 : decode cM_volume 13 = .ok (.goto 4, 3) := by decide +kernel
theorem dM_volume_16 : decode cM_volume 16 = .ok (.lconst 0, 1) := by decide +kernel
theorem dM_volume_17 : decode cM_volume 17 = .ok (.lstore_n 1, 1) := by decide +kernel
theorem dM_volume_18 : decode cM_volume 18 = .ok (.aload_n 0, 1) := by decide +kernel
theorem dM_volume_19 : decode cM_volume 19 = .ok (.getfield 74, 3) := by decide +kernel
theorem dM_volume_22 : decode cM_volume 22 = .ok (.iconst 4, 1) := by decide +kernel
theorem dM_volume_23 : decode cM_volume 23 = .ok (.if_icmp .ne 37, 3) := by decide +kernel
theorem dM_volume_26 : decode cM_volume 26 = .ok (.aload_n 0, 1) := by decide +kernel
theorem dM_volume_27 : decode cM_volume 27 = .ok (.getfield 13, 3) := by decide +kernel
theorem dM_volume_30 : decode cM_volume 30 = .ok (.iconst 0, 1) := by decide +kernel
theorem dM_volume_31 : decode cM_volume 31 = .ok (.laload, 1) := by decide +kernel
theorem dM_volume_32 : decode cM_volume 32 = .ok (.aload_n 0, 1) := by decide +kernel
theorem dM_volume_33 : decode cM_volume 33 = .ok (.getfield 13, 3) := by decide +kernel
theorem dM_volume_36 : decode cM_volume 36 = .ok (.iconst 5, 1) := by decide +kernel
theorem dM_volume_37 : decode cM_volume 37 = .ok (.laload, 1) := by decide +kernel
theorem dM_volume_38 : decode cM_volume 38 = .ok (.lmul, 1) := by decide +kernel
theorem dM_volume_39 : decode cM_volume 39 = .ok (.aload_n 0, 1) := by decide +kernel
theorem dM_volume_40 : decode cM_volume 40 = .ok (.getfield 13, 3) := by decide +kernel
theorem dM_volume_43 : decode cM_volume 43 = .ok (.bipush 10, 2) := by decide +kernel
theorem dM_volume_45 : decode cM_volume 45 = .ok (.laload, 1) := by decide +kernel
theorem dM_volume_46 : decode cM_volume 46 = .ok (.lmul, 1) := by decide +kernel
theorem dM_volume_47 : decode cM_volume 47 = .ok (.aload_n 0, 1) := by decide +kernel
theorem dM_volume_48 : decode cM_volume 48 = .ok (.getfield 13, 3) := by decide +kernel
theorem dM_volume_51 : decode cM_volume 51 = .ok (.bipush 15, 2) := by decide +kernel
theorem dM_volume_53 : decode cM_volume 53 = .ok (.laload, 1) := by decide +kernel
theorem dM_volume_54 : decode cM_volume 54 = .ok (.lmul, 1) := by decide +kernel
theorem dM_volume_55 : decode cM_volume 55 = .ok (.lstore_n 3, 1) := by decide +kernel
theorem dM_volume_56 : decode cM_volume 56 = .ok (.lload_n 3, 1) := by decide +kernel
theorem dM_volume_57 : decode cM_volume 57 = .ok (.lload_n 3, 1) := by decide +kernel
theorem dM_volume_58 : decode cM_volume 58 = .ok (.lmul, 1) := by decide +kernel
theorem dM_volume_59 : decode cM_volume 59 = .ok (.lreturn, 1) := by decide +kernel
theorem dM_volume_60 : decode cM_volume 60 = .ok (.iconst 0, 1) := by decide +kernel
theorem dM_volume_61 : decode cM_volume 61 = .ok (.istore_n 3, 1) := by decide +kernel
theorem dM_volume_62 : decode cM_volume 62 = .ok (.iload_n 3, 1) := by decide +kernel
theorem dM_volume_63 : decode cM_volume 63 = .ok (.iconst 4, 1) := by decide +kernel
theorem dM_volume_64 : decode cM_volume 64 = .ok (.if_icmp .ge 140, 3) := by decide +kernel
theorem dM_volume_67 : decode cM_volume 67 = .ok (.lload_n 1, 1) := by decide +kernel
theorem dM_volume_68 : decode cM_volume 68 = .ok (.aload_n 0, 1) := by decide +kernel
theorem dM_volume_69 : decode cM_volume 69 = .ok (.getfield 74, 3) := by decide +kernel
theorem dM_volume_72 : decode cM_volume 72 = .ok (.iconst 1, 1) := by decide +kernel
theorem dM_volume_73 : decode cM_volume 73 = .ok (.if_icmp .ne 19, 3) := by decide +kernel
theorem dM_volume_76 : decode cM_volume 76 = .ok (.aload_n 0, 1) := by decide +kernel
theorem dM_volume_77 : decode cM_volume 77 = .ok (.getfield 13, 3) := by decide +kernel
theorem dM_volume_80 : decode cM_volume 80 = .ok (.iload_n 3, 1) := by decide +kernel
theorem dM_volume_81 : decode cM_volume 81 = .ok (.laload, 1) := by decide +kernel
theorem dM_volume_82 : decode cM_volume 82 = .ok (.aload_n 0, 1) := by decide +kernel
theorem dM_volume_83 : decode cM_volume 83 = .ok (.getfield 13, 3) := by decide +kernel
theorem dM_volume_86 : decode cM_volume 86 = .ok (.iload_n 3, 1) := by decide +kernel
theorem dM_volume_87 : decode cM_volume 87 = .ok (.laload, 1) := by decide +kernel
theorem dM_volume_88 : decode cM_volume 88 = .ok (.lmul, 1) := by decide +kernel
theorem dM_volume_89 : decode cM_volume 89 = .ok (.goto 4, 3) := by decide +kernel
theorem dM_volume_92 : decode cM_volume 92 = .ok (.lconst 0, 1) := by decide +kernel
theorem dM_volume_93 : decode cM_volume 93 = .ok (.ladd, 1) := by decide +kernel
theorem dM_volume_94 : decode cM_volume 94 = .ok (.lstore_n 1, 1) := by decide +kernel
theorem dM_volume_95 : decode cM_volume 95 = .ok (.iload_n 3, 1) := by decide +kernel
theorem dM_volume_96 : decode cM_volume 96 = .ok (.iconst 1, 1) := by decide +kernel
theorem dM_volume_97 : decode cM_volume 97 = .ok (.iadd, 1) := by decide +kernel
theorem dM_volume_98 : decode cM_volume 98 = .ok (.istore 4, 2) := by decide +kernel
theorem dM_volume_100 : decode cM_volume 100 = .ok (.iload 4, 2) := by decide +kernel
theorem dM_volume_102 : decode cM_volume 102 = .ok (.iconst 4, 1) := by decide +kernel
theorem dM_volume_103 : decode cM_volume 103 = .ok (.if_icmp .ge 95, 3) := by decide +kernel
theorem dM_volume_106 : decode cM_volume 106 = .ok (.lload_n 1, 1) := by decide +kernel
theorem dM_volume_107 : decode cM_volume 107 = .ok (.aload_n 0, 1) := by decide +kernel
theorem dM_volume_108 : decode cM_volume 108 = .ok (.getfield 74, 3) := by decide +kernel
theorem dM_volume_111 : decode cM_volume 111 = .ok (.iconst 2, 1) := by decide +kernel
theorem dM_volume_112 : decode cM_volume 112 = .ok (.if_icmp .ne 25, 3) := by decide +kernel
theorem dM_volume_115 : decode cM_volume 115 = .ok (.aload_n 0, 1) := by decide +kernel
theorem dM_volume_116 : decode cM_volume 116 = .ok (.iconst 0, 1) := by decide +kernel
theorem dM_volume_117 : decode cM_volume 117 = .ok (.iconst 1, 1) := by decide +kernel
theorem dM_volume_118 : decode cM_volume 118 = .ok (.iload_n 3, 1) := by decide +kernel
theorem dM_volume_119 : decode cM_volume 119 = .ok (.iload 4, 2) := by decide +kernel
theorem dM_volume_121 : decode cM_volume 121 = .ok (.invokevirtual 110, 3) := by decide +kernel
theorem dM_volume_124 : decode cM_volume 124 = .ok (.aload_n 0, 1) := by decide +kernel
theorem dM_volume_125 : decode cM_volume 125 = .ok (.iconst 0, 1) := by decide +kernel
theorem dM_volume_126 : decode cM_volume 126 = .ok (.iconst 1, 1) := by decide +kernel
theorem dM_volume_127 : decode cM_volume 127 = .ok (.iload_n 3, 1) := by decide +kernel
theorem dM_volume_128 : decode cM_volume 128 = .ok (.iload 4, 2) := by decide +kernel
theorem dM_volume_130 : decode cM_volume 130 = .ok (.invokevirtual 110, 3) := by decide +kernel
theorem dM_volume_133 : decode cM_volume 133 = .ok (.lmul, 1) := by decide +kernel
theorem dM_volume_134 : decode cM_volume 134 = .ok (.goto 4, 3) := by decide +kernel
theorem dM_volume_137 : decode cM_volume 137 = .ok (.lconst 0, 1) := by decide +kernel
theorem dM_volume_138 : decode cM_volume 138 = .ok (.ladd, 1) := by decide +kernel
theorem dM_volume_139 : decode cM_volume 139 = .ok (.lstore_n 1, 1) := by decide +kernel
theorem dM_volume_140 : decode cM_volume 140 = .ok (.iload 4, 2) := by decide +kernel
theorem dM_volume_142 : decode cM_volume 142 = .ok (.iconst 1, 1) := by decide +kernel
theorem dM_volume_143 : decode cM_volume 143 = .ok (.iadd, 1) := by decide +kernel
theorem dM_volume_144 : decode cM_volume 144 = .ok (.istore 5, 2) := by decide +kernel
theorem dM_volume_146 : decode cM_volume 146 = .ok (.iload 5, 2) := by decide +kernel
theorem dM_volume_148 : decode cM_volume 148 = .ok (.iconst 4, 1) := by decide +kernel
theorem dM_volume_149 : decode cM_volume 149 = .ok (.if_icmp .ge 43, 3) := by decide +kernel
theorem dM_volume_152 : decode cM_volume 152 = .ok (.lload_n 1, 1) := by decide +kernel
theorem dM_volume_153 : decode cM_volume 153 = .ok (.aload_n 0, 1) := by decide +kernel
theorem dM_volume_154 : decode cM_volume 154 = .ok (.getfield 74, 3) := by decide +kernel
theorem dM_volume_157 : decode cM_volume 157 = .ok (.iconst 3, 1) := by decide +kernel
theorem dM_volume_158 : decode cM_volume 158 = .ok (.if_icmp .ne 25, 3) := by decide +kernel
theorem dM_volume_161 : decode cM_volume 161 = .ok (.aload_n 0, 1) := by decide +kernel
theorem dM_volume_162 : decode cM_volume 162 = .ok (.iload_n 3, 1) := by decide +kernel
theorem dM_volume_163 : decode cM_volume 163 = .ok (.iload 4, 2) := by decide +kernel
theorem dM_volume_165 : decode cM_volume 165 = .ok (.iload 5, 2) := by decide +kernel
theorem dM_volume_167 : decode cM_volume 167 = .ok (.invokevirtual 114, 3) := by decide +kernel
theorem dM_volume_170 : decode cM_volume 170 = .ok (.aload_n 0, 1) := by decide +kernel
theorem dM_volume_171 : decode cM_volume 171 = .ok (.iload_n 3, 1) := by decide +kernel
theorem dM_volume_172 : decode cM_volume 172 = .ok (.iload 4, 2) := by decide +kernel
theorem dM_volume_174 : decode cM_volume 174 = .ok (.iload 5, 2) := by decide +kernel
theorem dM_volume_176 : decode cM_volume 176 = .ok (.invokevirtual 114, 3) := by decide +kernel
theorem dM_volume_179 : decode cM_volume 179 = .ok (.lmul, 1) := by decide +kernel
theorem dM_volume_180 : decode cM_volume 180 = .ok (.goto 4, 3) := by decide +kernel
theorem dM_volume_183 : decode cM_volume 183 = .ok (.lconst 0, 1) := by decide +kernel
theorem dM_volume_184 : decode cM_volume 184 = .ok (.ladd, 1) := by decide +kernel
theorem dM_volume_185 : decode cM_volume 185 = .ok (.lstore_n 1, 1) := by decide +kernel
theorem dM_volume_186 : decode cM_volume 186 = .ok (.iinc 5 1, 3) := by decide +kernel
theorem dM_volume_189 : decode cM_volume 189 = .ok (.goto (-43), 3) := by decide +kernel
theorem dM_volume_192 : decode cM_volume 192 = .ok (.iinc 4 1, 3) := by decide +kernel
theorem dM_volume_195 : decode cM_volume 195 = .ok (.goto (-95), 3) := by decide +kernel
theorem dM_volume_198 : decode cM_volume 198 = .ok (.iinc 3 1, 3) := by decide +kernel
theorem dM_volume_201 : decode cM_volume 201 = .ok (.goto (-139), 3) := by decide +kernel
theorem dM_volume_204 : decode cM_volume 204 = .ok (.lload_n 1, 1) := by decide +kernel
theorem dM_volume_205 : decode cM_volume 205 = .ok (.lreturn, 1) := by decide +kernel
theorem cb_M_look_M_volume : CB yM_look cM_look 4 none rm_M_look rm_M_volume 1 := ⟨wd598, wd8, by decide +kernel, rfl, rfl, by decide⟩
theorem cb_M_three_M_volume : CB yM_three cM_three 4 (some .long) rm_M_three rm_M_volume 3 := ⟨wd637, wd8, by decide +kernel, rfl, rfl, by decide⟩
theorem cb_M_two_M_volume : CB yM_two cM_two 5 (some .long) rm_M_two rm_M_volume 4 := ⟨wd633, wd8, by decide +kernel, rfl, rfl, by decide⟩
noncomputable def lM_volume_146 (F : Nat) (x_rows : Int32) (x_row : Nat → Int64) (v3 : Int32) (v4 : Int32) : Nat → Int64 → Int32 → Option (Int64)
  | 0, _, _ => none
  | n + 1, v1, v5 => if (4 : Int32) ≤ v5 then some (v1) else if x_rows = (3 : Int32) then (M_three F x_row v3 v4 v5).bind (fun r167 => (M_three F x_row v3 v4 v5).bind (fun r176 => lM_volume_146 F x_rows x_row v3 v4 n (v1 + (r167 * r176)) (v5 + 1))) else lM_volume_146 F x_rows x_row v3 v4 n (v1 + (0 : Int64)) (v5 + 1)
set_option maxHeartbeats 8000000 in
set_option maxRecDepth 100000 in
theorem lM_volume_146_ok {g : Gm} {κ : ctx} (G : OK g κ RM cM_volume 6 (some .long) rm_M_volume) (X : Nat → va_E) (F : Nat) {x_many : Int32} {x_generator : Nat → Int32} {x_known : Int32} {x_without : Int32} {x_rows : Int32} {x_row : Nat → Int64} {x_pivot : Nat → Int32} {x_fresh : Nat → Int64} {x_multiple : Nat → Int64} {x_last : Nat → Int64} {x_made : Nat → Int64} {x_settled : Nat → Int64} {x_point : Nat → Int64} {x_limit : Int64} {x_mode : Int32} {x_counted : Int32} {x_listed : Int32} {x_held : Int32} {x_first : Nat → Int64} {x_squares : Nat → Int64} {x_wanted : Int32} {x_spanned : Int32} {x_span : Nat → Int64} {x_minima : Nat → Int32} {x_measured : Int32} {x_found : Nat → Int64} {x_any : Int32} (v3 : Int32) (v4 : Int32) : ∀ (n : Nat) (v1 : Int64) (v5 : Int32) (out : Int64), lM_volume_146 F x_rows x_row v3 v4 n v1 v5 = some out → (J g κ 6 192 [(0, .ref (κ.1 0)), (1, .long out), (3, .int v3), (4, .int v4)] [] (LM κ (x_many, x_generator, x_known, x_without, x_rows, x_row, x_pivot, x_fresh, x_multiple, x_last, x_made, x_settled, x_point, x_limit, x_mode, x_counted, x_listed, x_held, x_first, x_squares, x_wanted, x_spanned, x_span, x_minima, x_measured, x_found, x_any) X)) → J g κ 6 146 [(0, .ref (κ.1 0)), (1, .long v1), (3, .int v3), (4, .int v4), (5, .int v5)] [] (LM κ (x_many, x_generator, x_known, x_without, x_rows, x_row, x_pivot, x_fresh, x_multiple, x_last, x_made, x_settled, x_point, x_limit, x_mode, x_counted, x_listed, x_held, x_first, x_squares, x_wanted, x_spanned, x_span, x_minima, x_measured, x_found, x_any) X) := by
  intro n
  induction n with
  | zero =>
    intro v1 v5
    intro out h
    rw [lM_volume_146] at h
    cases h
  | succ n ih =>
    intro v1 v5 out h K
    rw [lM_volume_146] at h
    refine w_iload (pc := 146) (q := 4) G dM_volume_146 rfl ?_
    refine w_iconst (pc := 148) (v := (4 : Int32)) G dM_volume_148 (by decide) ?_
    refine w_icmp_ge (pc := 149) (tgt := 192) G dM_volume_149 (by decide) (fun c149 => ?_) (fun c149 => ?_)
    · have h := if_t c149 h
      obtain rfl := Option.some.inj h
      refine w_sub (lv' := [(0, .ref (κ.1 0)), (1, .long v1), (3, .int v3), (4, .int v4)]) [0, 1, 2, 3] rfl ?_
      exact K
    · have h := if_f c149 h
      refine w_lload_n (pc := 152) (q := 1) G dM_volume_152 rfl rfl ?_
      refine w_aload_n (pc := 153) (q := 0) G dM_volume_153 rfl rfl ?_
      refine w_get (pc := 154) (v := .int x_rows) (fs := fl_M κ (x_many, x_generator, x_known, x_without, x_rows, x_row, x_pivot, x_fresh, x_multiple, x_last, x_made, x_settled, x_point, x_limit, x_mode, x_counted, x_listed, x_held, x_first, x_squares, x_wanted, x_spanned, x_span, x_minima, x_measured, x_found, x_any)) G 0 (by decide) lb_M rfl wsM_ok 4 (by decide) wd494 gf_M_4 dM_volume_154 ?_
      refine w_iconst (pc := 157) (v := (3 : Int32)) G dM_volume_157 (by decide) ?_
      refine w_icmp_ne (pc := 158) (tgt := 183) G dM_volume_158 (by decide) (fun c158 => ?_) (fun c158 => ?_)
      · have h := if_t c158 h
        refine w_aload_n (pc := 161) (q := 0) G dM_volume_161 rfl rfl ?_
        refine w_iload_n (pc := 162) (q := 2) G dM_volume_162 rfl rfl ?_
        refine w_iload (pc := 163) (q := 3) G dM_volume_163 rfl ?_
        refine w_iload (pc := 165) (q := 4) G dM_volume_165 rfl ?_
        obtain ⟨r167, e167, h⟩ := bd h
        refine w_callV (pc := 167) (av := [.int v3, .int v4, .int v5]) (rest := [.long v1]) (v := some (.long r167)) (L' := (LM κ (x_many, x_generator, x_known, x_without, x_rows, x_row, x_pivot, x_fresh, x_multiple, x_last, x_made, x_settled, x_point, x_limit, x_mode, x_counted, x_listed, x_held, x_first, x_squares, x_wanted, x_spanned, x_span, x_minima, x_measured, x_found, x_any) X)) (T := TM) (fs := fl_M κ (x_many, x_generator, x_known, x_without, x_rows, x_row, x_pivot, x_fresh, x_multiple, x_last, x_made, x_settled, x_point, x_limit, x_mode, x_counted, x_listed, x_held, x_first, x_squares, x_wanted, x_spanned, x_span, x_minima, x_measured, x_found, x_any)) G 0 0 27 (by decide) lb_M rfl cb_M_three_M_volume wd636 ws28 wd634 (met_M_three κ X F v3 v4 v5  e167) rfl rfl rfl (Nat.le_of_ble_eq_true rfl) dM_volume_167 ?_
        refine w_aload_n (pc := 170) (q := 0) G dM_volume_170 rfl rfl ?_
        refine w_iload_n (pc := 171) (q := 2) G dM_volume_171 rfl rfl ?_
        refine w_iload (pc := 172) (q := 3) G dM_volume_172 rfl ?_
        refine w_iload (pc := 174) (q := 4) G dM_volume_174 rfl ?_
        obtain ⟨r176, e176, h⟩ := bd h
        refine w_callV (pc := 176) (av := [.int v3, .int v4, .int v5]) (rest := [.long r167, .long v1]) (v := some (.long r176)) (L' := (LM κ (x_many, x_generator, x_known, x_without, x_rows, x_row, x_pivot, x_fresh, x_multiple, x_last, x_made, x_settled, x_point, x_limit, x_mode, x_counted, x_listed, x_held, x_first, x_squares, x_wanted, x_spanned, x_span, x_minima, x_measured, x_found, x_any) X)) (T := TM) (fs := fl_M κ (x_many, x_generator, x_known, x_without, x_rows, x_row, x_pivot, x_fresh, x_multiple, x_last, x_made, x_settled, x_point, x_limit, x_mode, x_counted, x_listed, x_held, x_first, x_squares, x_wanted, x_spanned, x_span, x_minima, x_measured, x_found, x_any)) G 0 0 27 (by decide) lb_M rfl cb_M_three_M_volume wd636 ws28 wd634 (met_M_three κ X F v3 v4 v5  e176) rfl rfl rfl (Nat.le_of_ble_eq_true rfl) dM_volume_176 ?_
        refine w_lmul (pc := 179) G dM_volume_179 ?_
        refine w_goto (pc := 180) (tgt := 184) G dM_volume_180 (by decide) ?_
        refine w_ladd (pc := 184) G dM_volume_184 ?_
        refine w_lstore_n (pc := 185) (lv' := [(1, .long (v1 + (r167 * r176))), (0, .ref (κ.1 0)), (3, .int v3), (4, .int v4), (5, .int v5)]) G dM_volume_185 rfl (by decide) rfl ?_
        refine w_iinc (pc := 186) (q0 := 4) (v := (v5 + 1)) (lv' := [(5, .int (v5 + 1)), (1, .long (v1 + (r167 * r176))), (0, .ref (κ.1 0)), (3, .int v3), (4, .int v4)]) G dM_volume_186 rfl rfl (by decide) rfl ?_
        refine w_goto (pc := 189) (tgt := 146) G dM_volume_189 (by decide) ?_
        refine w_sub (lv' := [(0, .ref (κ.1 0)), (1, .long (v1 + (r167 * r176))), (3, .int v3), (4, .int v4), (5, .int (v5 + 1))]) [2, 1, 3, 4, 0] rfl ?_
        exact ih (v1 + (r167 * r176)) (v5 + 1) out h K
      · have h := if_f c158 h
        refine w_lconst (pc := 183) (v := (0 : Int64)) G dM_volume_183 (by decide) ?_
        refine w_ladd (pc := 184) G dM_volume_184 ?_
        refine w_lstore_n (pc := 185) (lv' := [(1, .long (v1 + (0 : Int64))), (0, .ref (κ.1 0)), (3, .int v3), (4, .int v4), (5, .int v5)]) G dM_volume_185 rfl (by decide) rfl ?_
        refine w_iinc (pc := 186) (q0 := 4) (v := (v5 + 1)) (lv' := [(5, .int (v5 + 1)), (1, .long (v1 + (0 : Int64))), (0, .ref (κ.1 0)), (3, .int v3), (4, .int v4)]) G dM_volume_186 rfl rfl (by decide) rfl ?_
        refine w_goto (pc := 189) (tgt := 146) G dM_volume_189 (by decide) ?_
        refine w_sub (lv' := [(0, .ref (κ.1 0)), (1, .long (v1 + (0 : Int64))), (3, .int v3), (4, .int v4), (5, .int (v5 + 1))]) [2, 1, 3, 4, 0] rfl ?_
        exact ih (v1 + (0 : Int64)) (v5 + 1) out h K
noncomputable def lM_volume_100 (F : Nat) (x_rows : Int32) (x_row : Nat → Int64) (v3 : Int32) : Nat → Int64 → Int32 → Option (Int64)
  | 0, _, _ => none
  | n + 1, v1, v4 => if (4 : Int32) ≤ v4 then some (v1) else if x_rows = (2 : Int32) then (M_two F x_row (0 : Int32) (1 : Int32) v3 v4).bind (fun r121 => (M_two F x_row (0 : Int32) (1 : Int32) v3 v4).bind (fun r130 => (lM_volume_146 F x_rows x_row v3 v4 F (v1 + (r121 * r130)) (v4 + (1 : Int32))).bind (fun o146_72 => lM_volume_100 F x_rows x_row v3 n o146_72 (v4 + 1)))) else (lM_volume_146 F x_rows x_row v3 v4 F (v1 + (0 : Int64)) (v4 + (1 : Int32))).bind (fun o146_73 => lM_volume_100 F x_rows x_row v3 n o146_73 (v4 + 1))
set_option maxHeartbeats 8000000 in
set_option maxRecDepth 100000 in
theorem lM_volume_100_ok {g : Gm} {κ : ctx} (G : OK g κ RM cM_volume 6 (some .long) rm_M_volume) (X : Nat → va_E) (F : Nat) {x_many : Int32} {x_generator : Nat → Int32} {x_known : Int32} {x_without : Int32} {x_rows : Int32} {x_row : Nat → Int64} {x_pivot : Nat → Int32} {x_fresh : Nat → Int64} {x_multiple : Nat → Int64} {x_last : Nat → Int64} {x_made : Nat → Int64} {x_settled : Nat → Int64} {x_point : Nat → Int64} {x_limit : Int64} {x_mode : Int32} {x_counted : Int32} {x_listed : Int32} {x_held : Int32} {x_first : Nat → Int64} {x_squares : Nat → Int64} {x_wanted : Int32} {x_spanned : Int32} {x_span : Nat → Int64} {x_minima : Nat → Int32} {x_measured : Int32} {x_found : Nat → Int64} {x_any : Int32} (v3 : Int32) : ∀ (n : Nat) (v1 : Int64) (v4 : Int32) (out : Int64), lM_volume_100 F x_rows x_row v3 n v1 v4 = some out → (J g κ 6 198 [(0, .ref (κ.1 0)), (1, .long out), (3, .int v3)] [] (LM κ (x_many, x_generator, x_known, x_without, x_rows, x_row, x_pivot, x_fresh, x_multiple, x_last, x_made, x_settled, x_point, x_limit, x_mode, x_counted, x_listed, x_held, x_first, x_squares, x_wanted, x_spanned, x_span, x_minima, x_measured, x_found, x_any) X)) → J g κ 6 100 [(0, .ref (κ.1 0)), (1, .long v1), (3, .int v3), (4, .int v4)] [] (LM κ (x_many, x_generator, x_known, x_without, x_rows, x_row, x_pivot, x_fresh, x_multiple, x_last, x_made, x_settled, x_point, x_limit, x_mode, x_counted, x_listed, x_held, x_first, x_squares, x_wanted, x_spanned, x_span, x_minima, x_measured, x_found, x_any) X) := by
  intro n
  induction n with
  | zero =>
    intro v1 v4
    intro out h
    rw [lM_volume_100] at h
    cases h
  | succ n ih =>
    intro v1 v4 out h K
    rw [lM_volume_100] at h
    refine w_iload (pc := 100) (q := 3) G dM_volume_100 rfl ?_
    refine w_iconst (pc := 102) (v := (4 : Int32)) G dM_volume_102 (by decide) ?_
    refine w_icmp_ge (pc := 103) (tgt := 198) G dM_volume_103 (by decide) (fun c103 => ?_) (fun c103 => ?_)
    · have h := if_t c103 h
      obtain rfl := Option.some.inj h
      refine w_sub (lv' := [(0, .ref (κ.1 0)), (1, .long v1), (3, .int v3)]) [0, 1, 2] rfl ?_
      exact K
    · have h := if_f c103 h
      refine w_lload_n (pc := 106) (q := 1) G dM_volume_106 rfl rfl ?_
      refine w_aload_n (pc := 107) (q := 0) G dM_volume_107 rfl rfl ?_
      refine w_get (pc := 108) (v := .int x_rows) (fs := fl_M κ (x_many, x_generator, x_known, x_without, x_rows, x_row, x_pivot, x_fresh, x_multiple, x_last, x_made, x_settled, x_point, x_limit, x_mode, x_counted, x_listed, x_held, x_first, x_squares, x_wanted, x_spanned, x_span, x_minima, x_measured, x_found, x_any)) G 0 (by decide) lb_M rfl wsM_ok 4 (by decide) wd494 gf_M_4 dM_volume_108 ?_
      refine w_iconst (pc := 111) (v := (2 : Int32)) G dM_volume_111 (by decide) ?_
      refine w_icmp_ne (pc := 112) (tgt := 137) G dM_volume_112 (by decide) (fun c112 => ?_) (fun c112 => ?_)
      · have h := if_t c112 h
        refine w_aload_n (pc := 115) (q := 0) G dM_volume_115 rfl rfl ?_
        refine w_iconst (pc := 116) (v := (0 : Int32)) G dM_volume_116 (by decide) ?_
        refine w_iconst (pc := 117) (v := (1 : Int32)) G dM_volume_117 (by decide) ?_
        refine w_iload_n (pc := 118) (q := 2) G dM_volume_118 rfl rfl ?_
        refine w_iload (pc := 119) (q := 3) G dM_volume_119 rfl ?_
        obtain ⟨r121, e121, h⟩ := bd h
        refine w_callV (pc := 121) (av := [.int (0 : Int32), .int (1 : Int32), .int v3, .int v4]) (rest := [.long v1]) (v := some (.long r121)) (L' := (LM κ (x_many, x_generator, x_known, x_without, x_rows, x_row, x_pivot, x_fresh, x_multiple, x_last, x_made, x_settled, x_point, x_limit, x_mode, x_counted, x_listed, x_held, x_first, x_squares, x_wanted, x_spanned, x_span, x_minima, x_measured, x_found, x_any) X)) (T := TM) (fs := fl_M κ (x_many, x_generator, x_known, x_without, x_rows, x_row, x_pivot, x_fresh, x_multiple, x_last, x_made, x_settled, x_point, x_limit, x_mode, x_counted, x_listed, x_held, x_first, x_squares, x_wanted, x_spanned, x_span, x_minima, x_measured, x_found, x_any)) G 0 0 27 (by decide) lb_M rfl cb_M_two_M_volume wd632 ws27 wd630 (met_M_two κ X F (0 : Int32) (1 : Int32) v3 v4  e121) rfl rfl rfl (Nat.le_of_ble_eq_true rfl) dM_volume_121 ?_
        refine w_aload_n (pc := 124) (q := 0) G dM_volume_124 rfl rfl ?_
        refine w_iconst (pc := 125) (v := (0 : Int32)) G dM_volume_125 (by decide) ?_
        refine w_iconst (pc := 126) (v := (1 : Int32)) G dM_volume_126 (by decide) ?_
        refine w_iload_n (pc := 127) (q := 2) G dM_volume_127 rfl rfl ?_
        refine w_iload (pc := 128) (q := 3) G dM_volume_128 rfl ?_
        obtain ⟨r130, e130, h⟩ := bd h
        refine w_callV (pc := 130) (av := [.int (0 : Int32), .int (1 : Int32), .int v3, .int v4]) (rest := [.long r121, .long v1]) (v := some (.long r130)) (L' := (LM κ (x_many, x_generator, x_known, x_without, x_rows, x_row, x_pivot, x_fresh, x_multiple, x_last, x_made, x_settled, x_point, x_limit, x_mode, x_counted, x_listed, x_held, x_first, x_squares, x_wanted, x_spanned, x_span, x_minima, x_measured, x_found, x_any) X)) (T := TM) (fs := fl_M κ (x_many, x_generator, x_known, x_without, x_rows, x_row, x_pivot, x_fresh, x_multiple, x_last, x_made, x_settled, x_point, x_limit, x_mode, x_counted, x_listed, x_held, x_first, x_squares, x_wanted, x_spanned, x_span, x_minima, x_measured, x_found, x_any)) G 0 0 27 (by decide) lb_M rfl cb_M_two_M_volume wd632 ws27 wd630 (met_M_two κ X F (0 : Int32) (1 : Int32) v3 v4  e130) rfl rfl rfl (Nat.le_of_ble_eq_true rfl) dM_volume_130 ?_
        refine w_lmul (pc := 133) G dM_volume_133 ?_
        refine w_goto (pc := 134) (tgt := 138) G dM_volume_134 (by decide) ?_
        refine w_ladd (pc := 138) G dM_volume_138 ?_
        refine w_lstore_n (pc := 139) (lv' := [(1, .long (v1 + (r121 * r130))), (0, .ref (κ.1 0)), (3, .int v3), (4, .int v4)]) G dM_volume_139 rfl (by decide) rfl ?_
        refine w_iload (pc := 140) (q := 3) G dM_volume_140 rfl ?_
        refine w_iconst (pc := 142) (v := (1 : Int32)) G dM_volume_142 (by decide) ?_
        refine w_iadd (pc := 143) G dM_volume_143 ?_
        refine w_istore (pc := 144) (lv' := [(5, .int (v4 + (1 : Int32))), (1, .long (v1 + (r121 * r130))), (0, .ref (κ.1 0)), (3, .int v3), (4, .int v4)]) G dM_volume_144 (by decide) rfl ?_
        refine w_sub (lv' := [(0, .ref (κ.1 0)), (1, .long (v1 + (r121 * r130))), (3, .int v3), (4, .int v4), (5, .int (v4 + (1 : Int32)))]) [2, 1, 3, 4, 0] rfl ?_
        obtain ⟨o146_72, eo146_72, h⟩ := bd h
        refine lM_volume_146_ok G X F v3 v4 F (v1 + (r121 * r130)) (v4 + (1 : Int32)) o146_72 eo146_72 ?_
        refine w_iinc (pc := 192) (q0 := 3) (v := (v4 + 1)) (lv' := [(4, .int (v4 + 1)), (0, .ref (κ.1 0)), (1, .long o146_72), (3, .int v3)]) G dM_volume_192 rfl rfl (by decide) rfl ?_
        refine w_goto (pc := 195) (tgt := 100) G dM_volume_195 (by decide) ?_
        refine w_sub (lv' := [(0, .ref (κ.1 0)), (1, .long o146_72), (3, .int v3), (4, .int (v4 + 1))]) [1, 2, 3, 0] rfl ?_
        exact ih o146_72 (v4 + 1) out h K
      · have h := if_f c112 h
        refine w_lconst (pc := 137) (v := (0 : Int64)) G dM_volume_137 (by decide) ?_
        refine w_ladd (pc := 138) G dM_volume_138 ?_
        refine w_lstore_n (pc := 139) (lv' := [(1, .long (v1 + (0 : Int64))), (0, .ref (κ.1 0)), (3, .int v3), (4, .int v4)]) G dM_volume_139 rfl (by decide) rfl ?_
        refine w_iload (pc := 140) (q := 3) G dM_volume_140 rfl ?_
        refine w_iconst (pc := 142) (v := (1 : Int32)) G dM_volume_142 (by decide) ?_
        refine w_iadd (pc := 143) G dM_volume_143 ?_
        refine w_istore (pc := 144) (lv' := [(5, .int (v4 + (1 : Int32))), (1, .long (v1 + (0 : Int64))), (0, .ref (κ.1 0)), (3, .int v3), (4, .int v4)]) G dM_volume_144 (by decide) rfl ?_
        refine w_sub (lv' := [(0, .ref (κ.1 0)), (1, .long (v1 + (0 : Int64))), (3, .int v3), (4, .int v4), (5, .int (v4 + (1 : Int32)))]) [2, 1, 3, 4, 0] rfl ?_
        obtain ⟨o146_73, eo146_73, h⟩ := bd h
        refine lM_volume_146_ok G X F v3 v4 F (v1 + (0 : Int64)) (v4 + (1 : Int32)) o146_73 eo146_73 ?_
        refine w_iinc (pc := 192) (q0 := 3) (v := (v4 + 1)) (lv' := [(4, .int (v4 + 1)), (0, .ref (κ.1 0)), (1, .long o146_73), (3, .int v3)]) G dM_volume_192 rfl rfl (by decide) rfl ?_
        refine w_goto (pc := 195) (tgt := 100) G dM_volume_195 (by decide) ?_
        refine w_sub (lv' := [(0, .ref (κ.1 0)), (1, .long o146_73), (3, .int v3), (4, .int (v4 + 1))]) [1, 2, 3, 0] rfl ?_
        exact ih o146_73 (v4 + 1) out h K
noncomputable def lM_volume_62 (F : Nat) (x_rows : Int32) (x_row : Nat → Int64) : Nat → Int64 → Int32 → Option (Int64)
  | 0, _, _ => none
  | n + 1, v1, v3 => if (4 : Int32) ≤ v3 then some (v1) else if x_rows = (1 : Int32) then gd (vp_in v3 16) (gd (vp_in v3 16) ((lM_volume_100 F x_rows x_row v3 F (v1 + ((x_row v3.toNatClampNeg) * (x_row v3.toNatClampNeg))) (v3 + (1 : Int32))).bind (fun o100_73 => lM_volume_62 F x_rows x_row n o100_73 (v3 + 1)))) else (lM_volume_100 F x_rows x_row v3 F (v1 + (0 : Int64)) (v3 + (1 : Int32))).bind (fun o100_74 => lM_volume_62 F x_rows x_row n o100_74 (v3 + 1))
set_option maxHeartbeats 8000000 in
set_option maxRecDepth 100000 in
theorem lM_volume_62_ok {g : Gm} {κ : ctx} (G : OK g κ RM cM_volume 6 (some .long) rm_M_volume) (X : Nat → va_E) (F : Nat) {x_many : Int32} {x_generator : Nat → Int32} {x_known : Int32} {x_without : Int32} {x_rows : Int32} {x_row : Nat → Int64} {x_pivot : Nat → Int32} {x_fresh : Nat → Int64} {x_multiple : Nat → Int64} {x_last : Nat → Int64} {x_made : Nat → Int64} {x_settled : Nat → Int64} {x_point : Nat → Int64} {x_limit : Int64} {x_mode : Int32} {x_counted : Int32} {x_listed : Int32} {x_held : Int32} {x_first : Nat → Int64} {x_squares : Nat → Int64} {x_wanted : Int32} {x_spanned : Int32} {x_span : Nat → Int64} {x_minima : Nat → Int32} {x_measured : Int32} {x_found : Nat → Int64} {x_any : Int32} : ∀ (n : Nat) (v1 : Int64) (v3 : Int32) (out : Int64), lM_volume_62 F x_rows x_row  n v1 v3 = some out → (J g κ 6 204 [(1, .long out)] [] (LM κ (x_many, x_generator, x_known, x_without, x_rows, x_row, x_pivot, x_fresh, x_multiple, x_last, x_made, x_settled, x_point, x_limit, x_mode, x_counted, x_listed, x_held, x_first, x_squares, x_wanted, x_spanned, x_span, x_minima, x_measured, x_found, x_any) X)) → J g κ 6 62 [(0, .ref (κ.1 0)), (1, .long v1), (3, .int v3)] [] (LM κ (x_many, x_generator, x_known, x_without, x_rows, x_row, x_pivot, x_fresh, x_multiple, x_last, x_made, x_settled, x_point, x_limit, x_mode, x_counted, x_listed, x_held, x_first, x_squares, x_wanted, x_spanned, x_span, x_minima, x_measured, x_found, x_any) X) := by
  intro n
  induction n with
  | zero =>
    intro v1 v3
    intro out h
    rw [lM_volume_62] at h
    cases h
  | succ n ih =>
    intro v1 v3 out h K
    rw [lM_volume_62] at h
    refine w_iload_n (pc := 62) (q := 2) G dM_volume_62 rfl rfl ?_
    refine w_iconst (pc := 63) (v := (4 : Int32)) G dM_volume_63 (by decide) ?_
    refine w_icmp_ge (pc := 64) (tgt := 204) G dM_volume_64 (by decide) (fun c64 => ?_) (fun c64 => ?_)
    · have h := if_t c64 h
      obtain rfl := Option.some.inj h
      refine w_sub (lv' := [(1, .long v1)]) [1] rfl ?_
      exact K
    · have h := if_f c64 h
      refine w_lload_n (pc := 67) (q := 1) G dM_volume_67 rfl rfl ?_
      refine w_aload_n (pc := 68) (q := 0) G dM_volume_68 rfl rfl ?_
      refine w_get (pc := 69) (v := .int x_rows) (fs := fl_M κ (x_many, x_generator, x_known, x_without, x_rows, x_row, x_pivot, x_fresh, x_multiple, x_last, x_made, x_settled, x_point, x_limit, x_mode, x_counted, x_listed, x_held, x_first, x_squares, x_wanted, x_spanned, x_span, x_minima, x_measured, x_found, x_any)) G 0 (by decide) lb_M rfl wsM_ok 4 (by decide) wd494 gf_M_4 dM_volume_69 ?_
      refine w_iconst (pc := 72) (v := (1 : Int32)) G dM_volume_72 (by decide) ?_
      refine w_icmp_ne (pc := 73) (tgt := 92) G dM_volume_73 (by decide) (fun c73 => ?_) (fun c73 => ?_)
      · have h := if_t c73 h
        refine w_aload_n (pc := 76) (q := 0) G dM_volume_76 rfl rfl ?_
        refine w_get (pc := 77) (v := .ref (κ.1 2)) (fs := fl_M κ (x_many, x_generator, x_known, x_without, x_rows, x_row, x_pivot, x_fresh, x_multiple, x_last, x_made, x_settled, x_point, x_limit, x_mode, x_counted, x_listed, x_held, x_first, x_squares, x_wanted, x_spanned, x_span, x_minima, x_measured, x_found, x_any)) G 0 (by decide) lb_M rfl wsM_ok 5 (by decide) wd495 gf_M_5 dM_volume_77 ?_
        refine w_iload_n (pc := 80) (q := 2) G dM_volume_80 rfl rfl ?_
        obtain ⟨i81, h⟩ := gd_some h
        refine w_lald (pc := 81) (n := 16) (f := x_row) G 2 (by decide) lk_row i81 dM_volume_81 ?_
        refine w_aload_n (pc := 82) (q := 0) G dM_volume_82 rfl rfl ?_
        refine w_get (pc := 83) (v := .ref (κ.1 2)) (fs := fl_M κ (x_many, x_generator, x_known, x_without, x_rows, x_row, x_pivot, x_fresh, x_multiple, x_last, x_made, x_settled, x_point, x_limit, x_mode, x_counted, x_listed, x_held, x_first, x_squares, x_wanted, x_spanned, x_span, x_minima, x_measured, x_found, x_any)) G 0 (by decide) lb_M rfl wsM_ok 5 (by decide) wd495 gf_M_5 dM_volume_83 ?_
        refine w_iload_n (pc := 86) (q := 2) G dM_volume_86 rfl rfl ?_
        obtain ⟨i87, h⟩ := gd_some h
        refine w_lald (pc := 87) (n := 16) (f := x_row) G 2 (by decide) lk_row i87 dM_volume_87 ?_
        refine w_lmul (pc := 88) G dM_volume_88 ?_
        refine w_goto (pc := 89) (tgt := 93) G dM_volume_89 (by decide) ?_
        refine w_ladd (pc := 93) G dM_volume_93 ?_
        refine w_lstore_n (pc := 94) (lv' := [(1, .long (v1 + ((x_row v3.toNatClampNeg) * (x_row v3.toNatClampNeg)))), (0, .ref (κ.1 0)), (3, .int v3)]) G dM_volume_94 rfl (by decide) rfl ?_
        refine w_iload_n (pc := 95) (q := 2) G dM_volume_95 rfl rfl ?_
        refine w_iconst (pc := 96) (v := (1 : Int32)) G dM_volume_96 (by decide) ?_
        refine w_iadd (pc := 97) G dM_volume_97 ?_
        refine w_istore (pc := 98) (lv' := [(4, .int (v3 + (1 : Int32))), (1, .long (v1 + ((x_row v3.toNatClampNeg) * (x_row v3.toNatClampNeg)))), (0, .ref (κ.1 0)), (3, .int v3)]) G dM_volume_98 (by decide) rfl ?_
        refine w_sub (lv' := [(0, .ref (κ.1 0)), (1, .long (v1 + ((x_row v3.toNatClampNeg) * (x_row v3.toNatClampNeg)))), (3, .int v3), (4, .int (v3 + (1 : Int32)))]) [2, 1, 3, 0] rfl ?_
        obtain ⟨o100_73, eo100_73, h⟩ := bd h
        refine lM_volume_100_ok G X F v3 F (v1 + ((x_row v3.toNatClampNeg) * (x_row v3.toNatClampNeg))) (v3 + (1 : Int32)) o100_73 eo100_73 ?_
        refine w_iinc (pc := 198) (q0 := 2) (v := (v3 + 1)) (lv' := [(3, .int (v3 + 1)), (0, .ref (κ.1 0)), (1, .long o100_73)]) G dM_volume_198 rfl rfl (by decide) rfl ?_
        refine w_goto (pc := 201) (tgt := 62) G dM_volume_201 (by decide) ?_
        refine w_sub (lv' := [(0, .ref (κ.1 0)), (1, .long o100_73), (3, .int (v3 + 1))]) [1, 2, 0] rfl ?_
        exact ih o100_73 (v3 + 1) out h K
      · have h := if_f c73 h
        refine w_lconst (pc := 92) (v := (0 : Int64)) G dM_volume_92 (by decide) ?_
        refine w_ladd (pc := 93) G dM_volume_93 ?_
        refine w_lstore_n (pc := 94) (lv' := [(1, .long (v1 + (0 : Int64))), (0, .ref (κ.1 0)), (3, .int v3)]) G dM_volume_94 rfl (by decide) rfl ?_
        refine w_iload_n (pc := 95) (q := 2) G dM_volume_95 rfl rfl ?_
        refine w_iconst (pc := 96) (v := (1 : Int32)) G dM_volume_96 (by decide) ?_
        refine w_iadd (pc := 97) G dM_volume_97 ?_
        refine w_istore (pc := 98) (lv' := [(4, .int (v3 + (1 : Int32))), (1, .long (v1 + (0 : Int64))), (0, .ref (κ.1 0)), (3, .int v3)]) G dM_volume_98 (by decide) rfl ?_
        refine w_sub (lv' := [(0, .ref (κ.1 0)), (1, .long (v1 + (0 : Int64))), (3, .int v3), (4, .int (v3 + (1 : Int32)))]) [2, 1, 3, 0] rfl ?_
        obtain ⟨o100_74, eo100_74, h⟩ := bd h
        refine lM_volume_100_ok G X F v3 F (v1 + (0 : Int64)) (v3 + (1 : Int32)) o100_74 eo100_74 ?_
        refine w_iinc (pc := 198) (q0 := 2) (v := (v3 + 1)) (lv' := [(3, .int (v3 + 1)), (0, .ref (κ.1 0)), (1, .long o100_74)]) G dM_volume_198 rfl rfl (by decide) rfl ?_
        refine w_goto (pc := 201) (tgt := 62) G dM_volume_201 (by decide) ?_
        refine w_sub (lv' := [(0, .ref (κ.1 0)), (1, .long o100_74), (3, .int (v3 + 1))]) [1, 2, 0] rfl ?_
        exact ih o100_74 (v3 + 1) out h K
noncomputable def M_volume (F : Nat) (x_many : Int32) (x_generator : Nat → Int32) (x_known : Int32) (x_without : Int32) (x_rows : Int32) (x_row : Nat → Int64) (x_pivot : Nat → Int32) (x_fresh : Nat → Int64)  : Option (Int64 × Int32 × Int32 × Int32 × (Nat → Int64) × (Nat → Int32) × (Nat → Int64)) := (M_look F x_many x_generator x_known x_without x_rows x_row x_pivot x_fresh (-1 : Int32)).bind (fun r2 => if r2.2.2.1 = 0 then if r2.2.2.1 = (4 : Int32) then gd (vp_in (0 : Int32) 16) (gd (vp_in (5 : Int32) 16) (gd (vp_in (10 : Int32) 16) (gd (vp_in (15 : Int32) 16) (some ((((((r2.2.2.2.1 (0 : Int32).toNatClampNeg) * (r2.2.2.2.1 (5 : Int32).toNatClampNeg)) * (r2.2.2.2.1 (10 : Int32).toNatClampNeg)) * (r2.2.2.2.1 (15 : Int32).toNatClampNeg)) * ((((r2.2.2.2.1 (0 : Int32).toNatClampNeg) * (r2.2.2.2.1 (5 : Int32).toNatClampNeg)) * (r2.2.2.2.1 (10 : Int32).toNatClampNeg)) * (r2.2.2.2.1 (15 : Int32).toNatClampNeg))), r2.1, r2.2.1, r2.2.2.1, r2.2.2.2.1, r2.2.2.2.2.1, r2.2.2.2.2.2))))) else (lM_volume_62 F r2.2.2.1 r2.2.2.2.1 F (1 : Int64) (0 : Int32)).bind (fun o62_74 => some (o62_74, r2.1, r2.2.1, r2.2.2.1, r2.2.2.2.1, r2.2.2.2.2.1, r2.2.2.2.2.2)) else if r2.2.2.1 = (4 : Int32) then gd (vp_in (0 : Int32) 16) (gd (vp_in (5 : Int32) 16) (gd (vp_in (10 : Int32) 16) (gd (vp_in (15 : Int32) 16) (some ((((((r2.2.2.2.1 (0 : Int32).toNatClampNeg) * (r2.2.2.2.1 (5 : Int32).toNatClampNeg)) * (r2.2.2.2.1 (10 : Int32).toNatClampNeg)) * (r2.2.2.2.1 (15 : Int32).toNatClampNeg)) * ((((r2.2.2.2.1 (0 : Int32).toNatClampNeg) * (r2.2.2.2.1 (5 : Int32).toNatClampNeg)) * (r2.2.2.2.1 (10 : Int32).toNatClampNeg)) * (r2.2.2.2.1 (15 : Int32).toNatClampNeg))), r2.1, r2.2.1, r2.2.2.1, r2.2.2.2.1, r2.2.2.2.2.1, r2.2.2.2.2.2))))) else (lM_volume_62 F r2.2.2.1 r2.2.2.2.1 F (0 : Int64) (0 : Int32)).bind (fun o62_77 => some (o62_77, r2.1, r2.2.1, r2.2.2.1, r2.2.2.2.1, r2.2.2.2.2.1, r2.2.2.2.2.2)))
set_option maxHeartbeats 8000000 in
set_option maxRecDepth 100000 in
theorem met_M_volume (κ : ctx) (X : Nat → va_E) (F : Nat) {x_many : Int32} {x_generator : Nat → Int32} {x_known : Int32} {x_without : Int32} {x_rows : Int32} {x_row : Nat → Int64} {x_pivot : Nat → Int32} {x_fresh : Nat → Int64} {x_multiple : Nat → Int64} {x_last : Nat → Int64} {x_made : Nat → Int64} {x_settled : Nat → Int64} {x_point : Nat → Int64} {x_limit : Int64} {x_mode : Int32} {x_counted : Int32} {x_listed : Int32} {x_held : Int32} {x_first : Nat → Int64} {x_squares : Nat → Int64} {x_wanted : Int32} {x_spanned : Int32} {x_span : Nat → Int64} {x_minima : Nat → Int32} {x_measured : Int32} {x_found : Nat → Int64} {x_any : Int32}  {out : Int64 × Int32 × Int32 × Int32 × (Nat → Int64) × (Nat → Int32) × (Nat → Int64)} (h : M_volume F x_many x_generator x_known x_without x_rows x_row x_pivot x_fresh  = some out) : Mt yM_volume cM_volume 6 (some .long) rm_M_volume κ [.ref (κ.1 0)] (LM κ (x_many, x_generator, x_known, x_without, x_rows, x_row, x_pivot, x_fresh, x_multiple, x_last, x_made, x_settled, x_point, x_limit, x_mode, x_counted, x_listed, x_held, x_first, x_squares, x_wanted, x_spanned, x_span, x_minima, x_measured, x_found, x_any) X) (some (.long out.1)) (LM κ (x_many, x_generator, out.2.1, out.2.2.1, out.2.2.2.1, out.2.2.2.2.1, out.2.2.2.2.2.1, out.2.2.2.2.2.2, x_multiple, x_last, x_made, x_settled, x_point, x_limit, x_mode, x_counted, x_listed, x_held, x_first, x_squares, x_wanted, x_spanned, x_span, x_minima, x_measured, x_found, x_any) X) := by
  refine Mt.of (by decide) (Nat.le_of_ble_eq_true rfl) ?_
  intro g G Fh
  unfold M_volume at h
  show J g κ 6 0 [(0, .ref (κ.1 0))] [] (LM κ (x_many, x_generator, x_known, x_without, x_rows, x_row, x_pivot, x_fresh, x_multiple, x_last, x_made, x_settled, x_point, x_limit, x_mode, x_counted, x_listed, x_held, x_first, x_squares, x_wanted, x_spanned, x_span, x_minima, x_measured, x_found, x_any) X)
  refine w_aload_n (pc := 0) (q := 0) G dM_volume_0 rfl rfl ?_
  refine w_iconst (pc := 1) (v := (-1 : Int32)) G dM_volume_1 (by decide) ?_
  obtain ⟨r2, e2, h⟩ := bd h
  refine w_callV (pc := 2) (av := [.int (-1 : Int32)]) (rest := []) (v := none) (L' := (LM κ (x_many, x_generator, r2.1, r2.2.1, r2.2.2.1, r2.2.2.2.1, r2.2.2.2.2.1, r2.2.2.2.2.2, x_multiple, x_last, x_made, x_settled, x_point, x_limit, x_mode, x_counted, x_listed, x_held, x_first, x_squares, x_wanted, x_spanned, x_span, x_minima, x_measured, x_found, x_any) X)) (T := TM) (fs := fl_M κ (x_many, x_generator, x_known, x_without, x_rows, x_row, x_pivot, x_fresh, x_multiple, x_last, x_made, x_settled, x_point, x_limit, x_mode, x_counted, x_listed, x_held, x_first, x_squares, x_wanted, x_spanned, x_span, x_minima, x_measured, x_found, x_any)) G 0 0 27 (by decide) lb_M rfl cb_M_look_M_volume wd597 ws20 wd595 (met_M_look κ X F (-1 : Int32)  e2) rfl rfl rfl (Nat.le_of_ble_eq_true rfl) dM_volume_2 ?_
  refine w_aload_n (pc := 5) (q := 0) G dM_volume_5 rfl rfl ?_
  refine w_get (pc := 6) (v := .int r2.2.2.1) (fs := fl_M κ (x_many, x_generator, r2.1, r2.2.1, r2.2.2.1, r2.2.2.2.1, r2.2.2.2.2.1, r2.2.2.2.2.2, x_multiple, x_last, x_made, x_settled, x_point, x_limit, x_mode, x_counted, x_listed, x_held, x_first, x_squares, x_wanted, x_spanned, x_span, x_minima, x_measured, x_found, x_any)) G 0 (by decide) lb_M rfl wsM_ok 4 (by decide) wd494 gf_M_4 dM_volume_6 ?_
  refine w_if_ne (pc := 9) (tgt := 16) G dM_volume_9 (by decide) (fun c9 => ?_) (fun c9 => ?_)
  · have h := if_t c9 h
    refine w_lconst (pc := 12) (v := (1 : Int64)) G dM_volume_12 (by decide) ?_
    refine w_goto (pc := 13) (tgt := 17) G dM_volume_13 (by decide) ?_
    refine w_lstore_n (pc := 17) (lv' := [(1, .long (1 : Int64)), (0, .ref (κ.1 0))]) G dM_volume_17 rfl (by decide) rfl ?_
    refine w_aload_n (pc := 18) (q := 1) G dM_volume_18 rfl rfl ?_
    refine w_get (pc := 19) (v := .int r2.2.2.1) (fs := fl_M κ (x_many, x_generator, r2.1, r2.2.1, r2.2.2.1, r2.2.2.2.1, r2.2.2.2.2.1, r2.2.2.2.2.2, x_multiple, x_last, x_made, x_settled, x_point, x_limit, x_mode, x_counted, x_listed, x_held, x_first, x_squares, x_wanted, x_spanned, x_span, x_minima, x_measured, x_found, x_any)) G 0 (by decide) lb_M rfl wsM_ok 4 (by decide) wd494 gf_M_4 dM_volume_19 ?_
    refine w_iconst (pc := 22) (v := (4 : Int32)) G dM_volume_22 (by decide) ?_
    refine w_icmp_ne (pc := 23) (tgt := 60) G dM_volume_23 (by decide) (fun c23 => ?_) (fun c23 => ?_)
    · have h := if_t c23 h
      refine w_aload_n (pc := 26) (q := 1) G dM_volume_26 rfl rfl ?_
      refine w_get (pc := 27) (v := .ref (κ.1 2)) (fs := fl_M κ (x_many, x_generator, r2.1, r2.2.1, r2.2.2.1, r2.2.2.2.1, r2.2.2.2.2.1, r2.2.2.2.2.2, x_multiple, x_last, x_made, x_settled, x_point, x_limit, x_mode, x_counted, x_listed, x_held, x_first, x_squares, x_wanted, x_spanned, x_span, x_minima, x_measured, x_found, x_any)) G 0 (by decide) lb_M rfl wsM_ok 5 (by decide) wd495 gf_M_5 dM_volume_27 ?_
      refine w_iconst (pc := 30) (v := (0 : Int32)) G dM_volume_30 (by decide) ?_
      obtain ⟨i31, h⟩ := gd_some h
      refine w_lald (pc := 31) (n := 16) (f := r2.2.2.2.1) G 2 (by decide) lk_row i31 dM_volume_31 ?_
      refine w_aload_n (pc := 32) (q := 1) G dM_volume_32 rfl rfl ?_
      refine w_get (pc := 33) (v := .ref (κ.1 2)) (fs := fl_M κ (x_many, x_generator, r2.1, r2.2.1, r2.2.2.1, r2.2.2.2.1, r2.2.2.2.2.1, r2.2.2.2.2.2, x_multiple, x_last, x_made, x_settled, x_point, x_limit, x_mode, x_counted, x_listed, x_held, x_first, x_squares, x_wanted, x_spanned, x_span, x_minima, x_measured, x_found, x_any)) G 0 (by decide) lb_M rfl wsM_ok 5 (by decide) wd495 gf_M_5 dM_volume_33 ?_
      refine w_iconst (pc := 36) (v := (5 : Int32)) G dM_volume_36 (by decide) ?_
      obtain ⟨i37, h⟩ := gd_some h
      refine w_lald (pc := 37) (n := 16) (f := r2.2.2.2.1) G 2 (by decide) lk_row i37 dM_volume_37 ?_
      refine w_lmul (pc := 38) G dM_volume_38 ?_
      refine w_aload_n (pc := 39) (q := 1) G dM_volume_39 rfl rfl ?_
      refine w_get (pc := 40) (v := .ref (κ.1 2)) (fs := fl_M κ (x_many, x_generator, r2.1, r2.2.1, r2.2.2.1, r2.2.2.2.1, r2.2.2.2.2.1, r2.2.2.2.2.2, x_multiple, x_last, x_made, x_settled, x_point, x_limit, x_mode, x_counted, x_listed, x_held, x_first, x_squares, x_wanted, x_spanned, x_span, x_minima, x_measured, x_found, x_any)) G 0 (by decide) lb_M rfl wsM_ok 5 (by decide) wd495 gf_M_5 dM_volume_40 ?_
      refine w_bipush (pc := 43) (v := (10 : Int32)) G dM_volume_43 (by decide) ?_
      obtain ⟨i45, h⟩ := gd_some h
      refine w_lald (pc := 45) (n := 16) (f := r2.2.2.2.1) G 2 (by decide) lk_row i45 dM_volume_45 ?_
      refine w_lmul (pc := 46) G dM_volume_46 ?_
      refine w_aload_n (pc := 47) (q := 1) G dM_volume_47 rfl rfl ?_
      refine w_get (pc := 48) (v := .ref (κ.1 2)) (fs := fl_M κ (x_many, x_generator, r2.1, r2.2.1, r2.2.2.1, r2.2.2.2.1, r2.2.2.2.2.1, r2.2.2.2.2.2, x_multiple, x_last, x_made, x_settled, x_point, x_limit, x_mode, x_counted, x_listed, x_held, x_first, x_squares, x_wanted, x_spanned, x_span, x_minima, x_measured, x_found, x_any)) G 0 (by decide) lb_M rfl wsM_ok 5 (by decide) wd495 gf_M_5 dM_volume_48 ?_
      refine w_bipush (pc := 51) (v := (15 : Int32)) G dM_volume_51 (by decide) ?_
      obtain ⟨i53, h⟩ := gd_some h
      refine w_lald (pc := 53) (n := 16) (f := r2.2.2.2.1) G 2 (by decide) lk_row i53 dM_volume_53 ?_
      refine w_lmul (pc := 54) G dM_volume_54 ?_
      refine w_lstore_n (pc := 55) (lv' := [(3, .long ((((r2.2.2.2.1 (0 : Int32).toNatClampNeg) * (r2.2.2.2.1 (5 : Int32).toNatClampNeg)) * (r2.2.2.2.1 (10 : Int32).toNatClampNeg)) * (r2.2.2.2.1 (15 : Int32).toNatClampNeg))), (1, .long (1 : Int64)), (0, .ref (κ.1 0))]) G dM_volume_55 rfl (by decide) rfl ?_
      refine w_lload_n (pc := 56) (q := 0) G dM_volume_56 rfl rfl ?_
      refine w_lload_n (pc := 57) (q := 0) G dM_volume_57 rfl rfl ?_
      refine w_lmul (pc := 58) G dM_volume_58 ?_
      obtain rfl := Option.some.inj h
      exact w_lret (pc := 59) G dM_volume_59 Fh
    · have h := if_f c23 h
      refine w_iconst (pc := 60) (v := (0 : Int32)) G dM_volume_60 (by decide) ?_
      refine w_istore_n (pc := 61) (lv' := [(3, .int (0 : Int32)), (1, .long (1 : Int64)), (0, .ref (κ.1 0))]) G dM_volume_61 rfl (by decide) rfl ?_
      refine w_sub (lv' := [(0, .ref (κ.1 0)), (1, .long (1 : Int64)), (3, .int (0 : Int32))]) [2, 1, 0] rfl ?_
      obtain ⟨o62_74, eo62_74, h⟩ := bd h
      refine lM_volume_62_ok G X F F (1 : Int64) (0 : Int32) o62_74 eo62_74 ?_
      refine w_lload_n (pc := 204) (q := 0) G dM_volume_204 rfl rfl ?_
      obtain rfl := Option.some.inj h
      exact w_lret (pc := 205) G dM_volume_205 Fh
  · have h := if_f c9 h
    refine w_lconst (pc := 16) (v := (0 : Int64)) G dM_volume_16 (by decide) ?_
    refine w_lstore_n (pc := 17) (lv' := [(1, .long (0 : Int64)), (0, .ref (κ.1 0))]) G dM_volume_17 rfl (by decide) rfl ?_
    refine w_aload_n (pc := 18) (q := 1) G dM_volume_18 rfl rfl ?_
    refine w_get (pc := 19) (v := .int r2.2.2.1) (fs := fl_M κ (x_many, x_generator, r2.1, r2.2.1, r2.2.2.1, r2.2.2.2.1, r2.2.2.2.2.1, r2.2.2.2.2.2, x_multiple, x_last, x_made, x_settled, x_point, x_limit, x_mode, x_counted, x_listed, x_held, x_first, x_squares, x_wanted, x_spanned, x_span, x_minima, x_measured, x_found, x_any)) G 0 (by decide) lb_M rfl wsM_ok 4 (by decide) wd494 gf_M_4 dM_volume_19 ?_
    refine w_iconst (pc := 22) (v := (4 : Int32)) G dM_volume_22 (by decide) ?_
    refine w_icmp_ne (pc := 23) (tgt := 60) G dM_volume_23 (by decide) (fun c23 => ?_) (fun c23 => ?_)
    · have h := if_t c23 h
      refine w_aload_n (pc := 26) (q := 1) G dM_volume_26 rfl rfl ?_
      refine w_get (pc := 27) (v := .ref (κ.1 2)) (fs := fl_M κ (x_many, x_generator, r2.1, r2.2.1, r2.2.2.1, r2.2.2.2.1, r2.2.2.2.2.1, r2.2.2.2.2.2, x_multiple, x_last, x_made, x_settled, x_point, x_limit, x_mode, x_counted, x_listed, x_held, x_first, x_squares, x_wanted, x_spanned, x_span, x_minima, x_measured, x_found, x_any)) G 0 (by decide) lb_M rfl wsM_ok 5 (by decide) wd495 gf_M_5 dM_volume_27 ?_
      refine w_iconst (pc := 30) (v := (0 : Int32)) G dM_volume_30 (by decide) ?_
      obtain ⟨i31, h⟩ := gd_some h
      refine w_lald (pc := 31) (n := 16) (f := r2.2.2.2.1) G 2 (by decide) lk_row i31 dM_volume_31 ?_
      refine w_aload_n (pc := 32) (q := 1) G dM_volume_32 rfl rfl ?_
      refine w_get (pc := 33) (v := .ref (κ.1 2)) (fs := fl_M κ (x_many, x_generator, r2.1, r2.2.1, r2.2.2.1, r2.2.2.2.1, r2.2.2.2.2.1, r2.2.2.2.2.2, x_multiple, x_last, x_made, x_settled, x_point, x_limit, x_mode, x_counted, x_listed, x_held, x_first, x_squares, x_wanted, x_spanned, x_span, x_minima, x_measured, x_found, x_any)) G 0 (by decide) lb_M rfl wsM_ok 5 (by decide) wd495 gf_M_5 dM_volume_33 ?_
      refine w_iconst (pc := 36) (v := (5 : Int32)) G dM_volume_36 (by decide) ?_
      obtain ⟨i37, h⟩ := gd_some h
      refine w_lald (pc := 37) (n := 16) (f := r2.2.2.2.1) G 2 (by decide) lk_row i37 dM_volume_37 ?_
      refine w_lmul (pc := 38) G dM_volume_38 ?_
      refine w_aload_n (pc := 39) (q := 1) G dM_volume_39 rfl rfl ?_
      refine w_get (pc := 40) (v := .ref (κ.1 2)) (fs := fl_M κ (x_many, x_generator, r2.1, r2.2.1, r2.2.2.1, r2.2.2.2.1, r2.2.2.2.2.1, r2.2.2.2.2.2, x_multiple, x_last, x_made, x_settled, x_point, x_limit, x_mode, x_counted, x_listed, x_held, x_first, x_squares, x_wanted, x_spanned, x_span, x_minima, x_measured, x_found, x_any)) G 0 (by decide) lb_M rfl wsM_ok 5 (by decide) wd495 gf_M_5 dM_volume_40 ?_
      refine w_bipush (pc := 43) (v := (10 : Int32)) G dM_volume_43 (by decide) ?_
      obtain ⟨i45, h⟩ := gd_some h
      refine w_lald (pc := 45) (n := 16) (f := r2.2.2.2.1) G 2 (by decide) lk_row i45 dM_volume_45 ?_
      refine w_lmul (pc := 46) G dM_volume_46 ?_
      refine w_aload_n (pc := 47) (q := 1) G dM_volume_47 rfl rfl ?_
      refine w_get (pc := 48) (v := .ref (κ.1 2)) (fs := fl_M κ (x_many, x_generator, r2.1, r2.2.1, r2.2.2.1, r2.2.2.2.1, r2.2.2.2.2.1, r2.2.2.2.2.2, x_multiple, x_last, x_made, x_settled, x_point, x_limit, x_mode, x_counted, x_listed, x_held, x_first, x_squares, x_wanted, x_spanned, x_span, x_minima, x_measured, x_found, x_any)) G 0 (by decide) lb_M rfl wsM_ok 5 (by decide) wd495 gf_M_5 dM_volume_48 ?_
      refine w_bipush (pc := 51) (v := (15 : Int32)) G dM_volume_51 (by decide) ?_
      obtain ⟨i53, h⟩ := gd_some h
      refine w_lald (pc := 53) (n := 16) (f := r2.2.2.2.1) G 2 (by decide) lk_row i53 dM_volume_53 ?_
      refine w_lmul (pc := 54) G dM_volume_54 ?_
      refine w_lstore_n (pc := 55) (lv' := [(3, .long ((((r2.2.2.2.1 (0 : Int32).toNatClampNeg) * (r2.2.2.2.1 (5 : Int32).toNatClampNeg)) * (r2.2.2.2.1 (10 : Int32).toNatClampNeg)) * (r2.2.2.2.1 (15 : Int32).toNatClampNeg))), (1, .long (0 : Int64)), (0, .ref (κ.1 0))]) G dM_volume_55 rfl (by decide) rfl ?_
      refine w_lload_n (pc := 56) (q := 0) G dM_volume_56 rfl rfl ?_
      refine w_lload_n (pc := 57) (q := 0) G dM_volume_57 rfl rfl ?_
      refine w_lmul (pc := 58) G dM_volume_58 ?_
      obtain rfl := Option.some.inj h
      exact w_lret (pc := 59) G dM_volume_59 Fh
    · have h := if_f c23 h
      refine w_iconst (pc := 60) (v := (0 : Int32)) G dM_volume_60 (by decide) ?_
      refine w_istore_n (pc := 61) (lv' := [(3, .int (0 : Int32)), (1, .long (0 : Int64)), (0, .ref (κ.1 0))]) G dM_volume_61 rfl (by decide) rfl ?_
      refine w_sub (lv' := [(0, .ref (κ.1 0)), (1, .long (0 : Int64)), (3, .int (0 : Int32))]) [2, 1, 0] rfl ?_
      obtain ⟨o62_77, eo62_77, h⟩ := bd h
      refine lM_volume_62_ok G X F F (0 : Int64) (0 : Int32) o62_77 eo62_77 ?_
      refine w_lload_n (pc := 204) (q := 0) G dM_volume_204 rfl rfl ?_
      obtain rfl := Option.some.inj h
      exact w_lret (pc := 205) G dM_volume_205 Fh
def rm_M_set : Room := { frames := 0, cells := 0, slots := 0, locals := 0 }
theorem dM_set_0 : decode cM_set 0 = .ok (.aload_n 0, 1) := by decide +kernel
theorem dM_set_1 : decode cM_set 1 = .ok (.getfield 20, 3) := by decide +kernel
theorem dM_set_4 : decode cM_set 4 = .ok (.iconst 0, 1) := by decide +kernel
theorem dM_set_5 : decode cM_set 5 = .ok (.iload_n 1, 1) := by decide +kernel
theorem dM_set_6 : decode cM_set 6 = .ok (.i2l, 1) := by decide +kernel
theorem dM_set_7 : decode cM_set 7 = .ok (.lastore, 1) := by decide +kernel
theorem dM_set_8 : decode cM_set 8 = .ok (.aload_n 0, 1) := by decide +kernel
theorem dM_set_9 : decode cM_set 9 = .ok (.getfield 20, 3) := by decide +kernel
theorem dM_set_12 : decode cM_set 12 = .ok (.iconst 1, 1) := by decide +kernel
theorem dM_set_13 : decode cM_set 13 = .ok (.iload_n 2, 1) := by decide +kernel
theorem dM_set_14 : decode cM_set 14 = .ok (.i2l, 1) := by decide +kernel
theorem dM_set_15 : decode cM_set 15 = .ok (.lastore, 1) := by decide +kernel
theorem dM_set_16 : decode cM_set 16 = .ok (.aload_n 0, 1) := by decide +kernel
theorem dM_set_17 : decode cM_set 17 = .ok (.getfield 20, 3) := by decide +kernel
theorem dM_set_20 : decode cM_set 20 = .ok (.iconst 2, 1) := by decide +kernel
theorem dM_set_21 : decode cM_set 21 = .ok (.iload_n 3, 1) := by decide +kernel
theorem dM_set_22 : decode cM_set 22 = .ok (.i2l, 1) := by decide +kernel
theorem dM_set_23 : decode cM_set 23 = .ok (.lastore, 1) := by decide +kernel
theorem dM_set_24 : decode cM_set 24 = .ok (.aload_n 0, 1) := by decide +kernel
theorem dM_set_25 : decode cM_set 25 = .ok (.getfield 20, 3) := by decide +kernel
theorem dM_set_28 : decode cM_set 28 = .ok (.iconst 3, 1) := by decide +kernel
theorem dM_set_29 : decode cM_set 29 = .ok (.iload 4, 2) := by decide +kernel
theorem dM_set_31 : decode cM_set 31 = .ok (.i2l, 1) := by decide +kernel
theorem dM_set_32 : decode cM_set 32 = .ok (.lastore, 1) := by decide +kernel
theorem dM_set_33 : decode cM_set 33 = .ok (.return_, 1) := by decide +kernel
noncomputable def M_set (F : Nat) (x_fresh : Nat → Int64) (v1 : Int32) (v2 : Int32) (v3 : Int32) (v4 : Int32) : Option ((Nat → Int64)) := gd (vp_in (0 : Int32) 4) (gd (vp_in (1 : Int32) 4) (gd (vp_in (2 : Int32) 4) (gd (vp_in (3 : Int32) 4) (some (vp_updL (vp_updL (vp_updL (vp_updL x_fresh (0 : Int32).toNatClampNeg v1.toInt64) (1 : Int32).toNatClampNeg v2.toInt64) (2 : Int32).toNatClampNeg v3.toInt64) (3 : Int32).toNatClampNeg v4.toInt64)))))
set_option maxHeartbeats 8000000 in
set_option maxRecDepth 100000 in
theorem met_M_set (κ : ctx) (X : Nat → va_E) (F : Nat) {x_many : Int32} {x_generator : Nat → Int32} {x_known : Int32} {x_without : Int32} {x_rows : Int32} {x_row : Nat → Int64} {x_pivot : Nat → Int32} {x_fresh : Nat → Int64} {x_multiple : Nat → Int64} {x_last : Nat → Int64} {x_made : Nat → Int64} {x_settled : Nat → Int64} {x_point : Nat → Int64} {x_limit : Int64} {x_mode : Int32} {x_counted : Int32} {x_listed : Int32} {x_held : Int32} {x_first : Nat → Int64} {x_squares : Nat → Int64} {x_wanted : Int32} {x_spanned : Int32} {x_span : Nat → Int64} {x_minima : Nat → Int32} {x_measured : Int32} {x_found : Nat → Int64} {x_any : Int32} (v1 : Int32) (v2 : Int32) (v3 : Int32) (v4 : Int32) {out : (Nat → Int64)} (h : M_set F x_fresh v1 v2 v3 v4 = some out) : Mt yM_set cM_set 5 none rm_M_set κ [.ref (κ.1 0), .int v1, .int v2, .int v3, .int v4] (LM κ (x_many, x_generator, x_known, x_without, x_rows, x_row, x_pivot, x_fresh, x_multiple, x_last, x_made, x_settled, x_point, x_limit, x_mode, x_counted, x_listed, x_held, x_first, x_squares, x_wanted, x_spanned, x_span, x_minima, x_measured, x_found, x_any) X) none (LM κ (x_many, x_generator, x_known, x_without, x_rows, x_row, x_pivot, out, x_multiple, x_last, x_made, x_settled, x_point, x_limit, x_mode, x_counted, x_listed, x_held, x_first, x_squares, x_wanted, x_spanned, x_span, x_minima, x_measured, x_found, x_any) X) := by
  refine Mt.of (by decide) (Nat.le_of_ble_eq_true rfl) ?_
  intro g G Fh
  unfold M_set at h
  show J g κ 5 0 [(0, .ref (κ.1 0)), (1, .int v1), (2, .int v2), (3, .int v3), (4, .int v4)] [] (LM κ (x_many, x_generator, x_known, x_without, x_rows, x_row, x_pivot, x_fresh, x_multiple, x_last, x_made, x_settled, x_point, x_limit, x_mode, x_counted, x_listed, x_held, x_first, x_squares, x_wanted, x_spanned, x_span, x_minima, x_measured, x_found, x_any) X)
  refine w_aload_n (pc := 0) (q := 0) G dM_set_0 rfl rfl ?_
  refine w_get (pc := 1) (v := .ref (κ.1 4)) (fs := fl_M κ (x_many, x_generator, x_known, x_without, x_rows, x_row, x_pivot, x_fresh, x_multiple, x_last, x_made, x_settled, x_point, x_limit, x_mode, x_counted, x_listed, x_held, x_first, x_squares, x_wanted, x_spanned, x_span, x_minima, x_measured, x_found, x_any)) G 0 (by decide) lb_M rfl wsM_ok 7 (by decide) wd497 gf_M_7 dM_set_1 ?_
  refine w_iconst (pc := 4) (v := (0 : Int32)) G dM_set_4 (by decide) ?_
  refine w_iload_n (pc := 5) (q := 1) G dM_set_5 rfl rfl ?_
  refine w_i2l (pc := 6) G dM_set_6 ?_
  obtain ⟨i7, h⟩ := gd_some h
  refine w_last (pc := 7) (n := 4) (f := x_fresh) (L1 := (LM κ (x_many, x_generator, x_known, x_without, x_rows, x_row, x_pivot, vp_updL x_fresh (0 : Int32).toNatClampNeg v1.toInt64, x_multiple, x_last, x_made, x_settled, x_point, x_limit, x_mode, x_counted, x_listed, x_held, x_first, x_squares, x_wanted, x_spanned, x_span, x_minima, x_measured, x_found, x_any) X)) G 4 (by decide) lk_fresh i7 dM_set_7 up_fresh ?_
  refine w_aload_n (pc := 8) (q := 0) G dM_set_8 rfl rfl ?_
  refine w_get (pc := 9) (v := .ref (κ.1 4)) (fs := fl_M κ (x_many, x_generator, x_known, x_without, x_rows, x_row, x_pivot, vp_updL x_fresh (0 : Int32).toNatClampNeg v1.toInt64, x_multiple, x_last, x_made, x_settled, x_point, x_limit, x_mode, x_counted, x_listed, x_held, x_first, x_squares, x_wanted, x_spanned, x_span, x_minima, x_measured, x_found, x_any)) G 0 (by decide) lb_M rfl wsM_ok 7 (by decide) wd497 gf_M_7 dM_set_9 ?_
  refine w_iconst (pc := 12) (v := (1 : Int32)) G dM_set_12 (by decide) ?_
  refine w_iload_n (pc := 13) (q := 2) G dM_set_13 rfl rfl ?_
  refine w_i2l (pc := 14) G dM_set_14 ?_
  obtain ⟨i15, h⟩ := gd_some h
  refine w_last (pc := 15) (n := 4) (f := vp_updL x_fresh (0 : Int32).toNatClampNeg v1.toInt64) (L1 := (LM κ (x_many, x_generator, x_known, x_without, x_rows, x_row, x_pivot, vp_updL (vp_updL x_fresh (0 : Int32).toNatClampNeg v1.toInt64) (1 : Int32).toNatClampNeg v2.toInt64, x_multiple, x_last, x_made, x_settled, x_point, x_limit, x_mode, x_counted, x_listed, x_held, x_first, x_squares, x_wanted, x_spanned, x_span, x_minima, x_measured, x_found, x_any) X)) G 4 (by decide) lk_fresh i15 dM_set_15 up_fresh ?_
  refine w_aload_n (pc := 16) (q := 0) G dM_set_16 rfl rfl ?_
  refine w_get (pc := 17) (v := .ref (κ.1 4)) (fs := fl_M κ (x_many, x_generator, x_known, x_without, x_rows, x_row, x_pivot, vp_updL (vp_updL x_fresh (0 : Int32).toNatClampNeg v1.toInt64) (1 : Int32).toNatClampNeg v2.toInt64, x_multiple, x_last, x_made, x_settled, x_point, x_limit, x_mode, x_counted, x_listed, x_held, x_first, x_squares, x_wanted, x_spanned, x_span, x_minima, x_measured, x_found, x_any)) G 0 (by decide) lb_M rfl wsM_ok 7 (by decide) wd497 gf_M_7 dM_set_17 ?_
  refine w_iconst (pc := 20) (v := (2 : Int32)) G dM_set_20 (by decide) ?_
  refine w_iload_n (pc := 21) (q := 3) G dM_set_21 rfl rfl ?_
  refine w_i2l (pc := 22) G dM_set_22 ?_
  obtain ⟨i23, h⟩ := gd_some h
  refine w_last (pc := 23) (n := 4) (f := vp_updL (vp_updL x_fresh (0 : Int32).toNatClampNeg v1.toInt64) (1 : Int32).toNatClampNeg v2.toInt64) (L1 := (LM κ (x_many, x_generator, x_known, x_without, x_rows, x_row, x_pivot, vp_updL (vp_updL (vp_updL x_fresh (0 : Int32).toNatClampNeg v1.toInt64) (1 : Int32).toNatClampNeg v2.toInt64) (2 : Int32).toNatClampNeg v3.toInt64, x_multiple, x_last, x_made, x_settled, x_point, x_limit, x_mode, x_counted, x_listed, x_held, x_first, x_squares, x_wanted, x_spanned, x_span, x_minima, x_measured, x_found, x_any) X)) G 4 (by decide) lk_fresh i23 dM_set_23 up_fresh ?_
  refine w_aload_n (pc := 24) (q := 0) G dM_set_24 rfl rfl ?_
  refine w_get (pc := 25) (v := .ref (κ.1 4)) (fs := fl_M κ (x_many, x_generator, x_known, x_without, x_rows, x_row, x_pivot, vp_updL (vp_updL (vp_updL x_fresh (0 : Int32).toNatClampNeg v1.toInt64) (1 : Int32).toNatClampNeg v2.toInt64) (2 : Int32).toNatClampNeg v3.toInt64, x_multiple, x_last, x_made, x_settled, x_point, x_limit, x_mode, x_counted, x_listed, x_held, x_first, x_squares, x_wanted, x_spanned, x_span, x_minima, x_measured, x_found, x_any)) G 0 (by decide) lb_M rfl wsM_ok 7 (by decide) wd497 gf_M_7 dM_set_25 ?_
  refine w_iconst (pc := 28) (v := (3 : Int32)) G dM_set_28 (by decide) ?_
  refine w_iload (pc := 29) (q := 4) G dM_set_29 rfl ?_
  refine w_i2l (pc := 31) G dM_set_31 ?_
  obtain ⟨i32, h⟩ := gd_some h
  refine w_last (pc := 32) (n := 4) (f := vp_updL (vp_updL (vp_updL x_fresh (0 : Int32).toNatClampNeg v1.toInt64) (1 : Int32).toNatClampNeg v2.toInt64) (2 : Int32).toNatClampNeg v3.toInt64) (L1 := (LM κ (x_many, x_generator, x_known, x_without, x_rows, x_row, x_pivot, vp_updL (vp_updL (vp_updL (vp_updL x_fresh (0 : Int32).toNatClampNeg v1.toInt64) (1 : Int32).toNatClampNeg v2.toInt64) (2 : Int32).toNatClampNeg v3.toInt64) (3 : Int32).toNatClampNeg v4.toInt64, x_multiple, x_last, x_made, x_settled, x_point, x_limit, x_mode, x_counted, x_listed, x_held, x_first, x_squares, x_wanted, x_spanned, x_span, x_minima, x_measured, x_found, x_any) X)) G 4 (by decide) lk_fresh i32 dM_set_32 up_fresh ?_
  obtain rfl := Option.some.inj h
  exact w_vret (pc := 33) G dM_set_33 Fh
def rm_M_common : Room := { frames := 0, cells := 0, slots := 0, locals := 0 }
theorem dM_common_0 : decode cM_common 0 = .ok (.lload_n 0, 1) := by decide +kernel
theorem dM_common_1 : decode cM_common 1 = .ok (.lstore 4, 2) := by decide +kernel
theorem dM_common_3 : decode cM_common 3 = .ok (.lload_n 2, 1) := by decide +kernel
theorem dM_common_4 : decode cM_common 4 = .ok (.lconst 0, 1) := by decide +kernel
theorem dM_common_5 : decode cM_common 5 = .ok (.lcmp, 1) := by decide +kernel
theorem dM_common_6 : decode cM_common 6 = .ok (.ifCond .ge 8, 3) := by decide +kernel
theorem dM_common_9 : decode cM_common 9 = .ok (.lload_n 2, 1) := by decide +kernel
theorem dM_common_10 : decode cM_common 10 = .ok (.lneg, 1) := by decide +kernel
theorem dM_common_11 : decode cM_common 11 = .ok (.goto 4, 3) := by decide +kernel
theorem dM_common_14 : decode cM_common 14 = .ok (.lload_n 2, 1) := by decide +kernel
theorem dM_common_15 : decode cM_common 15 = .ok (.lstore 6, 2) := by decide +kernel
theorem dM_common_17 : decode cM_common 17 = .ok (.lload 6, 2) := by decide +kernel
theorem dM_common_19 : decode cM_common 19 = .ok (.lconst 0, 1) := by decide +kernel
theorem dM_common_20 : decode cM_common 20 = .ok (.lcmp, 1) := by decide +kernel
theorem dM_common_21 : decode cM_common 21 = .ok (.ifCond .eq 21, 3) := by decide +kernel
theorem dM_common_24 : decode cM_common 24 = .ok (.lload 4, 2) := by decide +kernel
theorem dM_common_26 : decode cM_common 26 = .ok (.lload 6, 2) := by decide +kernel
theorem dM_common_28 : decode cM_common 28 = .ok (.lrem, 1) := by decide +kernel
theorem dM_common_29 : decode cM_common 29 = .ok (.lstore 8, 2) := by decide +kernel
theorem dM_common_31 : decode cM_common 31 = .ok (.lload 6, 2) := by decide +kernel
theorem dM_common_33 : decode cM_common 33 = .ok (.lstore 4, 2) := by decide +kernel
theorem dM_common_35 : decode cM_common 35 = .ok (.lload 8, 2) := by decide +kernel
theorem dM_common_37 : decode cM_common 37 = .ok (.lstore 6, 2) := by decide +kernel
theorem dM_common_39 : decode cM_common 39 = .ok (.goto (-22), 3) := by decide +kernel
theorem dM_common_42 : decode cM_common 42 = .ok (.lload 4, 2) := by decide +kernel
theorem dM_common_44 : decode cM_common 44 = .ok (.lreturn, 1) := by decide +kernel
noncomputable def lM_common_17 (F : Nat) : Nat → Int64 → Int64 → Option (Int64)
  | 0, _, _ => none
  | n + 1, v4, v6 => if v6 = (0 : Int64) then some (v4) else gd (¬ v6 = 0) (lM_common_17 F  n v6 (v4 - v4 / v6 * v6))
set_option maxHeartbeats 8000000 in
set_option maxRecDepth 100000 in
theorem lM_common_17_ok {g : Gm} {κ : ctx} (G : OK g κ RM cM_common 10 (some .long) rm_M_common) (L : Nat → va_E) (F : Nat) : ∀ (n : Nat) (v4 : Int64) (v6 : Int64) (out : Int64), lM_common_17 F   n v4 v6 = some out → (J g κ 10 42 [(4, .long out)] [] L) → J g κ 10 17 [(4, .long v4), (6, .long v6)] [] L := by
  intro n
  induction n with
  | zero =>
    intro v4 v6
    intro out h
    rw [lM_common_17] at h
    cases h
  | succ n ih =>
    intro v4 v6 out h K
    rw [lM_common_17] at h
    refine w_lload (pc := 17) (q := 1) G dM_common_17 rfl ?_
    refine w_lconst (pc := 19) (v := (0 : Int64)) G dM_common_19 (by decide) ?_
    refine w_lc_eq (pc := 20) (tgt := 42) G dM_common_20 dM_common_21 (by decide) (fun c20 => ?_) (fun c20 => ?_)
    · have h := if_t c20 h
      obtain rfl := Option.some.inj h
      refine w_sub (lv' := [(4, .long v4)]) [0] rfl ?_
      exact K
    · have h := if_f c20 h
      refine w_lload (pc := 24) (q := 0) G dM_common_24 rfl ?_
      refine w_lload (pc := 26) (q := 1) G dM_common_26 rfl ?_
      obtain ⟨z28, h⟩ := gd_some h
      refine w_lrem (pc := 28) G dM_common_28 z28 ?_
      refine w_lstore (pc := 29) (lv' := [(8, .long (v4 - v4 / v6 * v6)), (4, .long v4), (6, .long v6)]) G dM_common_29 (by decide) rfl ?_
      refine w_lload (pc := 31) (q := 2) G dM_common_31 rfl ?_
      refine w_lstore (pc := 33) (lv' := [(4, .long v6), (8, .long (v4 - v4 / v6 * v6)), (6, .long v6)]) G dM_common_33 (by decide) rfl ?_
      refine w_lload (pc := 35) (q := 1) G dM_common_35 rfl ?_
      refine w_lstore (pc := 37) (lv' := [(6, .long (v4 - v4 / v6 * v6)), (4, .long v6), (8, .long (v4 - v4 / v6 * v6))]) G dM_common_37 (by decide) rfl ?_
      refine w_goto (pc := 39) (tgt := 17) G dM_common_39 (by decide) ?_
      refine w_sub (lv' := [(4, .long v6), (6, .long (v4 - v4 / v6 * v6))]) [1, 0] rfl ?_
      exact ih v6 (v4 - v4 / v6 * v6) out h K
noncomputable def M_common (F : Nat)  (v0 : Int64) (v2 : Int64) : Option (Int64) := if (0 : Int64) ≤ v2 then (lM_common_17 F  F v0 v2).bind (fun o17_8 => some o17_8) else (lM_common_17 F  F v0 (-v2)).bind (fun o17_9 => some o17_9)
set_option maxHeartbeats 8000000 in
set_option maxRecDepth 100000 in
theorem met_M_common (κ : ctx) (L : Nat → va_E) (F : Nat) (v0 : Int64) (v2 : Int64) {out : Int64} (h : M_common F  v0 v2 = some out) : Mt yM_common cM_common 10 (some .long) rm_M_common κ [.long v0, .long v2] L (some (.long out)) L := by
  refine Mt.of (by decide) (Nat.le_of_ble_eq_true rfl) ?_
  intro g G Fh
  unfold M_common at h
  show J g κ 10 0 [(0, .long v0), (2, .long v2)] [] L
  refine w_lload_n (pc := 0) (q := 0) G dM_common_0 rfl rfl ?_
  refine w_lstore (pc := 1) (lv' := [(4, .long v0), (0, .long v0), (2, .long v2)]) G dM_common_1 (by decide) rfl ?_
  refine w_lload_n (pc := 3) (q := 2) G dM_common_3 rfl rfl ?_
  refine w_lconst (pc := 4) (v := (0 : Int64)) G dM_common_4 (by decide) ?_
  refine w_lc_ge (pc := 5) (tgt := 14) G dM_common_5 dM_common_6 (by decide) (fun c5 => ?_) (fun c5 => ?_)
  · have h := if_t c5 h
    refine w_lload_n (pc := 14) (q := 2) G dM_common_14 rfl rfl ?_
    refine w_lstore (pc := 15) (lv' := [(6, .long v2), (4, .long v0), (0, .long v0), (2, .long v2)]) G dM_common_15 (by decide) rfl ?_
    refine w_sub (lv' := [(4, .long v0), (6, .long v2)]) [1, 0] rfl ?_
    obtain ⟨o17_8, eo17_8, h⟩ := bd h
    refine lM_common_17_ok G L F  F v0 v2 o17_8 eo17_8 ?_
    refine w_lload (pc := 42) (q := 0) G dM_common_42 rfl ?_
    obtain rfl := Option.some.inj h
    exact w_lret (pc := 44) G dM_common_44 Fh
  · have h := if_f c5 h
    refine w_lload_n (pc := 9) (q := 2) G dM_common_9 rfl rfl ?_
    refine w_lneg (pc := 10) G dM_common_10 ?_
    refine w_goto (pc := 11) (tgt := 15) G dM_common_11 (by decide) ?_
    refine w_lstore (pc := 15) (lv' := [(6, .long (-v2)), (4, .long v0), (0, .long v0), (2, .long v2)]) G dM_common_15 (by decide) rfl ?_
    refine w_sub (lv' := [(4, .long v0), (6, .long (-v2))]) [1, 0] rfl ?_
    obtain ⟨o17_9, eo17_9, h⟩ := bd h
    refine lM_common_17_ok G L F  F v0 (-v2) o17_9 eo17_9 ?_
    refine w_lload (pc := 42) (q := 0) G dM_common_42 rfl ?_
    obtain rfl := Option.some.inj h
    exact w_lret (pc := 44) G dM_common_44 Fh
def rm_M_times : Room := { frames := 1, cells := 0, slots := 0, locals := 29 }
theorem dM_times_0 : decode cM_times 0 = .ok (.lconst 1, 1) := by decide +kernel
theorem dM_times_1 : decode cM_times 1 = .ok (.lstore_n 1, 1) := by decide +kernel
theorem dM_times_2 : decode cM_times 2 = .ok (.iconst 0, 1) := by decide +kernel
theorem dM_times_3 : decode cM_times 3 = .ok (.istore_n 3, 1) := by decide +kernel
theorem dM_times_4 : decode cM_times 4 = .ok (.iload_n 3, 1) := by decide +kernel
theorem dM_times_5 : decode cM_times 5 = .ok (.iconst 4, 1) := by decide +kernel
theorem dM_times_6 : decode cM_times 6 = .ok (.if_icmp .ge 135, 3) := by decide +kernel
theorem dM_times_9 : decode cM_times 9 = .ok (.aload_n 0, 1) := by decide +kernel
theorem dM_times_10 : decode cM_times 10 = .ok (.iload_n 3, 1) := by decide +kernel
theorem dM_times_11 : decode cM_times 11 = .ok (.invokevirtual 77, 3) := by decide +kernel
theorem dM_times_14 : decode cM_times 14 = .ok (.istore 4, 2) := by decide +kernel
theorem dM_times_16 : decode cM_times 16 = .ok (.iload 4, 2) := by decide +kernel
theorem dM_times_18 : decode cM_times 18 = .ok (.ifCond .ge 16, 3) := by decide +kernel
theorem dM_times_21 : decode cM_times 21 = .ok (.aload_n 0, 1) := by decide +kernel
theorem dM_times_22 : decode cM_times 22 = .ok (.getfield 20, 3) := by decide +kernel
theorem dM_times_25 : decode cM_times 25 = .ok (.iload_n 3, 1) := by decide +kernel
theorem dM_times_26 : decode cM_times 26 = .ok (.laload, 1) := by decide +kernel
theorem dM_times_27 : decode cM_times 27 = .ok (.lconst 0, 1) := by decide +kernel
theorem dM_times_28 : decode cM_times 28 = .ok (.lcmp, 1) := by decide +kernel
theorem dM_times_29 : decode cM_times 29 = .ok (.ifCond .eq 5, 3) := by decide +kernel
theorem dM_times_32 : decode cM_times 32 = .ok (.lconst 0, 1) := by decide +kernel
theorem dM_times_33 : decode cM_times 33 = .ok (.lreturn, 1) := by decide +kernel
theorem dM_times_34 : decode cM_times 34 = .ok (.iload 4, 2) := by decide +kernel
theorem dM_times_36 : decode cM_times 36 = .ok (.ifCond .lt 99, 3) := by decide +kernel
theorem dM_times_39 : decode cM_times 39 = .ok (.aload_n 0, 1) := by decide +kernel
theorem dM_times_40 : decode cM_times 40 = .ok (.getfield 13, 3) := by decide +kernel
theorem dM_times_43 : decode cM_times 43 = .ok (.iconst 4, 1) := by decide +kernel
theorem dM_times_44 : decode cM_times 44 = .ok (.iload 4, 2) := by decide +kernel
theorem dM_times_46 : decode cM_times 46 = .ok (.imul, 1) := by decide +kernel
theorem dM_times_47 : decode cM_times 47 = .ok (.iload_n 3, 1) := by decide +kernel
theorem dM_times_48 : decode cM_times 48 = .ok (.iadd, 1) := by decide +kernel
theorem dM_times_49 : decode cM_times 49 = .ok (.laload, 1) := by decide +kernel
theorem dM_times_50 : decode cM_times 50 = .ok (.lstore 5, 2) := by decide +kernel
theorem dM_times_52 : decode cM_times 52 = .ok (.lload 5, 2) := by decide +kernel
theorem dM_times_54 : decode cM_times 54 = .ok (.lload 5, 2) := by decide +kernel
theorem dM_times_56 : decode cM_times 56 = .ok (.aload_n 0, 1) := by decide +kernel
theorem dM_times_57 : decode cM_times 57 = .ok (.getfield 20, 3) := by decide +kernel
theorem dM_times_60 : decode cM_times 60 = .ok (.iload_n 3, 1) := by decide +kernel
theorem dM_times_61 : decode cM_times 61 = .ok (.laload, 1) := by decide +kernel
theorem dM_times_62 : decode cM_times 62 = .ok (.invokestatic 104, 3) := by decide +kernel
theorem dM_times_65 : decode cM_times 65 = .ok (.ldiv, 1) := by decide +kernel
theorem dM_times_66 : decode cM_times 66 = .ok (.lstore 7, 2) := by decide +kernel
theorem dM_times_68 : decode cM_times 68 = .ok (.lload_n 1, 1) := by decide +kernel
theorem dM_times_69 : decode cM_times 69 = .ok (.lload 7, 2) := by decide +kernel
theorem dM_times_71 : decode cM_times 71 = .ok (.lmul, 1) := by decide +kernel
theorem dM_times_72 : decode cM_times 72 = .ok (.lstore_n 1, 1) := by decide +kernel
theorem dM_times_73 : decode cM_times 73 = .ok (.aload_n 0, 1) := by decide +kernel
theorem dM_times_74 : decode cM_times 74 = .ok (.getfield 20, 3) := by decide +kernel
theorem dM_times_77 : decode cM_times 77 = .ok (.iload_n 3, 1) := by decide +kernel
theorem dM_times_78 : decode cM_times 78 = .ok (.laload, 1) := by decide +kernel
theorem dM_times_79 : decode cM_times 79 = .ok (.lload 7, 2) := by decide +kernel
theorem dM_times_81 : decode cM_times 81 = .ok (.lmul, 1) := by decide +kernel
theorem dM_times_82 : decode cM_times 82 = .ok (.lload 5, 2) := by decide +kernel
theorem dM_times_84 : decode cM_times 84 = .ok (.ldiv, 1) := by decide +kernel
theorem dM_times_85 : decode cM_times 85 = .ok (.lstore 9, 2) := by decide +kernel
theorem dM_times_87 : decode cM_times 87 = .ok (.iconst 0, 1) := by decide +kernel
theorem dM_times_88 : decode cM_times 88 = .ok (.istore 11, 2) := by decide +kernel
theorem dM_times_90 : decode cM_times 90 = .ok (.iload 11, 2) := by decide +kernel
theorem dM_times_92 : decode cM_times 92 = .ok (.iconst 4, 1) := by decide +kernel
theorem dM_times_93 : decode cM_times 93 = .ok (.if_icmp .ge 42, 3) := by decide +kernel
theorem dM_times_96 : decode cM_times 96 = .ok (.aload_n 0, 1) := by decide +kernel
theorem dM_times_97 : decode cM_times 97 = .ok (.getfield 20, 3) := by decide +kernel
theorem dM_times_100 : decode cM_times 100 = .ok (.iload 11, 2) := by decide +kernel
theorem dM_times_102 : decode cM_times 102 = .ok (.aload_n 0, 1) := by decide +kernel
theorem dM_times_103 : decode cM_times 103 = .ok (.getfield 20, 3) := by decide +kernel
theorem dM_times_106 : decode cM_times 106 = .ok (.iload 11, 2) := by decide +kernel
theorem dM_times_108 : decode cM_times 108 = .ok (.laload, 1) := by decide +kernel
theorem dM_times_109 : decode cM_times 109 = .ok (.lload 7, 2) := by decide +kernel
theorem dM_times_111 : decode cM_times 111 = .ok (.lmul, 1) := by decide +kernel
theorem dM_times_112 : decode cM_times 112 = .ok (.lload 9, 2) := by decide +kernel
theorem dM_times_114 : decode cM_times 114 = .ok (.aload_n 0, 1) := by decide +kernel
theorem dM_times_115 : decode cM_times 115 = .ok (.getfield 13, 3) := by decide +kernel
theorem dM_times_118 : decode cM_times 118 = .ok (.iconst 4, 1) := by decide +kernel
theorem dM_times_119 : decode cM_times 119 = .ok (.iload 4, 2) := by decide +kernel
theorem dM_times_121 : decode cM_times 121 = .ok (.imul, 1) := by decide +kernel
theorem dM_times_122 : decode cM_times 122 = .ok (.iload 11, 2) := by decide +kernel
theorem dM_times_124 : decode cM_times 124 = .ok (.iadd, 1) := by decide +kernel
theorem dM_times_125 : decode cM_times 125 = .ok (.laload, 1) := by decide +kernel
theorem dM_times_126 : decode cM_times 126 = .ok (.lmul, 1) := by decide +kernel
theorem dM_times_127 : decode cM_times 127 = .ok (.lsub, 1) := by decide +kernel
theorem dM_times_128 : decode cM_times 128 = .ok (.lastore, 1) := by decide +kernel
theorem dM_times_129 : decode cM_times 129 = .ok (.iinc 11 1, 3) := by decide +kernel
theorem dM_times_132 : decode cM_times 132 = .ok (.goto (-42), 3) := by decide +kernel
theorem dM_times_135 : decode cM_times 135 = .ok (.iinc 3 1, 3) := by decide +kernel
theorem dM_times_138 : decode cM_times 138 = .ok (.goto (-134), 3) := by decide +kernel
theorem dM_times_141 : decode cM_times 141 = .ok (.lload_n 1, 1) := by decide +kernel
theorem dM_times_142 : decode cM_times 142 = .ok (.lreturn, 1) := by decide +kernel
theorem cb_M_common_M_times : CB yM_common cM_common 10 (some .long) rm_M_common rm_M_times 2 := ⟨wd652, wd8, by decide +kernel, rfl, rfl, by decide⟩
theorem cb_M_rowAt_M_times : CB yM_rowAt cM_rowAt 4 (some .int) rm_M_rowAt rm_M_times 1 := ⟨wd606, wd8, by decide +kernel, rfl, rfl, by decide⟩
noncomputable def lM_times_90 (F : Nat) (x_row : Nat → Int64) (v1 : Int64) (v3 : Int32) (v4 : Int32) (v7 : Int64) (v9 : Int64) : Nat → Int32 → (Nat → Int64) → Option ((Nat → Int64))
  | 0, _, _ => none
  | n + 1, v11, x_fresh => if (4 : Int32) ≤ v11 then some (x_fresh) else gd (vp_in v11 4) (gd (vp_in (((4 : Int32) * v4) + v11) 16) (gd (vp_in v11 4) (lM_times_90 F x_row v1 v3 v4 v7 v9 n (v11 + 1) (vp_updL x_fresh v11.toNatClampNeg (((x_fresh v11.toNatClampNeg) * v7) - (v9 * (x_row (((4 : Int32) * v4) + v11).toNatClampNeg)))))))
set_option maxHeartbeats 8000000 in
set_option maxRecDepth 100000 in
theorem lM_times_90_ok {g : Gm} {κ : ctx} (G : OK g κ RM cM_times 12 (some .long) rm_M_times) (X : Nat → va_E) (F : Nat) {x_many : Int32} {x_generator : Nat → Int32} {x_known : Int32} {x_without : Int32} {x_rows : Int32} {x_row : Nat → Int64} {x_pivot : Nat → Int32} {x_multiple : Nat → Int64} {x_last : Nat → Int64} {x_made : Nat → Int64} {x_settled : Nat → Int64} {x_point : Nat → Int64} {x_limit : Int64} {x_mode : Int32} {x_counted : Int32} {x_listed : Int32} {x_held : Int32} {x_first : Nat → Int64} {x_squares : Nat → Int64} {x_wanted : Int32} {x_spanned : Int32} {x_span : Nat → Int64} {x_minima : Nat → Int32} {x_measured : Int32} {x_found : Nat → Int64} {x_any : Int32} (v1 : Int64) (v3 : Int32) (v4 : Int32) (v7 : Int64) (v9 : Int64) : ∀ (n : Nat) (v11 : Int32) (x_fresh : Nat → Int64) (out : (Nat → Int64)), lM_times_90 F x_row v1 v3 v4 v7 v9 n v11 x_fresh = some out → (J g κ 12 135 [(0, .ref (κ.1 0)), (1, .long v1), (3, .int v3)] [] (LM κ (x_many, x_generator, x_known, x_without, x_rows, x_row, x_pivot, out, x_multiple, x_last, x_made, x_settled, x_point, x_limit, x_mode, x_counted, x_listed, x_held, x_first, x_squares, x_wanted, x_spanned, x_span, x_minima, x_measured, x_found, x_any) X)) → J g κ 12 90 [(0, .ref (κ.1 0)), (1, .long v1), (3, .int v3), (4, .int v4), (7, .long v7), (9, .long v9), (11, .int v11)] [] (LM κ (x_many, x_generator, x_known, x_without, x_rows, x_row, x_pivot, x_fresh, x_multiple, x_last, x_made, x_settled, x_point, x_limit, x_mode, x_counted, x_listed, x_held, x_first, x_squares, x_wanted, x_spanned, x_span, x_minima, x_measured, x_found, x_any) X) := by
  intro n
  induction n with
  | zero =>
    intro v11 x_fresh
    intro out h
    rw [lM_times_90] at h
    cases h
  | succ n ih =>
    intro v11 x_fresh out h K
    rw [lM_times_90] at h
    refine w_iload (pc := 90) (q := 6) G dM_times_90 rfl ?_
    refine w_iconst (pc := 92) (v := (4 : Int32)) G dM_times_92 (by decide) ?_
    refine w_icmp_ge (pc := 93) (tgt := 135) G dM_times_93 (by decide) (fun c93 => ?_) (fun c93 => ?_)
    · have h := if_t c93 h
      obtain rfl := Option.some.inj h
      refine w_sub (lv' := [(0, .ref (κ.1 0)), (1, .long v1), (3, .int v3)]) [0, 1, 2] rfl ?_
      exact K
    · have h := if_f c93 h
      refine w_aload_n (pc := 96) (q := 0) G dM_times_96 rfl rfl ?_
      refine w_get (pc := 97) (v := .ref (κ.1 4)) (fs := fl_M κ (x_many, x_generator, x_known, x_without, x_rows, x_row, x_pivot, x_fresh, x_multiple, x_last, x_made, x_settled, x_point, x_limit, x_mode, x_counted, x_listed, x_held, x_first, x_squares, x_wanted, x_spanned, x_span, x_minima, x_measured, x_found, x_any)) G 0 (by decide) lb_M rfl wsM_ok 7 (by decide) wd497 gf_M_7 dM_times_97 ?_
      refine w_iload (pc := 100) (q := 6) G dM_times_100 rfl ?_
      refine w_aload_n (pc := 102) (q := 0) G dM_times_102 rfl rfl ?_
      refine w_get (pc := 103) (v := .ref (κ.1 4)) (fs := fl_M κ (x_many, x_generator, x_known, x_without, x_rows, x_row, x_pivot, x_fresh, x_multiple, x_last, x_made, x_settled, x_point, x_limit, x_mode, x_counted, x_listed, x_held, x_first, x_squares, x_wanted, x_spanned, x_span, x_minima, x_measured, x_found, x_any)) G 0 (by decide) lb_M rfl wsM_ok 7 (by decide) wd497 gf_M_7 dM_times_103 ?_
      refine w_iload (pc := 106) (q := 6) G dM_times_106 rfl ?_
      obtain ⟨i108, h⟩ := gd_some h
      refine w_lald (pc := 108) (n := 4) (f := x_fresh) G 4 (by decide) lk_fresh i108 dM_times_108 ?_
      refine w_lload (pc := 109) (q := 4) G dM_times_109 rfl ?_
      refine w_lmul (pc := 111) G dM_times_111 ?_
      refine w_lload (pc := 112) (q := 5) G dM_times_112 rfl ?_
      refine w_aload_n (pc := 114) (q := 0) G dM_times_114 rfl rfl ?_
      refine w_get (pc := 115) (v := .ref (κ.1 2)) (fs := fl_M κ (x_many, x_generator, x_known, x_without, x_rows, x_row, x_pivot, x_fresh, x_multiple, x_last, x_made, x_settled, x_point, x_limit, x_mode, x_counted, x_listed, x_held, x_first, x_squares, x_wanted, x_spanned, x_span, x_minima, x_measured, x_found, x_any)) G 0 (by decide) lb_M rfl wsM_ok 5 (by decide) wd495 gf_M_5 dM_times_115 ?_
      refine w_iconst (pc := 118) (v := (4 : Int32)) G dM_times_118 (by decide) ?_
      refine w_iload (pc := 119) (q := 3) G dM_times_119 rfl ?_
      refine w_imul (pc := 121) G dM_times_121 ?_
      refine w_iload (pc := 122) (q := 6) G dM_times_122 rfl ?_
      refine w_iadd (pc := 124) G dM_times_124 ?_
      obtain ⟨i125, h⟩ := gd_some h
      refine w_lald (pc := 125) (n := 16) (f := x_row) G 2 (by decide) lk_row i125 dM_times_125 ?_
      refine w_lmul (pc := 126) G dM_times_126 ?_
      refine w_lsub (pc := 127) G dM_times_127 ?_
      obtain ⟨i128, h⟩ := gd_some h
      refine w_last (pc := 128) (n := 4) (f := x_fresh) (L1 := (LM κ (x_many, x_generator, x_known, x_without, x_rows, x_row, x_pivot, vp_updL x_fresh v11.toNatClampNeg (((x_fresh v11.toNatClampNeg) * v7) - (v9 * (x_row (((4 : Int32) * v4) + v11).toNatClampNeg))), x_multiple, x_last, x_made, x_settled, x_point, x_limit, x_mode, x_counted, x_listed, x_held, x_first, x_squares, x_wanted, x_spanned, x_span, x_minima, x_measured, x_found, x_any) X)) G 4 (by decide) lk_fresh i128 dM_times_128 up_fresh ?_
      refine w_iinc (pc := 129) (q0 := 6) (v := (v11 + 1)) (lv' := [(11, .int (v11 + 1)), (0, .ref (κ.1 0)), (1, .long v1), (3, .int v3), (4, .int v4), (7, .long v7), (9, .long v9)]) G dM_times_129 rfl rfl (by decide) rfl ?_
      refine w_goto (pc := 132) (tgt := 90) G dM_times_132 (by decide) ?_
      refine w_sub (lv' := [(0, .ref (κ.1 0)), (1, .long v1), (3, .int v3), (4, .int v4), (7, .long v7), (9, .long v9), (11, .int (v11 + 1))]) [1, 2, 3, 4, 5, 6, 0] rfl ?_
      exact ih (v11 + 1) (vp_updL x_fresh v11.toNatClampNeg (((x_fresh v11.toNatClampNeg) * v7) - (v9 * (x_row (((4 : Int32) * v4) + v11).toNatClampNeg)))) out h K
noncomputable def lM_times_4 (F : Nat) (x_rows : Int32) (x_row : Nat → Int64) (x_pivot : Nat → Int32) : Nat → Int64 → Int32 → (Nat → Int64) → Option ((Int64 × (Nat → Int64)) ⊕ (Int64 × (Nat → Int64)))
  | 0, _, _, _ => none
  | n + 1, v1, v3, x_fresh => if (4 : Int32) ≤ v3 then some (.inl (v1, x_fresh)) else (M_rowAt F x_rows x_pivot v3).bind (fun r11 => if 0 ≤ r11 then if r11 < 0 then lM_times_4 F x_rows x_row x_pivot n v1 (v3 + 1) x_fresh else gd (vp_in (((4 : Int32) * r11) + v3) 16) (gd (vp_in v3 4) ((M_common F  (x_row (((4 : Int32) * r11) + v3).toNatClampNeg) (x_fresh v3.toNatClampNeg)).bind (fun r62 => gd (¬ r62 = 0) (gd (vp_in v3 4) (gd (¬ (x_row (((4 : Int32) * r11) + v3).toNatClampNeg) = 0) ((lM_times_90 F x_row (v1 * ((x_row (((4 : Int32) * r11) + v3).toNatClampNeg) / r62)) v3 r11 ((x_row (((4 : Int32) * r11) + v3).toNatClampNeg) / r62) (((x_fresh v3.toNatClampNeg) * ((x_row (((4 : Int32) * r11) + v3).toNatClampNeg) / r62)) / (x_row (((4 : Int32) * r11) + v3).toNatClampNeg)) F (0 : Int32) x_fresh).bind (fun o90_30 => lM_times_4 F x_rows x_row x_pivot n (v1 * ((x_row (((4 : Int32) * r11) + v3).toNatClampNeg) / r62)) (v3 + 1) o90_30))))))) else gd (vp_in v3 4) (if (x_fresh v3.toNatClampNeg) = (0 : Int64) then if r11 < 0 then lM_times_4 F x_rows x_row x_pivot n v1 (v3 + 1) x_fresh else gd (vp_in (((4 : Int32) * r11) + v3) 16) (gd (vp_in v3 4) ((M_common F  (x_row (((4 : Int32) * r11) + v3).toNatClampNeg) (x_fresh v3.toNatClampNeg)).bind (fun r62 => gd (¬ r62 = 0) (gd (vp_in v3 4) (gd (¬ (x_row (((4 : Int32) * r11) + v3).toNatClampNeg) = 0) ((lM_times_90 F x_row (v1 * ((x_row (((4 : Int32) * r11) + v3).toNatClampNeg) / r62)) v3 r11 ((x_row (((4 : Int32) * r11) + v3).toNatClampNeg) / r62) (((x_fresh v3.toNatClampNeg) * ((x_row (((4 : Int32) * r11) + v3).toNatClampNeg) / r62)) / (x_row (((4 : Int32) * r11) + v3).toNatClampNeg)) F (0 : Int32) x_fresh).bind (fun o90_34 => lM_times_4 F x_rows x_row x_pivot n (v1 * ((x_row (((4 : Int32) * r11) + v3).toNatClampNeg) / r62)) (v3 + 1) o90_34))))))) else some (.inr ((0 : Int64), x_fresh))))
set_option maxHeartbeats 8000000 in
set_option maxRecDepth 100000 in
theorem lM_times_4_ok {g : Gm} {κ : ctx} (G : OK g κ RM cM_times 12 (some .long) rm_M_times) (X : Nat → va_E) (F : Nat) {x_many : Int32} {x_generator : Nat → Int32} {x_known : Int32} {x_without : Int32} {x_rows : Int32} {x_row : Nat → Int64} {x_pivot : Nat → Int32} {x_multiple : Nat → Int64} {x_last : Nat → Int64} {x_made : Nat → Int64} {x_settled : Nat → Int64} {x_point : Nat → Int64} {x_limit : Int64} {x_mode : Int32} {x_counted : Int32} {x_listed : Int32} {x_held : Int32} {x_first : Nat → Int64} {x_squares : Nat → Int64} {x_wanted : Int32} {x_spanned : Int32} {x_span : Nat → Int64} {x_minima : Nat → Int32} {x_measured : Int32} {x_found : Nat → Int64} {x_any : Int32} : ∀ (n : Nat) (v1 : Int64) (v3 : Int32) (x_fresh : Nat → Int64) (out : (Int64 × (Nat → Int64)) ⊕ (Int64 × (Nat → Int64))), lM_times_4 F x_rows x_row x_pivot  n v1 v3 x_fresh = some out → (∀ e, out = .inl e → (J g κ 12 141 [(1, .long e.1)] [] (LM κ (x_many, x_generator, x_known, x_without, x_rows, x_row, x_pivot, e.2, x_multiple, x_last, x_made, x_settled, x_point, x_limit, x_mode, x_counted, x_listed, x_held, x_first, x_squares, x_wanted, x_spanned, x_span, x_minima, x_measured, x_found, x_any) X))) → (∀ r, out = .inr r → Fn g κ (some (.long r.1)) (LM κ (x_many, x_generator, x_known, x_without, x_rows, x_row, x_pivot, r.2, x_multiple, x_last, x_made, x_settled, x_point, x_limit, x_mode, x_counted, x_listed, x_held, x_first, x_squares, x_wanted, x_spanned, x_span, x_minima, x_measured, x_found, x_any) X)) → J g κ 12 4 [(0, .ref (κ.1 0)), (1, .long v1), (3, .int v3)] [] (LM κ (x_many, x_generator, x_known, x_without, x_rows, x_row, x_pivot, x_fresh, x_multiple, x_last, x_made, x_settled, x_point, x_limit, x_mode, x_counted, x_listed, x_held, x_first, x_squares, x_wanted, x_spanned, x_span, x_minima, x_measured, x_found, x_any) X) := by
  intro n
  induction n with
  | zero =>
    intro v1 v3 x_fresh
    intro out h
    rw [lM_times_4] at h
    cases h
  | succ n ih =>
    intro v1 v3 x_fresh out h K K2
    rw [lM_times_4] at h
    refine w_iload_n (pc := 4) (q := 2) G dM_times_4 rfl rfl ?_
    refine w_iconst (pc := 5) (v := (4 : Int32)) G dM_times_5 (by decide) ?_
    refine w_icmp_ge (pc := 6) (tgt := 141) G dM_times_6 (by decide) (fun c6 => ?_) (fun c6 => ?_)
    · have h := if_t c6 h
      obtain rfl := Option.some.inj h
      refine w_sub (lv' := [(1, .long v1)]) [1] rfl ?_
      have K9 := K _ rfl
      exact K9
    · have h := if_f c6 h
      refine w_aload_n (pc := 9) (q := 0) G dM_times_9 rfl rfl ?_
      refine w_iload_n (pc := 10) (q := 2) G dM_times_10 rfl rfl ?_
      obtain ⟨r11, e11, h⟩ := bd h
      refine w_callV (pc := 11) (av := [.int v3]) (rest := []) (v := some (.int r11)) (L' := (LM κ (x_many, x_generator, x_known, x_without, x_rows, x_row, x_pivot, x_fresh, x_multiple, x_last, x_made, x_settled, x_point, x_limit, x_mode, x_counted, x_listed, x_held, x_first, x_squares, x_wanted, x_spanned, x_span, x_minima, x_measured, x_found, x_any) X)) (T := TM) (fs := fl_M κ (x_many, x_generator, x_known, x_without, x_rows, x_row, x_pivot, x_fresh, x_multiple, x_last, x_made, x_settled, x_point, x_limit, x_mode, x_counted, x_listed, x_held, x_first, x_squares, x_wanted, x_spanned, x_span, x_minima, x_measured, x_found, x_any)) G 0 0 27 (by decide) lb_M rfl cb_M_rowAt_M_times wd605 ws22 wd603 (met_M_rowAt κ X F v3  e11) rfl rfl rfl (Nat.le_of_ble_eq_true rfl) dM_times_11 ?_
      refine w_istore (pc := 14) (lv' := [(4, .int r11), (0, .ref (κ.1 0)), (1, .long v1), (3, .int v3)]) G dM_times_14 (by decide) rfl ?_
      refine w_iload (pc := 16) (q := 0) G dM_times_16 rfl ?_
      refine w_if_ge (pc := 18) (tgt := 34) G dM_times_18 (by decide) (fun c18 => ?_) (fun c18 => ?_)
      · have h := if_t c18 h
        refine w_iload (pc := 34) (q := 0) G dM_times_34 rfl ?_
        refine w_if_lt (pc := 36) (tgt := 135) G dM_times_36 (by decide) (fun c36 => ?_) (fun c36 => ?_)
        · have h := if_t c36 h
          refine w_iinc (pc := 135) (q0 := 3) (v := (v3 + 1)) (lv' := [(3, .int (v3 + 1)), (4, .int r11), (0, .ref (κ.1 0)), (1, .long v1)]) G dM_times_135 rfl rfl (by decide) rfl ?_
          refine w_goto (pc := 138) (tgt := 4) G dM_times_138 (by decide) ?_
          refine w_sub (lv' := [(0, .ref (κ.1 0)), (1, .long v1), (3, .int (v3 + 1))]) [2, 3, 0] rfl ?_
          exact ih v1 (v3 + 1) x_fresh out h K K2
        · have h := if_f c36 h
          refine w_aload_n (pc := 39) (q := 1) G dM_times_39 rfl rfl ?_
          refine w_get (pc := 40) (v := .ref (κ.1 2)) (fs := fl_M κ (x_many, x_generator, x_known, x_without, x_rows, x_row, x_pivot, x_fresh, x_multiple, x_last, x_made, x_settled, x_point, x_limit, x_mode, x_counted, x_listed, x_held, x_first, x_squares, x_wanted, x_spanned, x_span, x_minima, x_measured, x_found, x_any)) G 0 (by decide) lb_M rfl wsM_ok 5 (by decide) wd495 gf_M_5 dM_times_40 ?_
          refine w_iconst (pc := 43) (v := (4 : Int32)) G dM_times_43 (by decide) ?_
          refine w_iload (pc := 44) (q := 0) G dM_times_44 rfl ?_
          refine w_imul (pc := 46) G dM_times_46 ?_
          refine w_iload_n (pc := 47) (q := 3) G dM_times_47 rfl rfl ?_
          refine w_iadd (pc := 48) G dM_times_48 ?_
          obtain ⟨i49, h⟩ := gd_some h
          refine w_lald (pc := 49) (n := 16) (f := x_row) G 2 (by decide) lk_row i49 dM_times_49 ?_
          refine w_lstore (pc := 50) (lv' := [(5, .long (x_row (((4 : Int32) * r11) + v3).toNatClampNeg)), (4, .int r11), (0, .ref (κ.1 0)), (1, .long v1), (3, .int v3)]) G dM_times_50 (by decide) rfl ?_
          refine w_lload (pc := 52) (q := 0) G dM_times_52 rfl ?_
          refine w_lload (pc := 54) (q := 0) G dM_times_54 rfl ?_
          refine w_aload_n (pc := 56) (q := 2) G dM_times_56 rfl rfl ?_
          refine w_get (pc := 57) (v := .ref (κ.1 4)) (fs := fl_M κ (x_many, x_generator, x_known, x_without, x_rows, x_row, x_pivot, x_fresh, x_multiple, x_last, x_made, x_settled, x_point, x_limit, x_mode, x_counted, x_listed, x_held, x_first, x_squares, x_wanted, x_spanned, x_span, x_minima, x_measured, x_found, x_any)) G 0 (by decide) lb_M rfl wsM_ok 7 (by decide) wd497 gf_M_7 dM_times_57 ?_
          refine w_iload_n (pc := 60) (q := 4) G dM_times_60 rfl rfl ?_
          obtain ⟨i61, h⟩ := gd_some h
          refine w_lald (pc := 61) (n := 4) (f := x_fresh) G 4 (by decide) lk_fresh i61 dM_times_61 ?_
          obtain ⟨r62, e62, h⟩ := bd h
          refine w_callS (pc := 62) (av := [.long (x_row (((4 : Int32) * r11) + v3).toNatClampNeg), .long (x_fresh v3.toNatClampNeg)]) (rest := [.long (x_row (((4 : Int32) * r11) + v3).toNatClampNeg)]) (v := some (.long r62)) (L' := (LM κ (x_many, x_generator, x_known, x_without, x_rows, x_row, x_pivot, x_fresh, x_multiple, x_last, x_made, x_settled, x_point, x_limit, x_mode, x_counted, x_listed, x_held, x_first, x_squares, x_wanted, x_spanned, x_span, x_minima, x_measured, x_found, x_any) X)) G cb_M_common_M_times wd651 wd650 (met_M_common κ (LM κ (x_many, x_generator, x_known, x_without, x_rows, x_row, x_pivot, x_fresh, x_multiple, x_last, x_made, x_settled, x_point, x_limit, x_mode, x_counted, x_listed, x_held, x_first, x_squares, x_wanted, x_spanned, x_span, x_minima, x_measured, x_found, x_any) X) F (x_row (((4 : Int32) * r11) + v3).toNatClampNeg) (x_fresh v3.toNatClampNeg)  e62) rfl rfl rfl (Nat.le_of_ble_eq_true rfl) dM_times_62 ?_
          obtain ⟨z65, h⟩ := gd_some h
          refine w_ldiv (pc := 65) G dM_times_65 z65 ?_
          refine w_lstore (pc := 66) (lv' := [(7, .long ((x_row (((4 : Int32) * r11) + v3).toNatClampNeg) / r62)), (5, .long (x_row (((4 : Int32) * r11) + v3).toNatClampNeg)), (4, .int r11), (0, .ref (κ.1 0)), (1, .long v1), (3, .int v3)]) G dM_times_66 (by decide) rfl ?_
          refine w_lload_n (pc := 68) (q := 4) G dM_times_68 rfl rfl ?_
          refine w_lload (pc := 69) (q := 0) G dM_times_69 rfl ?_
          refine w_lmul (pc := 71) G dM_times_71 ?_
          refine w_lstore_n (pc := 72) (lv' := [(1, .long (v1 * ((x_row (((4 : Int32) * r11) + v3).toNatClampNeg) / r62))), (7, .long ((x_row (((4 : Int32) * r11) + v3).toNatClampNeg) / r62)), (5, .long (x_row (((4 : Int32) * r11) + v3).toNatClampNeg)), (4, .int r11), (0, .ref (κ.1 0)), (3, .int v3)]) G dM_times_72 rfl (by decide) rfl ?_
          refine w_aload_n (pc := 73) (q := 4) G dM_times_73 rfl rfl ?_
          refine w_get (pc := 74) (v := .ref (κ.1 4)) (fs := fl_M κ (x_many, x_generator, x_known, x_without, x_rows, x_row, x_pivot, x_fresh, x_multiple, x_last, x_made, x_settled, x_point, x_limit, x_mode, x_counted, x_listed, x_held, x_first, x_squares, x_wanted, x_spanned, x_span, x_minima, x_measured, x_found, x_any)) G 0 (by decide) lb_M rfl wsM_ok 7 (by decide) wd497 gf_M_7 dM_times_74 ?_
          refine w_iload_n (pc := 77) (q := 5) G dM_times_77 rfl rfl ?_
          obtain ⟨i78, h⟩ := gd_some h
          refine w_lald (pc := 78) (n := 4) (f := x_fresh) G 4 (by decide) lk_fresh i78 dM_times_78 ?_
          refine w_lload (pc := 79) (q := 1) G dM_times_79 rfl ?_
          refine w_lmul (pc := 81) G dM_times_81 ?_
          refine w_lload (pc := 82) (q := 2) G dM_times_82 rfl ?_
          obtain ⟨z84, h⟩ := gd_some h
          refine w_ldiv (pc := 84) G dM_times_84 z84 ?_
          refine w_lstore (pc := 85) (lv' := [(9, .long (((x_fresh v3.toNatClampNeg) * ((x_row (((4 : Int32) * r11) + v3).toNatClampNeg) / r62)) / (x_row (((4 : Int32) * r11) + v3).toNatClampNeg))), (1, .long (v1 * ((x_row (((4 : Int32) * r11) + v3).toNatClampNeg) / r62))), (7, .long ((x_row (((4 : Int32) * r11) + v3).toNatClampNeg) / r62)), (5, .long (x_row (((4 : Int32) * r11) + v3).toNatClampNeg)), (4, .int r11), (0, .ref (κ.1 0)), (3, .int v3)]) G dM_times_85 (by decide) rfl ?_
          refine w_iconst (pc := 87) (v := (0 : Int32)) G dM_times_87 (by decide) ?_
          refine w_istore (pc := 88) (lv' := [(11, .int (0 : Int32)), (9, .long (((x_fresh v3.toNatClampNeg) * ((x_row (((4 : Int32) * r11) + v3).toNatClampNeg) / r62)) / (x_row (((4 : Int32) * r11) + v3).toNatClampNeg))), (1, .long (v1 * ((x_row (((4 : Int32) * r11) + v3).toNatClampNeg) / r62))), (7, .long ((x_row (((4 : Int32) * r11) + v3).toNatClampNeg) / r62)), (5, .long (x_row (((4 : Int32) * r11) + v3).toNatClampNeg)), (4, .int r11), (0, .ref (κ.1 0)), (3, .int v3)]) G dM_times_88 (by decide) rfl ?_
          refine w_sub (lv' := [(0, .ref (κ.1 0)), (1, .long (v1 * ((x_row (((4 : Int32) * r11) + v3).toNatClampNeg) / r62))), (3, .int v3), (4, .int r11), (7, .long ((x_row (((4 : Int32) * r11) + v3).toNatClampNeg) / r62)), (9, .long (((x_fresh v3.toNatClampNeg) * ((x_row (((4 : Int32) * r11) + v3).toNatClampNeg) / r62)) / (x_row (((4 : Int32) * r11) + v3).toNatClampNeg))), (11, .int (0 : Int32))]) [6, 2, 7, 5, 3, 1, 0] rfl ?_
          obtain ⟨o90_30, eo90_30, h⟩ := bd h
          refine lM_times_90_ok G X F (v1 * ((x_row (((4 : Int32) * r11) + v3).toNatClampNeg) / r62)) v3 r11 ((x_row (((4 : Int32) * r11) + v3).toNatClampNeg) / r62) (((x_fresh v3.toNatClampNeg) * ((x_row (((4 : Int32) * r11) + v3).toNatClampNeg) / r62)) / (x_row (((4 : Int32) * r11) + v3).toNatClampNeg)) F (0 : Int32) x_fresh o90_30 eo90_30 ?_
          refine w_iinc (pc := 135) (q0 := 2) (v := (v3 + 1)) (lv' := [(3, .int (v3 + 1)), (0, .ref (κ.1 0)), (1, .long (v1 * ((x_row (((4 : Int32) * r11) + v3).toNatClampNeg) / r62)))]) G dM_times_135 rfl rfl (by decide) rfl ?_
          refine w_goto (pc := 138) (tgt := 4) G dM_times_138 (by decide) ?_
          refine w_sub (lv' := [(0, .ref (κ.1 0)), (1, .long (v1 * ((x_row (((4 : Int32) * r11) + v3).toNatClampNeg) / r62))), (3, .int (v3 + 1))]) [1, 2, 0] rfl ?_
          exact ih (v1 * ((x_row (((4 : Int32) * r11) + v3).toNatClampNeg) / r62)) (v3 + 1) o90_30 out h K K2
      · have h := if_f c18 h
        refine w_aload_n (pc := 21) (q := 1) G dM_times_21 rfl rfl ?_
        refine w_get (pc := 22) (v := .ref (κ.1 4)) (fs := fl_M κ (x_many, x_generator, x_known, x_without, x_rows, x_row, x_pivot, x_fresh, x_multiple, x_last, x_made, x_settled, x_point, x_limit, x_mode, x_counted, x_listed, x_held, x_first, x_squares, x_wanted, x_spanned, x_span, x_minima, x_measured, x_found, x_any)) G 0 (by decide) lb_M rfl wsM_ok 7 (by decide) wd497 gf_M_7 dM_times_22 ?_
        refine w_iload_n (pc := 25) (q := 3) G dM_times_25 rfl rfl ?_
        obtain ⟨i26, h⟩ := gd_some h
        refine w_lald (pc := 26) (n := 4) (f := x_fresh) G 4 (by decide) lk_fresh i26 dM_times_26 ?_
        refine w_lconst (pc := 27) (v := (0 : Int64)) G dM_times_27 (by decide) ?_
        refine w_lc_eq (pc := 28) (tgt := 34) G dM_times_28 dM_times_29 (by decide) (fun c28 => ?_) (fun c28 => ?_)
        · have h := if_t c28 h
          refine w_iload (pc := 34) (q := 0) G dM_times_34 rfl ?_
          refine w_if_lt (pc := 36) (tgt := 135) G dM_times_36 (by decide) (fun c36 => ?_) (fun c36 => ?_)
          · have h := if_t c36 h
            refine w_iinc (pc := 135) (q0 := 3) (v := (v3 + 1)) (lv' := [(3, .int (v3 + 1)), (4, .int r11), (0, .ref (κ.1 0)), (1, .long v1)]) G dM_times_135 rfl rfl (by decide) rfl ?_
            refine w_goto (pc := 138) (tgt := 4) G dM_times_138 (by decide) ?_
            refine w_sub (lv' := [(0, .ref (κ.1 0)), (1, .long v1), (3, .int (v3 + 1))]) [2, 3, 0] rfl ?_
            exact ih v1 (v3 + 1) x_fresh out h K K2
          · have h := if_f c36 h
            refine w_aload_n (pc := 39) (q := 1) G dM_times_39 rfl rfl ?_
            refine w_get (pc := 40) (v := .ref (κ.1 2)) (fs := fl_M κ (x_many, x_generator, x_known, x_without, x_rows, x_row, x_pivot, x_fresh, x_multiple, x_last, x_made, x_settled, x_point, x_limit, x_mode, x_counted, x_listed, x_held, x_first, x_squares, x_wanted, x_spanned, x_span, x_minima, x_measured, x_found, x_any)) G 0 (by decide) lb_M rfl wsM_ok 5 (by decide) wd495 gf_M_5 dM_times_40 ?_
            refine w_iconst (pc := 43) (v := (4 : Int32)) G dM_times_43 (by decide) ?_
            refine w_iload (pc := 44) (q := 0) G dM_times_44 rfl ?_
            refine w_imul (pc := 46) G dM_times_46 ?_
            refine w_iload_n (pc := 47) (q := 3) G dM_times_47 rfl rfl ?_
            refine w_iadd (pc := 48) G dM_times_48 ?_
            obtain ⟨i49, h⟩ := gd_some h
            refine w_lald (pc := 49) (n := 16) (f := x_row) G 2 (by decide) lk_row i49 dM_times_49 ?_
            refine w_lstore (pc := 50) (lv' := [(5, .long (x_row (((4 : Int32) * r11) + v3).toNatClampNeg)), (4, .int r11), (0, .ref (κ.1 0)), (1, .long v1), (3, .int v3)]) G dM_times_50 (by decide) rfl ?_
            refine w_lload (pc := 52) (q := 0) G dM_times_52 rfl ?_
            refine w_lload (pc := 54) (q := 0) G dM_times_54 rfl ?_
            refine w_aload_n (pc := 56) (q := 2) G dM_times_56 rfl rfl ?_
            refine w_get (pc := 57) (v := .ref (κ.1 4)) (fs := fl_M κ (x_many, x_generator, x_known, x_without, x_rows, x_row, x_pivot, x_fresh, x_multiple, x_last, x_made, x_settled, x_point, x_limit, x_mode, x_counted, x_listed, x_held, x_first, x_squares, x_wanted, x_spanned, x_span, x_minima, x_measured, x_found, x_any)) G 0 (by decide) lb_M rfl wsM_ok 7 (by decide) wd497 gf_M_7 dM_times_57 ?_
            refine w_iload_n (pc := 60) (q := 4) G dM_times_60 rfl rfl ?_
            obtain ⟨i61, h⟩ := gd_some h
            refine w_lald (pc := 61) (n := 4) (f := x_fresh) G 4 (by decide) lk_fresh i61 dM_times_61 ?_
            obtain ⟨r62, e62, h⟩ := bd h
            refine w_callS (pc := 62) (av := [.long (x_row (((4 : Int32) * r11) + v3).toNatClampNeg), .long (x_fresh v3.toNatClampNeg)]) (rest := [.long (x_row (((4 : Int32) * r11) + v3).toNatClampNeg)]) (v := some (.long r62)) (L' := (LM κ (x_many, x_generator, x_known, x_without, x_rows, x_row, x_pivot, x_fresh, x_multiple, x_last, x_made, x_settled, x_point, x_limit, x_mode, x_counted, x_listed, x_held, x_first, x_squares, x_wanted, x_spanned, x_span, x_minima, x_measured, x_found, x_any) X)) G cb_M_common_M_times wd651 wd650 (met_M_common κ (LM κ (x_many, x_generator, x_known, x_without, x_rows, x_row, x_pivot, x_fresh, x_multiple, x_last, x_made, x_settled, x_point, x_limit, x_mode, x_counted, x_listed, x_held, x_first, x_squares, x_wanted, x_spanned, x_span, x_minima, x_measured, x_found, x_any) X) F (x_row (((4 : Int32) * r11) + v3).toNatClampNeg) (x_fresh v3.toNatClampNeg)  e62) rfl rfl rfl (Nat.le_of_ble_eq_true rfl) dM_times_62 ?_
            obtain ⟨z65, h⟩ := gd_some h
            refine w_ldiv (pc := 65) G dM_times_65 z65 ?_
            refine w_lstore (pc := 66) (lv' := [(7, .long ((x_row (((4 : Int32) * r11) + v3).toNatClampNeg) / r62)), (5, .long (x_row (((4 : Int32) * r11) + v3).toNatClampNeg)), (4, .int r11), (0, .ref (κ.1 0)), (1, .long v1), (3, .int v3)]) G dM_times_66 (by decide) rfl ?_
            refine w_lload_n (pc := 68) (q := 4) G dM_times_68 rfl rfl ?_
            refine w_lload (pc := 69) (q := 0) G dM_times_69 rfl ?_
            refine w_lmul (pc := 71) G dM_times_71 ?_
            refine w_lstore_n (pc := 72) (lv' := [(1, .long (v1 * ((x_row (((4 : Int32) * r11) + v3).toNatClampNeg) / r62))), (7, .long ((x_row (((4 : Int32) * r11) + v3).toNatClampNeg) / r62)), (5, .long (x_row (((4 : Int32) * r11) + v3).toNatClampNeg)), (4, .int r11), (0, .ref (κ.1 0)), (3, .int v3)]) G dM_times_72 rfl (by decide) rfl ?_
            refine w_aload_n (pc := 73) (q := 4) G dM_times_73 rfl rfl ?_
            refine w_get (pc := 74) (v := .ref (κ.1 4)) (fs := fl_M κ (x_many, x_generator, x_known, x_without, x_rows, x_row, x_pivot, x_fresh, x_multiple, x_last, x_made, x_settled, x_point, x_limit, x_mode, x_counted, x_listed, x_held, x_first, x_squares, x_wanted, x_spanned, x_span, x_minima, x_measured, x_found, x_any)) G 0 (by decide) lb_M rfl wsM_ok 7 (by decide) wd497 gf_M_7 dM_times_74 ?_
            refine w_iload_n (pc := 77) (q := 5) G dM_times_77 rfl rfl ?_
            obtain ⟨i78, h⟩ := gd_some h
            refine w_lald (pc := 78) (n := 4) (f := x_fresh) G 4 (by decide) lk_fresh i78 dM_times_78 ?_
            refine w_lload (pc := 79) (q := 1) G dM_times_79 rfl ?_
            refine w_lmul (pc := 81) G dM_times_81 ?_
            refine w_lload (pc := 82) (q := 2) G dM_times_82 rfl ?_
            obtain ⟨z84, h⟩ := gd_some h
            refine w_ldiv (pc := 84) G dM_times_84 z84 ?_
            refine w_lstore (pc := 85) (lv' := [(9, .long (((x_fresh v3.toNatClampNeg) * ((x_row (((4 : Int32) * r11) + v3).toNatClampNeg) / r62)) / (x_row (((4 : Int32) * r11) + v3).toNatClampNeg))), (1, .long (v1 * ((x_row (((4 : Int32) * r11) + v3).toNatClampNeg) / r62))), (7, .long ((x_row (((4 : Int32) * r11) + v3).toNatClampNeg) / r62)), (5, .long (x_row (((4 : Int32) * r11) + v3).toNatClampNeg)), (4, .int r11), (0, .ref (κ.1 0)), (3, .int v3)]) G dM_times_85 (by decide) rfl ?_
            refine w_iconst (pc := 87) (v := (0 : Int32)) G dM_times_87 (by decide) ?_
            refine w_istore (pc := 88) (lv' := [(11, .int (0 : Int32)), (9, .long (((x_fresh v3.toNatClampNeg) * ((x_row (((4 : Int32) * r11) + v3).toNatClampNeg) / r62)) / (x_row (((4 : Int32) * r11) + v3).toNatClampNeg))), (1, .long (v1 * ((x_row (((4 : Int32) * r11) + v3).toNatClampNeg) / r62))), (7, .long ((x_row (((4 : Int32) * r11) + v3).toNatClampNeg) / r62)), (5, .long (x_row (((4 : Int32) * r11) + v3).toNatClampNeg)), (4, .int r11), (0, .ref (κ.1 0)), (3, .int v3)]) G dM_times_88 (by decide) rfl ?_
            refine w_sub (lv' := [(0, .ref (κ.1 0)), (1, .long (v1 * ((x_row (((4 : Int32) * r11) + v3).toNatClampNeg) / r62))), (3, .int v3), (4, .int r11), (7, .long ((x_row (((4 : Int32) * r11) + v3).toNatClampNeg) / r62)), (9, .long (((x_fresh v3.toNatClampNeg) * ((x_row (((4 : Int32) * r11) + v3).toNatClampNeg) / r62)) / (x_row (((4 : Int32) * r11) + v3).toNatClampNeg))), (11, .int (0 : Int32))]) [6, 2, 7, 5, 3, 1, 0] rfl ?_
            obtain ⟨o90_34, eo90_34, h⟩ := bd h
            refine lM_times_90_ok G X F (v1 * ((x_row (((4 : Int32) * r11) + v3).toNatClampNeg) / r62)) v3 r11 ((x_row (((4 : Int32) * r11) + v3).toNatClampNeg) / r62) (((x_fresh v3.toNatClampNeg) * ((x_row (((4 : Int32) * r11) + v3).toNatClampNeg) / r62)) / (x_row (((4 : Int32) * r11) + v3).toNatClampNeg)) F (0 : Int32) x_fresh o90_34 eo90_34 ?_
            refine w_iinc (pc := 135) (q0 := 2) (v := (v3 + 1)) (lv' := [(3, .int (v3 + 1)), (0, .ref (κ.1 0)), (1, .long (v1 * ((x_row (((4 : Int32) * r11) + v3).toNatClampNeg) / r62)))]) G dM_times_135 rfl rfl (by decide) rfl ?_
            refine w_goto (pc := 138) (tgt := 4) G dM_times_138 (by decide) ?_
            refine w_sub (lv' := [(0, .ref (κ.1 0)), (1, .long (v1 * ((x_row (((4 : Int32) * r11) + v3).toNatClampNeg) / r62))), (3, .int (v3 + 1))]) [1, 2, 0] rfl ?_
            exact ih (v1 * ((x_row (((4 : Int32) * r11) + v3).toNatClampNeg) / r62)) (v3 + 1) o90_34 out h K K2
        · have h := if_f c28 h
          refine w_lconst (pc := 32) (v := (0 : Int64)) G dM_times_32 (by decide) ?_
          obtain rfl := Option.some.inj h
          have K9 := K2 _ rfl
          exact w_lret (pc := 33) G dM_times_33 K9
noncomputable def M_times (F : Nat) (x_rows : Int32) (x_row : Nat → Int64) (x_pivot : Nat → Int32) (x_fresh : Nat → Int64)  : Option (Int64 × (Nat → Int64)) := (lM_times_4 F x_rows x_row x_pivot F (1 : Int64) (0 : Int32) x_fresh).bind (fun o4_35 => match o4_35 with | .inl o4_35 => some (o4_35.1, o4_35.2) | .inr o4_35 => some o4_35)
set_option maxHeartbeats 8000000 in
set_option maxRecDepth 100000 in
theorem met_M_times (κ : ctx) (X : Nat → va_E) (F : Nat) {x_many : Int32} {x_generator : Nat → Int32} {x_known : Int32} {x_without : Int32} {x_rows : Int32} {x_row : Nat → Int64} {x_pivot : Nat → Int32} {x_fresh : Nat → Int64} {x_multiple : Nat → Int64} {x_last : Nat → Int64} {x_made : Nat → Int64} {x_settled : Nat → Int64} {x_point : Nat → Int64} {x_limit : Int64} {x_mode : Int32} {x_counted : Int32} {x_listed : Int32} {x_held : Int32} {x_first : Nat → Int64} {x_squares : Nat → Int64} {x_wanted : Int32} {x_spanned : Int32} {x_span : Nat → Int64} {x_minima : Nat → Int32} {x_measured : Int32} {x_found : Nat → Int64} {x_any : Int32}  {out : Int64 × (Nat → Int64)} (h : M_times F x_rows x_row x_pivot x_fresh  = some out) : Mt yM_times cM_times 12 (some .long) rm_M_times κ [.ref (κ.1 0)] (LM κ (x_many, x_generator, x_known, x_without, x_rows, x_row, x_pivot, x_fresh, x_multiple, x_last, x_made, x_settled, x_point, x_limit, x_mode, x_counted, x_listed, x_held, x_first, x_squares, x_wanted, x_spanned, x_span, x_minima, x_measured, x_found, x_any) X) (some (.long out.1)) (LM κ (x_many, x_generator, x_known, x_without, x_rows, x_row, x_pivot, out.2, x_multiple, x_last, x_made, x_settled, x_point, x_limit, x_mode, x_counted, x_listed, x_held, x_first, x_squares, x_wanted, x_spanned, x_span, x_minima, x_measured, x_found, x_any) X) := by
  refine Mt.of (by decide) (Nat.le_of_ble_eq_true rfl) ?_
  intro g G Fh
  unfold M_times at h
  show J g κ 12 0 [(0, .ref (κ.1 0))] [] (LM κ (x_many, x_generator, x_known, x_without, x_rows, x_row, x_pivot, x_fresh, x_multiple, x_last, x_made, x_settled, x_point, x_limit, x_mode, x_counted, x_listed, x_held, x_first, x_squares, x_wanted, x_spanned, x_span, x_minima, x_measured, x_found, x_any) X)
  refine w_lconst (pc := 0) (v := (1 : Int64)) G dM_times_0 (by decide) ?_
  refine w_lstore_n (pc := 1) (lv' := [(1, .long (1 : Int64)), (0, .ref (κ.1 0))]) G dM_times_1 rfl (by decide) rfl ?_
  refine w_iconst (pc := 2) (v := (0 : Int32)) G dM_times_2 (by decide) ?_
  refine w_istore_n (pc := 3) (lv' := [(3, .int (0 : Int32)), (1, .long (1 : Int64)), (0, .ref (κ.1 0))]) G dM_times_3 rfl (by decide) rfl ?_
  refine w_sub (lv' := [(0, .ref (κ.1 0)), (1, .long (1 : Int64)), (3, .int (0 : Int32))]) [2, 1, 0] rfl ?_
  obtain ⟨o4_35, eo4_35, h⟩ := bd h
  rcases o4_35 with o4_35 | o4_35
  · refine lM_times_4_ok G X F F (1 : Int64) (0 : Int32) x_fresh (.inl o4_35) eo4_35 (fun e he => ?_) (fun r he => by cases he)
    cases he
    dsimp only at h
    refine w_lload_n (pc := 141) (q := 0) G dM_times_141 rfl rfl ?_
    obtain rfl := Option.some.inj h
    exact w_lret (pc := 142) G dM_times_142 Fh
  · refine lM_times_4_ok G X F F (1 : Int64) (0 : Int32) x_fresh (.inr o4_35) eo4_35 (fun e he => by cases he) (fun r he => ?_)
    cases he
    dsimp only at h
    obtain rfl := Option.some.inj h
    exact Fh
def rm_M_spare : Room := { frames := 5, cells := 0, slots := 0, locals := 121 }
theorem dM_spare_0 : decode cM_spare 0 = .ok (.iload_n 1, 1) := by decide +kernel
theorem dM_spare_1 : decode cM_spare 1 = .ok (.ifCond .lt 11, 3) := by decide +kernel
theorem dM_spare_4 : decode cM_spare 4 = .ok (.iload_n 1, 1) := by decide +kernel
theorem dM_spare_5 : decode cM_spare 5 = .ok (.aload_n 0, 1) := by decide +kernel
theorem dM_spare_6 : decode cM_spare 6 = .ok (.getfield 67, 3) := by decide +kernel
theorem dM_spare_9 : decode cM_spare 9 = .ok (.if_icmp .lt 5, 3) := by decide +kernel
theorem dM_spare_12 : decode cM_spare 12 = .ok (.iconst 0, 1) := by decide +kernel
theorem dM_spare_13 : decode cM_spare 13 = .ok (.ireturn, 1) := by decide +kernel
theorem dM_spare_14 : decode cM_spare 14 = .ok (.aload_n 0, 1) := by decide +kernel
theorem dM_spare_15 : decode cM_spare 15 = .ok (.iload_n 1, 1) := by decide +kernel
theorem dM_spare_16 : decode cM_spare 16 = .ok (.invokevirtual 107, 3) := by decide +kernel
theorem dM_spare_19 : decode cM_spare 19 = .ok (.aload_n 0, 1) := by decide +kernel
theorem dM_spare_20 : decode cM_spare 20 = .ok (.aload_n 0, 1) := by decide +kernel
theorem dM_spare_21 : decode cM_spare 21 = .ok (.getfield 7, 3) := by decide +kernel
theorem dM_spare_24 : decode cM_spare 24 = .ok (.iconst 4, 1) := by decide +kernel
theorem dM_spare_25 : decode cM_spare 25 = .ok (.iload_n 1, 1) := by decide +kernel
theorem dM_spare_26 : decode cM_spare 26 = .ok (.imul, 1) := by decide +kernel
theorem dM_spare_27 : decode cM_spare 27 = .ok (.iaload, 1) := by decide +kernel
theorem dM_spare_28 : decode cM_spare 28 = .ok (.aload_n 0, 1) := by decide +kernel
theorem dM_spare_29 : decode cM_spare 29 = .ok (.getfield 7, 3) := by decide +kernel
theorem dM_spare_32 : decode cM_spare 32 = .ok (.iconst 4, 1) := by decide +kernel
theorem dM_spare_33 : decode cM_spare 33 = .ok (.iload_n 1, 1) := by decide +kernel
theorem dM_spare_34 : decode cM_spare 34 = .ok (.imul, 1) := by decide +kernel
theorem dM_spare_35 : decode cM_spare 35 = .ok (.iconst 1, 1) := by decide +kernel
theorem dM_spare_36 : decode cM_spare 36 = .ok (.iadd, 1) := by decide +kernel
theorem dM_spare_37 : decode cM_spare 37 = .ok (.iaload, 1) := by decide +kernel
theorem dM_spare_38 : decode cM_spare 38 = .ok (.aload_n 0, 1) := by decide +kernel
theorem dM_spare_39 : decode cM_spare 39 = .ok (.getfield 7, 3) := by decide +kernel
theorem dM_spare_42 : decode cM_spare 42 = .ok (.iconst 4, 1) := by decide +kernel
theorem dM_spare_43 : decode cM_spare 43 = .ok (.iload_n 1, 1) := by decide +kernel
theorem dM_spare_44 : decode cM_spare 44 = .ok (.imul, 1) := by decide +kernel
theorem dM_spare_45 : decode cM_spare 45 = .ok (.iconst 2, 1) := by decide +kernel
theorem dM_spare_46 : decode cM_spare 46 = .ok (.iadd, 1) := by decide +kernel
theorem dM_spare_47 : decode cM_spare 47 = .ok (.iaload, 1) := by decide +kernel
theorem dM_spare_48 : decode cM_spare 48 = .ok (.aload_n 0, 1) := by decide +kernel
theorem dM_spare_49 : decode cM_spare 49 = .ok (.getfield 7, 3) := by decide +kernel
theorem dM_spare_52 : decode cM_spare 52 = .ok (.iconst 4, 1) := by decide +kernel
theorem dM_spare_53 : decode cM_spare 53 = .ok (.iload_n 1, 1) := by decide +kernel
theorem dM_spare_54 : decode cM_spare 54 = .ok (.imul, 1) := by decide +kernel
theorem dM_spare_55 : decode cM_spare 55 = .ok (.iconst 3, 1) := by decide +kernel
theorem dM_spare_56 : decode cM_spare 56 = .ok (.iadd, 1) := by decide +kernel
theorem dM_spare_57 : decode cM_spare 57 = .ok (.iaload, 1) := by decide +kernel
theorem dM_spare_58 : decode cM_spare 58 = .ok (.invokevirtual 118, 3) := by decide +kernel
theorem dM_spare_61 : decode cM_spare 61 = .ok (.aload_n 0, 1) := by decide +kernel
theorem dM_spare_62 : decode cM_spare 62 = .ok (.invokevirtual 122, 3) := by decide +kernel
theorem dM_spare_65 : decode cM_spare 65 = .ok (.lconst 1, 1) := by decide +kernel
theorem dM_spare_66 : decode cM_spare 66 = .ok (.lcmp, 1) := by decide +kernel
theorem dM_spare_67 : decode cM_spare 67 = .ok (.ifCond .ne 7, 3) := by decide +kernel
theorem dM_spare_70 : decode cM_spare 70 = .ok (.iconst 1, 1) := by decide +kernel
theorem dM_spare_71 : decode cM_spare 71 = .ok (.goto 4, 3) := by decide +kernel
theorem dM_spare_74 : decode cM_spare 74 = .ok (.iconst 0, 1) := by decide +kernel
theorem dM_spare_75 : decode cM_spare 75 = .ok (.ireturn, 1) := by decide +kernel
theorem cb_M_look_M_spare : CB yM_look cM_look 4 none rm_M_look rm_M_spare 1 := ⟨wd598, wd8, by decide +kernel, rfl, rfl, by decide⟩
theorem cb_M_set_M_spare : CB yM_set cM_set 5 none rm_M_set rm_M_spare 4 := ⟨wd645, wd8, by decide +kernel, rfl, rfl, by decide⟩
theorem cb_M_times_M_spare : CB yM_times cM_times 12 (some .long) rm_M_times rm_M_spare 0 := ⟨wd649, wd8, by decide +kernel, rfl, rfl, by decide⟩
noncomputable def M_spare (F : Nat) (x_many : Int32) (x_generator : Nat → Int32) (x_known : Int32) (x_without : Int32) (x_rows : Int32) (x_row : Nat → Int64) (x_pivot : Nat → Int32) (x_fresh : Nat → Int64) (v1 : Int32) : Option (Int32 × Int32 × Int32 × Int32 × (Nat → Int64) × (Nat → Int32) × (Nat → Int64)) := if v1 < 0 then some ((0 : Int32), x_known, x_without, x_rows, x_row, x_pivot, x_fresh) else if v1 < x_many then (M_look F x_many x_generator x_known x_without x_rows x_row x_pivot x_fresh v1).bind (fun r16 => gd (vp_in ((4 : Int32) * v1) 24) (gd (vp_in (((4 : Int32) * v1) + (1 : Int32)) 24) (gd (vp_in (((4 : Int32) * v1) + (2 : Int32)) 24) (gd (vp_in (((4 : Int32) * v1) + (3 : Int32)) 24) ((M_set F r16.2.2.2.2.2 (x_generator ((4 : Int32) * v1).toNatClampNeg) (x_generator (((4 : Int32) * v1) + (1 : Int32)).toNatClampNeg) (x_generator (((4 : Int32) * v1) + (2 : Int32)).toNatClampNeg) (x_generator (((4 : Int32) * v1) + (3 : Int32)).toNatClampNeg)).bind (fun r58 => (M_times F r16.2.2.1 r16.2.2.2.1 r16.2.2.2.2.1 r58 ).bind (fun r62 => if r62.1 = (1 : Int64) then some ((1 : Int32), r16.1, r16.2.1, r16.2.2.1, r16.2.2.2.1, r16.2.2.2.2.1, r62.2) else some ((0 : Int32), r16.1, r16.2.1, r16.2.2.1, r16.2.2.2.1, r16.2.2.2.2.1, r62.2)))))))) else some ((0 : Int32), x_known, x_without, x_rows, x_row, x_pivot, x_fresh)
set_option maxHeartbeats 8000000 in
set_option maxRecDepth 100000 in
theorem met_M_spare (κ : ctx) (X : Nat → va_E) (F : Nat) {x_many : Int32} {x_generator : Nat → Int32} {x_known : Int32} {x_without : Int32} {x_rows : Int32} {x_row : Nat → Int64} {x_pivot : Nat → Int32} {x_fresh : Nat → Int64} {x_multiple : Nat → Int64} {x_last : Nat → Int64} {x_made : Nat → Int64} {x_settled : Nat → Int64} {x_point : Nat → Int64} {x_limit : Int64} {x_mode : Int32} {x_counted : Int32} {x_listed : Int32} {x_held : Int32} {x_first : Nat → Int64} {x_squares : Nat → Int64} {x_wanted : Int32} {x_spanned : Int32} {x_span : Nat → Int64} {x_minima : Nat → Int32} {x_measured : Int32} {x_found : Nat → Int64} {x_any : Int32} (v1 : Int32) {out : Int32 × Int32 × Int32 × Int32 × (Nat → Int64) × (Nat → Int32) × (Nat → Int64)} (h : M_spare F x_many x_generator x_known x_without x_rows x_row x_pivot x_fresh v1 = some out) : Mt yM_spare cM_spare 2 (some .boolean) rm_M_spare κ [.ref (κ.1 0), .int v1] (LM κ (x_many, x_generator, x_known, x_without, x_rows, x_row, x_pivot, x_fresh, x_multiple, x_last, x_made, x_settled, x_point, x_limit, x_mode, x_counted, x_listed, x_held, x_first, x_squares, x_wanted, x_spanned, x_span, x_minima, x_measured, x_found, x_any) X) (some (.int out.1)) (LM κ (x_many, x_generator, out.2.1, out.2.2.1, out.2.2.2.1, out.2.2.2.2.1, out.2.2.2.2.2.1, out.2.2.2.2.2.2, x_multiple, x_last, x_made, x_settled, x_point, x_limit, x_mode, x_counted, x_listed, x_held, x_first, x_squares, x_wanted, x_spanned, x_span, x_minima, x_measured, x_found, x_any) X) := by
  refine Mt.of (by decide) (Nat.le_of_ble_eq_true rfl) ?_
  intro g G Fh
  unfold M_spare at h
  show J g κ 2 0 [(0, .ref (κ.1 0)), (1, .int v1)] [] (LM κ (x_many, x_generator, x_known, x_without, x_rows, x_row, x_pivot, x_fresh, x_multiple, x_last, x_made, x_settled, x_point, x_limit, x_mode, x_counted, x_listed, x_held, x_first, x_squares, x_wanted, x_spanned, x_span, x_minima, x_measured, x_found, x_any) X)
  refine w_iload_n (pc := 0) (q := 1) G dM_spare_0 rfl rfl ?_
  refine w_if_lt (pc := 1) (tgt := 12) G dM_spare_1 (by decide) (fun c1 => ?_) (fun c1 => ?_)
  · have h := if_t c1 h
    refine w_iconst (pc := 12) (v := (0 : Int32)) G dM_spare_12 (by decide) ?_
    obtain rfl := Option.some.inj h
    exact w_zret (pc := 13) G rfl dM_spare_13 Fh
  · have h := if_f c1 h
    refine w_iload_n (pc := 4) (q := 1) G dM_spare_4 rfl rfl ?_
    refine w_aload_n (pc := 5) (q := 0) G dM_spare_5 rfl rfl ?_
    refine w_get (pc := 6) (v := .int x_many) (fs := fl_M κ (x_many, x_generator, x_known, x_without, x_rows, x_row, x_pivot, x_fresh, x_multiple, x_last, x_made, x_settled, x_point, x_limit, x_mode, x_counted, x_listed, x_held, x_first, x_squares, x_wanted, x_spanned, x_span, x_minima, x_measured, x_found, x_any)) G 0 (by decide) lb_M rfl wsM_ok 0 (by decide) wd490 gf_M_0 dM_spare_6 ?_
    refine w_icmp_lt (pc := 9) (tgt := 14) G dM_spare_9 (by decide) (fun c9 => ?_) (fun c9 => ?_)
    · have h := if_t c9 h
      refine w_aload_n (pc := 14) (q := 0) G dM_spare_14 rfl rfl ?_
      refine w_iload_n (pc := 15) (q := 1) G dM_spare_15 rfl rfl ?_
      obtain ⟨r16, e16, h⟩ := bd h
      refine w_callV (pc := 16) (av := [.int v1]) (rest := []) (v := none) (L' := (LM κ (x_many, x_generator, r16.1, r16.2.1, r16.2.2.1, r16.2.2.2.1, r16.2.2.2.2.1, r16.2.2.2.2.2, x_multiple, x_last, x_made, x_settled, x_point, x_limit, x_mode, x_counted, x_listed, x_held, x_first, x_squares, x_wanted, x_spanned, x_span, x_minima, x_measured, x_found, x_any) X)) (T := TM) (fs := fl_M κ (x_many, x_generator, x_known, x_without, x_rows, x_row, x_pivot, x_fresh, x_multiple, x_last, x_made, x_settled, x_point, x_limit, x_mode, x_counted, x_listed, x_held, x_first, x_squares, x_wanted, x_spanned, x_span, x_minima, x_measured, x_found, x_any)) G 0 0 27 (by decide) lb_M rfl cb_M_look_M_spare wd597 ws20 wd595 (met_M_look κ X F v1  e16) rfl rfl rfl (Nat.le_of_ble_eq_true rfl) dM_spare_16 ?_
      refine w_aload_n (pc := 19) (q := 0) G dM_spare_19 rfl rfl ?_
      refine w_aload_n (pc := 20) (q := 0) G dM_spare_20 rfl rfl ?_
      refine w_get (pc := 21) (v := .ref (κ.1 1)) (fs := fl_M κ (x_many, x_generator, r16.1, r16.2.1, r16.2.2.1, r16.2.2.2.1, r16.2.2.2.2.1, r16.2.2.2.2.2, x_multiple, x_last, x_made, x_settled, x_point, x_limit, x_mode, x_counted, x_listed, x_held, x_first, x_squares, x_wanted, x_spanned, x_span, x_minima, x_measured, x_found, x_any)) G 0 (by decide) lb_M rfl wsM_ok 1 (by decide) wd491 gf_M_1 dM_spare_21 ?_
      refine w_iconst (pc := 24) (v := (4 : Int32)) G dM_spare_24 (by decide) ?_
      refine w_iload_n (pc := 25) (q := 1) G dM_spare_25 rfl rfl ?_
      refine w_imul (pc := 26) G dM_spare_26 ?_
      obtain ⟨i27, h⟩ := gd_some h
      refine w_iald (pc := 27) (n := 24) (f := x_generator) G 1 (by decide) lk_generator i27 dM_spare_27 ?_
      refine w_aload_n (pc := 28) (q := 0) G dM_spare_28 rfl rfl ?_
      refine w_get (pc := 29) (v := .ref (κ.1 1)) (fs := fl_M κ (x_many, x_generator, r16.1, r16.2.1, r16.2.2.1, r16.2.2.2.1, r16.2.2.2.2.1, r16.2.2.2.2.2, x_multiple, x_last, x_made, x_settled, x_point, x_limit, x_mode, x_counted, x_listed, x_held, x_first, x_squares, x_wanted, x_spanned, x_span, x_minima, x_measured, x_found, x_any)) G 0 (by decide) lb_M rfl wsM_ok 1 (by decide) wd491 gf_M_1 dM_spare_29 ?_
      refine w_iconst (pc := 32) (v := (4 : Int32)) G dM_spare_32 (by decide) ?_
      refine w_iload_n (pc := 33) (q := 1) G dM_spare_33 rfl rfl ?_
      refine w_imul (pc := 34) G dM_spare_34 ?_
      refine w_iconst (pc := 35) (v := (1 : Int32)) G dM_spare_35 (by decide) ?_
      refine w_iadd (pc := 36) G dM_spare_36 ?_
      obtain ⟨i37, h⟩ := gd_some h
      refine w_iald (pc := 37) (n := 24) (f := x_generator) G 1 (by decide) lk_generator i37 dM_spare_37 ?_
      refine w_aload_n (pc := 38) (q := 0) G dM_spare_38 rfl rfl ?_
      refine w_get (pc := 39) (v := .ref (κ.1 1)) (fs := fl_M κ (x_many, x_generator, r16.1, r16.2.1, r16.2.2.1, r16.2.2.2.1, r16.2.2.2.2.1, r16.2.2.2.2.2, x_multiple, x_last, x_made, x_settled, x_point, x_limit, x_mode, x_counted, x_listed, x_held, x_first, x_squares, x_wanted, x_spanned, x_span, x_minima, x_measured, x_found, x_any)) G 0 (by decide) lb_M rfl wsM_ok 1 (by decide) wd491 gf_M_1 dM_spare_39 ?_
      refine w_iconst (pc := 42) (v := (4 : Int32)) G dM_spare_42 (by decide) ?_
      refine w_iload_n (pc := 43) (q := 1) G dM_spare_43 rfl rfl ?_
      refine w_imul (pc := 44) G dM_spare_44 ?_
      refine w_iconst (pc := 45) (v := (2 : Int32)) G dM_spare_45 (by decide) ?_
      refine w_iadd (pc := 46) G dM_spare_46 ?_
      obtain ⟨i47, h⟩ := gd_some h
      refine w_iald (pc := 47) (n := 24) (f := x_generator) G 1 (by decide) lk_generator i47 dM_spare_47 ?_
      refine w_aload_n (pc := 48) (q := 0) G dM_spare_48 rfl rfl ?_
      refine w_get (pc := 49) (v := .ref (κ.1 1)) (fs := fl_M κ (x_many, x_generator, r16.1, r16.2.1, r16.2.2.1, r16.2.2.2.1, r16.2.2.2.2.1, r16.2.2.2.2.2, x_multiple, x_last, x_made, x_settled, x_point, x_limit, x_mode, x_counted, x_listed, x_held, x_first, x_squares, x_wanted, x_spanned, x_span, x_minima, x_measured, x_found, x_any)) G 0 (by decide) lb_M rfl wsM_ok 1 (by decide) wd491 gf_M_1 dM_spare_49 ?_
      refine w_iconst (pc := 52) (v := (4 : Int32)) G dM_spare_52 (by decide) ?_
      refine w_iload_n (pc := 53) (q := 1) G dM_spare_53 rfl rfl ?_
      refine w_imul (pc := 54) G dM_spare_54 ?_
      refine w_iconst (pc := 55) (v := (3 : Int32)) G dM_spare_55 (by decide) ?_
      refine w_iadd (pc := 56) G dM_spare_56 ?_
      obtain ⟨i57, h⟩ := gd_some h
      refine w_iald (pc := 57) (n := 24) (f := x_generator) G 1 (by decide) lk_generator i57 dM_spare_57 ?_
      obtain ⟨r58, e58, h⟩ := bd h
      refine w_callV (pc := 58) (av := [.int (x_generator ((4 : Int32) * v1).toNatClampNeg), .int (x_generator (((4 : Int32) * v1) + (1 : Int32)).toNatClampNeg), .int (x_generator (((4 : Int32) * v1) + (2 : Int32)).toNatClampNeg), .int (x_generator (((4 : Int32) * v1) + (3 : Int32)).toNatClampNeg)]) (rest := []) (v := none) (L' := (LM κ (x_many, x_generator, r16.1, r16.2.1, r16.2.2.1, r16.2.2.2.1, r16.2.2.2.2.1, r58, x_multiple, x_last, x_made, x_settled, x_point, x_limit, x_mode, x_counted, x_listed, x_held, x_first, x_squares, x_wanted, x_spanned, x_span, x_minima, x_measured, x_found, x_any) X)) (T := TM) (fs := fl_M κ (x_many, x_generator, r16.1, r16.2.1, r16.2.2.1, r16.2.2.2.1, r16.2.2.2.2.1, r16.2.2.2.2.2, x_multiple, x_last, x_made, x_settled, x_point, x_limit, x_mode, x_counted, x_listed, x_held, x_first, x_squares, x_wanted, x_spanned, x_span, x_minima, x_measured, x_found, x_any)) G 0 0 27 (by decide) lb_M rfl cb_M_set_M_spare wd644 ws29 wd642 (met_M_set κ X F (x_generator ((4 : Int32) * v1).toNatClampNeg) (x_generator (((4 : Int32) * v1) + (1 : Int32)).toNatClampNeg) (x_generator (((4 : Int32) * v1) + (2 : Int32)).toNatClampNeg) (x_generator (((4 : Int32) * v1) + (3 : Int32)).toNatClampNeg)  e58) rfl rfl rfl (Nat.le_of_ble_eq_true rfl) dM_spare_58 ?_
      refine w_aload_n (pc := 61) (q := 0) G dM_spare_61 rfl rfl ?_
      obtain ⟨r62, e62, h⟩ := bd h
      refine w_callV (pc := 62) (av := []) (rest := []) (v := some (.long r62.1)) (L' := (LM κ (x_many, x_generator, r16.1, r16.2.1, r16.2.2.1, r16.2.2.2.1, r16.2.2.2.2.1, r62.2, x_multiple, x_last, x_made, x_settled, x_point, x_limit, x_mode, x_counted, x_listed, x_held, x_first, x_squares, x_wanted, x_spanned, x_span, x_minima, x_measured, x_found, x_any) X)) (T := TM) (fs := fl_M κ (x_many, x_generator, r16.1, r16.2.1, r16.2.2.1, r16.2.2.2.1, r16.2.2.2.2.1, r58, x_multiple, x_last, x_made, x_settled, x_point, x_limit, x_mode, x_counted, x_listed, x_held, x_first, x_squares, x_wanted, x_spanned, x_span, x_minima, x_measured, x_found, x_any)) G 0 0 27 (by decide) lb_M rfl cb_M_times_M_spare wd648 ws30 wd646 (met_M_times κ X F   e62) rfl rfl rfl (Nat.le_of_ble_eq_true rfl) dM_spare_62 ?_
      refine w_lconst (pc := 65) (v := (1 : Int64)) G dM_spare_65 (by decide) ?_
      refine w_lc_ne (pc := 66) (tgt := 74) G dM_spare_66 dM_spare_67 (by decide) (fun c66 => ?_) (fun c66 => ?_)
      · have h := if_t c66 h
        refine w_iconst (pc := 70) (v := (1 : Int32)) G dM_spare_70 (by decide) ?_
        refine w_goto (pc := 71) (tgt := 75) G dM_spare_71 (by decide) ?_
        obtain rfl := Option.some.inj h
        exact w_zret (pc := 75) G rfl dM_spare_75 Fh
      · have h := if_f c66 h
        refine w_iconst (pc := 74) (v := (0 : Int32)) G dM_spare_74 (by decide) ?_
        obtain rfl := Option.some.inj h
        exact w_zret (pc := 75) G rfl dM_spare_75 Fh
    · have h := if_f c9 h
      refine w_iconst (pc := 12) (v := (0 : Int32)) G dM_spare_12 (by decide) ?_
      obtain rfl := Option.some.inj h
      exact w_zret (pc := 13) G rfl dM_spare_13 Fh
def rm_M_has : Room := { frames := 5, cells := 0, slots := 0, locals := 121 }
theorem dM_has_0 : decode cM_has 0 = .ok (.iload_n 1, 1) := by decide +kernel
theorem dM_has_1 : decode cM_has 1 = .ok (.iload_n 2, 1) := by decide +kernel
theorem dM_has_2 : decode cM_has 2 = .ok (.iload_n 3, 1) := by decide +kernel
theorem dM_has_3 : decode cM_has 3 = .ok (.iload 4, 2) := by decide +kernel
theorem dM_has_5 : decode cM_has 5 = .ok (.sipush 1000, 3) := by decide +kernel
theorem dM_has_8 : decode cM_has 8 = .ok (.invokestatic 63, 3) := by decide +kernel
theorem dM_has_11 : decode cM_has 11 = .ok (.ifCond .ne 5, 3) := by decide +kernel
theorem dM_has_14 : decode cM_has 14 = .ok (.iconst 0, 1) := by decide +kernel
theorem dM_has_15 : decode cM_has 15 = .ok (.ireturn, 1) := by decide +kernel
theorem dM_has_16 : decode cM_has 16 = .ok (.aload_n 0, 1) := by decide +kernel
theorem dM_has_17 : decode cM_has 17 = .ok (.iconst (-1), 1) := by decide +kernel
theorem dM_has_18 : decode cM_has 18 = .ok (.invokevirtual 107, 3) := by decide +kernel
theorem dM_has_21 : decode cM_has 21 = .ok (.aload_n 0, 1) := by decide +kernel
theorem dM_has_22 : decode cM_has 22 = .ok (.iload_n 1, 1) := by decide +kernel
theorem dM_has_23 : decode cM_has 23 = .ok (.iload_n 2, 1) := by decide +kernel
theorem dM_has_24 : decode cM_has 24 = .ok (.iload_n 3, 1) := by decide +kernel
theorem dM_has_25 : decode cM_has 25 = .ok (.iload 4, 2) := by decide +kernel
theorem dM_has_27 : decode cM_has 27 = .ok (.invokevirtual 118, 3) := by decide +kernel
theorem dM_has_30 : decode cM_has 30 = .ok (.aload_n 0, 1) := by decide +kernel
theorem dM_has_31 : decode cM_has 31 = .ok (.invokevirtual 122, 3) := by decide +kernel
theorem dM_has_34 : decode cM_has 34 = .ok (.lconst 1, 1) := by decide +kernel
theorem dM_has_35 : decode cM_has 35 = .ok (.lcmp, 1) := by decide +kernel
theorem dM_has_36 : decode cM_has 36 = .ok (.ifCond .ne 7, 3) := by decide +kernel
theorem dM_has_39 : decode cM_has 39 = .ok (.iconst 1, 1) := by decide +kernel
theorem dM_has_40 : decode cM_has 40 = .ok (.goto 4, 3) := by decide +kernel
theorem dM_has_43 : decode cM_has 43 = .ok (.iconst 0, 1) := by decide +kernel
theorem dM_has_44 : decode cM_has 44 = .ok (.ireturn, 1) := by decide +kernel
theorem cb_M_look_M_has : CB yM_look cM_look 4 none rm_M_look rm_M_has 1 := ⟨wd598, wd8, by decide +kernel, rfl, rfl, by decide⟩
theorem cb_M_set_M_has : CB yM_set cM_set 5 none rm_M_set rm_M_has 4 := ⟨wd645, wd8, by decide +kernel, rfl, rfl, by decide⟩
theorem cb_M_times_M_has : CB yM_times cM_times 12 (some .long) rm_M_times rm_M_has 0 := ⟨wd649, wd8, by decide +kernel, rfl, rfl, by decide⟩
theorem cb_M_within_M_has : CB yM_within cM_within 5 (some .boolean) rm_M_within rm_M_has 5 := ⟨wd578, wd8, by decide +kernel, rfl, rfl, by decide⟩
noncomputable def M_has (F : Nat) (x_many : Int32) (x_generator : Nat → Int32) (x_known : Int32) (x_without : Int32) (x_rows : Int32) (x_row : Nat → Int64) (x_pivot : Nat → Int32) (x_fresh : Nat → Int64) (v1 : Int32) (v2 : Int32) (v3 : Int32) (v4 : Int32) : Option (Int32 × Int32 × Int32 × Int32 × (Nat → Int64) × (Nat → Int32) × (Nat → Int64)) := (M_within F  v1 v2 v3 v4 (1000 : Int32)).bind (fun r8 => if r8 = 0 then some ((0 : Int32), x_known, x_without, x_rows, x_row, x_pivot, x_fresh) else (M_look F x_many x_generator x_known x_without x_rows x_row x_pivot x_fresh (-1 : Int32)).bind (fun r18 => (M_set F r18.2.2.2.2.2 v1 v2 v3 v4).bind (fun r27 => (M_times F r18.2.2.1 r18.2.2.2.1 r18.2.2.2.2.1 r27 ).bind (fun r31 => if r31.1 = (1 : Int64) then some ((1 : Int32), r18.1, r18.2.1, r18.2.2.1, r18.2.2.2.1, r18.2.2.2.2.1, r31.2) else some ((0 : Int32), r18.1, r18.2.1, r18.2.2.1, r18.2.2.2.1, r18.2.2.2.2.1, r31.2)))))
set_option maxHeartbeats 8000000 in
set_option maxRecDepth 100000 in
theorem met_M_has (κ : ctx) (X : Nat → va_E) (F : Nat) {x_many : Int32} {x_generator : Nat → Int32} {x_known : Int32} {x_without : Int32} {x_rows : Int32} {x_row : Nat → Int64} {x_pivot : Nat → Int32} {x_fresh : Nat → Int64} {x_multiple : Nat → Int64} {x_last : Nat → Int64} {x_made : Nat → Int64} {x_settled : Nat → Int64} {x_point : Nat → Int64} {x_limit : Int64} {x_mode : Int32} {x_counted : Int32} {x_listed : Int32} {x_held : Int32} {x_first : Nat → Int64} {x_squares : Nat → Int64} {x_wanted : Int32} {x_spanned : Int32} {x_span : Nat → Int64} {x_minima : Nat → Int32} {x_measured : Int32} {x_found : Nat → Int64} {x_any : Int32} (v1 : Int32) (v2 : Int32) (v3 : Int32) (v4 : Int32) {out : Int32 × Int32 × Int32 × Int32 × (Nat → Int64) × (Nat → Int32) × (Nat → Int64)} (h : M_has F x_many x_generator x_known x_without x_rows x_row x_pivot x_fresh v1 v2 v3 v4 = some out) : Mt yM_has cM_has 5 (some .boolean) rm_M_has κ [.ref (κ.1 0), .int v1, .int v2, .int v3, .int v4] (LM κ (x_many, x_generator, x_known, x_without, x_rows, x_row, x_pivot, x_fresh, x_multiple, x_last, x_made, x_settled, x_point, x_limit, x_mode, x_counted, x_listed, x_held, x_first, x_squares, x_wanted, x_spanned, x_span, x_minima, x_measured, x_found, x_any) X) (some (.int out.1)) (LM κ (x_many, x_generator, out.2.1, out.2.2.1, out.2.2.2.1, out.2.2.2.2.1, out.2.2.2.2.2.1, out.2.2.2.2.2.2, x_multiple, x_last, x_made, x_settled, x_point, x_limit, x_mode, x_counted, x_listed, x_held, x_first, x_squares, x_wanted, x_spanned, x_span, x_minima, x_measured, x_found, x_any) X) := by
  refine Mt.of (by decide) (Nat.le_of_ble_eq_true rfl) ?_
  intro g G Fh
  unfold M_has at h
  show J g κ 5 0 [(0, .ref (κ.1 0)), (1, .int v1), (2, .int v2), (3, .int v3), (4, .int v4)] [] (LM κ (x_many, x_generator, x_known, x_without, x_rows, x_row, x_pivot, x_fresh, x_multiple, x_last, x_made, x_settled, x_point, x_limit, x_mode, x_counted, x_listed, x_held, x_first, x_squares, x_wanted, x_spanned, x_span, x_minima, x_measured, x_found, x_any) X)
  refine w_iload_n (pc := 0) (q := 1) G dM_has_0 rfl rfl ?_
  refine w_iload_n (pc := 1) (q := 2) G dM_has_1 rfl rfl ?_
  refine w_iload_n (pc := 2) (q := 3) G dM_has_2 rfl rfl ?_
  refine w_iload (pc := 3) (q := 4) G dM_has_3 rfl ?_
  refine w_sipush (pc := 5) (v := (1000 : Int32)) G dM_has_5 (by decide) ?_
  obtain ⟨r8, e8, h⟩ := bd h
  refine w_callS (pc := 8) (av := [.int v1, .int v2, .int v3, .int v4, .int (1000 : Int32)]) (rest := []) (v := some (.int r8)) (L' := (LM κ (x_many, x_generator, x_known, x_without, x_rows, x_row, x_pivot, x_fresh, x_multiple, x_last, x_made, x_settled, x_point, x_limit, x_mode, x_counted, x_listed, x_held, x_first, x_squares, x_wanted, x_spanned, x_span, x_minima, x_measured, x_found, x_any) X)) G cb_M_within_M_has wd577 wd576 (met_M_within κ (LM κ (x_many, x_generator, x_known, x_without, x_rows, x_row, x_pivot, x_fresh, x_multiple, x_last, x_made, x_settled, x_point, x_limit, x_mode, x_counted, x_listed, x_held, x_first, x_squares, x_wanted, x_spanned, x_span, x_minima, x_measured, x_found, x_any) X) F v1 v2 v3 v4 (1000 : Int32)  e8) rfl rfl rfl (Nat.le_of_ble_eq_true rfl) dM_has_8 ?_
  refine w_if_ne (pc := 11) (tgt := 16) G dM_has_11 (by decide) (fun c11 => ?_) (fun c11 => ?_)
  · have h := if_t c11 h
    refine w_iconst (pc := 14) (v := (0 : Int32)) G dM_has_14 (by decide) ?_
    obtain rfl := Option.some.inj h
    exact w_zret (pc := 15) G rfl dM_has_15 Fh
  · have h := if_f c11 h
    refine w_aload_n (pc := 16) (q := 0) G dM_has_16 rfl rfl ?_
    refine w_iconst (pc := 17) (v := (-1 : Int32)) G dM_has_17 (by decide) ?_
    obtain ⟨r18, e18, h⟩ := bd h
    refine w_callV (pc := 18) (av := [.int (-1 : Int32)]) (rest := []) (v := none) (L' := (LM κ (x_many, x_generator, r18.1, r18.2.1, r18.2.2.1, r18.2.2.2.1, r18.2.2.2.2.1, r18.2.2.2.2.2, x_multiple, x_last, x_made, x_settled, x_point, x_limit, x_mode, x_counted, x_listed, x_held, x_first, x_squares, x_wanted, x_spanned, x_span, x_minima, x_measured, x_found, x_any) X)) (T := TM) (fs := fl_M κ (x_many, x_generator, x_known, x_without, x_rows, x_row, x_pivot, x_fresh, x_multiple, x_last, x_made, x_settled, x_point, x_limit, x_mode, x_counted, x_listed, x_held, x_first, x_squares, x_wanted, x_spanned, x_span, x_minima, x_measured, x_found, x_any)) G 0 0 27 (by decide) lb_M rfl cb_M_look_M_has wd597 ws20 wd595 (met_M_look κ X F (-1 : Int32)  e18) rfl rfl rfl (Nat.le_of_ble_eq_true rfl) dM_has_18 ?_
    refine w_aload_n (pc := 21) (q := 0) G dM_has_21 rfl rfl ?_
    refine w_iload_n (pc := 22) (q := 1) G dM_has_22 rfl rfl ?_
    refine w_iload_n (pc := 23) (q := 2) G dM_has_23 rfl rfl ?_
    refine w_iload_n (pc := 24) (q := 3) G dM_has_24 rfl rfl ?_
    refine w_iload (pc := 25) (q := 4) G dM_has_25 rfl ?_
    obtain ⟨r27, e27, h⟩ := bd h
    refine w_callV (pc := 27) (av := [.int v1, .int v2, .int v3, .int v4]) (rest := []) (v := none) (L' := (LM κ (x_many, x_generator, r18.1, r18.2.1, r18.2.2.1, r18.2.2.2.1, r18.2.2.2.2.1, r27, x_multiple, x_last, x_made, x_settled, x_point, x_limit, x_mode, x_counted, x_listed, x_held, x_first, x_squares, x_wanted, x_spanned, x_span, x_minima, x_measured, x_found, x_any) X)) (T := TM) (fs := fl_M κ (x_many, x_generator, r18.1, r18.2.1, r18.2.2.1, r18.2.2.2.1, r18.2.2.2.2.1, r18.2.2.2.2.2, x_multiple, x_last, x_made, x_settled, x_point, x_limit, x_mode, x_counted, x_listed, x_held, x_first, x_squares, x_wanted, x_spanned, x_span, x_minima, x_measured, x_found, x_any)) G 0 0 27 (by decide) lb_M rfl cb_M_set_M_has wd644 ws29 wd642 (met_M_set κ X F v1 v2 v3 v4  e27) rfl rfl rfl (Nat.le_of_ble_eq_true rfl) dM_has_27 ?_
    refine w_aload_n (pc := 30) (q := 0) G dM_has_30 rfl rfl ?_
    obtain ⟨r31, e31, h⟩ := bd h
    refine w_callV (pc := 31) (av := []) (rest := []) (v := some (.long r31.1)) (L' := (LM κ (x_many, x_generator, r18.1, r18.2.1, r18.2.2.1, r18.2.2.2.1, r18.2.2.2.2.1, r31.2, x_multiple, x_last, x_made, x_settled, x_point, x_limit, x_mode, x_counted, x_listed, x_held, x_first, x_squares, x_wanted, x_spanned, x_span, x_minima, x_measured, x_found, x_any) X)) (T := TM) (fs := fl_M κ (x_many, x_generator, r18.1, r18.2.1, r18.2.2.1, r18.2.2.2.1, r18.2.2.2.2.1, r27, x_multiple, x_last, x_made, x_settled, x_point, x_limit, x_mode, x_counted, x_listed, x_held, x_first, x_squares, x_wanted, x_spanned, x_span, x_minima, x_measured, x_found, x_any)) G 0 0 27 (by decide) lb_M rfl cb_M_times_M_has wd648 ws30 wd646 (met_M_times κ X F   e31) rfl rfl rfl (Nat.le_of_ble_eq_true rfl) dM_has_31 ?_
    refine w_lconst (pc := 34) (v := (1 : Int64)) G dM_has_34 (by decide) ?_
    refine w_lc_ne (pc := 35) (tgt := 43) G dM_has_35 dM_has_36 (by decide) (fun c35 => ?_) (fun c35 => ?_)
    · have h := if_t c35 h
      refine w_iconst (pc := 39) (v := (1 : Int32)) G dM_has_39 (by decide) ?_
      refine w_goto (pc := 40) (tgt := 44) G dM_has_40 (by decide) ?_
      obtain rfl := Option.some.inj h
      exact w_zret (pc := 44) G rfl dM_has_44 Fh
    · have h := if_f c35 h
      refine w_iconst (pc := 43) (v := (0 : Int32)) G dM_has_43 (by decide) ?_
      obtain rfl := Option.some.inj h
      exact w_zret (pc := 44) G rfl dM_has_44 Fh
def rm_M_order : Room := { frames := 5, cells := 0, slots := 0, locals := 121 }
theorem dM_order_0 : decode cM_order 0 = .ok (.iload_n 1, 1) := by decide +kernel
theorem dM_order_1 : decode cM_order 1 = .ok (.iload_n 2, 1) := by decide +kernel
theorem dM_order_2 : decode cM_order 2 = .ok (.iload_n 3, 1) := by decide +kernel
theorem dM_order_3 : decode cM_order 3 = .ok (.iload 4, 2) := by decide +kernel
theorem dM_order_5 : decode cM_order 5 = .ok (.bipush 100, 2) := by decide +kernel
theorem dM_order_7 : decode cM_order 7 = .ok (.invokestatic 63, 3) := by decide +kernel
theorem dM_order_10 : decode cM_order 10 = .ok (.ifCond .ne 7, 3) := by decide +kernel
theorem dM_order_13 : decode cM_order 13 = .ok (.ldc2_w 126, 3) := by decide +kernel
theorem dM_order_16 : decode cM_order 16 = .ok (.lreturn, 1) := by decide +kernel
theorem dM_order_17 : decode cM_order 17 = .ok (.aload_n 0, 1) := by decide +kernel
theorem dM_order_18 : decode cM_order 18 = .ok (.iconst (-1), 1) := by decide +kernel
theorem dM_order_19 : decode cM_order 19 = .ok (.invokevirtual 107, 3) := by decide +kernel
theorem dM_order_22 : decode cM_order 22 = .ok (.aload_n 0, 1) := by decide +kernel
theorem dM_order_23 : decode cM_order 23 = .ok (.iload_n 1, 1) := by decide +kernel
theorem dM_order_24 : decode cM_order 24 = .ok (.iload_n 2, 1) := by decide +kernel
theorem dM_order_25 : decode cM_order 25 = .ok (.iload_n 3, 1) := by decide +kernel
theorem dM_order_26 : decode cM_order 26 = .ok (.iload 4, 2) := by decide +kernel
theorem dM_order_28 : decode cM_order 28 = .ok (.invokevirtual 118, 3) := by decide +kernel
theorem dM_order_31 : decode cM_order 31 = .ok (.aload_n 0, 1) := by decide +kernel
theorem dM_order_32 : decode cM_order 32 = .ok (.invokevirtual 122, 3) := by decide +kernel
theorem dM_order_35 : decode cM_order 35 = .ok (.lreturn, 1) := by decide +kernel
theorem cb_M_look_M_order : CB yM_look cM_look 4 none rm_M_look rm_M_order 1 := ⟨wd598, wd8, by decide +kernel, rfl, rfl, by decide⟩
theorem cb_M_set_M_order : CB yM_set cM_set 5 none rm_M_set rm_M_order 4 := ⟨wd645, wd8, by decide +kernel, rfl, rfl, by decide⟩
theorem cb_M_times_M_order : CB yM_times cM_times 12 (some .long) rm_M_times rm_M_order 0 := ⟨wd649, wd8, by decide +kernel, rfl, rfl, by decide⟩
theorem cb_M_within_M_order : CB yM_within cM_within 5 (some .boolean) rm_M_within rm_M_order 5 := ⟨wd578, wd8, by decide +kernel, rfl, rfl, by decide⟩
noncomputable def M_order (F : Nat) (x_many : Int32) (x_generator : Nat → Int32) (x_known : Int32) (x_without : Int32) (x_rows : Int32) (x_row : Nat → Int64) (x_pivot : Nat → Int32) (x_fresh : Nat → Int64) (v1 : Int32) (v2 : Int32) (v3 : Int32) (v4 : Int32) : Option (Int64 × Int32 × Int32 × Int32 × (Nat → Int64) × (Nat → Int32) × (Nat → Int64)) := (M_within F  v1 v2 v3 v4 (100 : Int32)).bind (fun r7 => if r7 = 0 then some ((-1 : Int64), x_known, x_without, x_rows, x_row, x_pivot, x_fresh) else (M_look F x_many x_generator x_known x_without x_rows x_row x_pivot x_fresh (-1 : Int32)).bind (fun r19 => (M_set F r19.2.2.2.2.2 v1 v2 v3 v4).bind (fun r28 => (M_times F r19.2.2.1 r19.2.2.2.1 r19.2.2.2.2.1 r28 ).bind (fun r32 => some (r32.1, r19.1, r19.2.1, r19.2.2.1, r19.2.2.2.1, r19.2.2.2.2.1, r32.2)))))
set_option maxHeartbeats 8000000 in
set_option maxRecDepth 100000 in
theorem met_M_order (κ : ctx) (X : Nat → va_E) (F : Nat) {x_many : Int32} {x_generator : Nat → Int32} {x_known : Int32} {x_without : Int32} {x_rows : Int32} {x_row : Nat → Int64} {x_pivot : Nat → Int32} {x_fresh : Nat → Int64} {x_multiple : Nat → Int64} {x_last : Nat → Int64} {x_made : Nat → Int64} {x_settled : Nat → Int64} {x_point : Nat → Int64} {x_limit : Int64} {x_mode : Int32} {x_counted : Int32} {x_listed : Int32} {x_held : Int32} {x_first : Nat → Int64} {x_squares : Nat → Int64} {x_wanted : Int32} {x_spanned : Int32} {x_span : Nat → Int64} {x_minima : Nat → Int32} {x_measured : Int32} {x_found : Nat → Int64} {x_any : Int32} (v1 : Int32) (v2 : Int32) (v3 : Int32) (v4 : Int32) {out : Int64 × Int32 × Int32 × Int32 × (Nat → Int64) × (Nat → Int32) × (Nat → Int64)} (h : M_order F x_many x_generator x_known x_without x_rows x_row x_pivot x_fresh v1 v2 v3 v4 = some out) : Mt yM_order cM_order 5 (some .long) rm_M_order κ [.ref (κ.1 0), .int v1, .int v2, .int v3, .int v4] (LM κ (x_many, x_generator, x_known, x_without, x_rows, x_row, x_pivot, x_fresh, x_multiple, x_last, x_made, x_settled, x_point, x_limit, x_mode, x_counted, x_listed, x_held, x_first, x_squares, x_wanted, x_spanned, x_span, x_minima, x_measured, x_found, x_any) X) (some (.long out.1)) (LM κ (x_many, x_generator, out.2.1, out.2.2.1, out.2.2.2.1, out.2.2.2.2.1, out.2.2.2.2.2.1, out.2.2.2.2.2.2, x_multiple, x_last, x_made, x_settled, x_point, x_limit, x_mode, x_counted, x_listed, x_held, x_first, x_squares, x_wanted, x_spanned, x_span, x_minima, x_measured, x_found, x_any) X) := by
  refine Mt.of (by decide) (Nat.le_of_ble_eq_true rfl) ?_
  intro g G Fh
  unfold M_order at h
  show J g κ 5 0 [(0, .ref (κ.1 0)), (1, .int v1), (2, .int v2), (3, .int v3), (4, .int v4)] [] (LM κ (x_many, x_generator, x_known, x_without, x_rows, x_row, x_pivot, x_fresh, x_multiple, x_last, x_made, x_settled, x_point, x_limit, x_mode, x_counted, x_listed, x_held, x_first, x_squares, x_wanted, x_spanned, x_span, x_minima, x_measured, x_found, x_any) X)
  refine w_iload_n (pc := 0) (q := 1) G dM_order_0 rfl rfl ?_
  refine w_iload_n (pc := 1) (q := 2) G dM_order_1 rfl rfl ?_
  refine w_iload_n (pc := 2) (q := 3) G dM_order_2 rfl rfl ?_
  refine w_iload (pc := 3) (q := 4) G dM_order_3 rfl ?_
  refine w_bipush (pc := 5) (v := (100 : Int32)) G dM_order_5 (by decide) ?_
  obtain ⟨r7, e7, h⟩ := bd h
  refine w_callS (pc := 7) (av := [.int v1, .int v2, .int v3, .int v4, .int (100 : Int32)]) (rest := []) (v := some (.int r7)) (L' := (LM κ (x_many, x_generator, x_known, x_without, x_rows, x_row, x_pivot, x_fresh, x_multiple, x_last, x_made, x_settled, x_point, x_limit, x_mode, x_counted, x_listed, x_held, x_first, x_squares, x_wanted, x_spanned, x_span, x_minima, x_measured, x_found, x_any) X)) G cb_M_within_M_order wd577 wd576 (met_M_within κ (LM κ (x_many, x_generator, x_known, x_without, x_rows, x_row, x_pivot, x_fresh, x_multiple, x_last, x_made, x_settled, x_point, x_limit, x_mode, x_counted, x_listed, x_held, x_first, x_squares, x_wanted, x_spanned, x_span, x_minima, x_measured, x_found, x_any) X) F v1 v2 v3 v4 (100 : Int32)  e7) rfl rfl rfl (Nat.le_of_ble_eq_true rfl) dM_order_7 ?_
  refine w_if_ne (pc := 10) (tgt := 17) G dM_order_10 (by decide) (fun c10 => ?_) (fun c10 => ?_)
  · have h := if_t c10 h
    refine w_ldc2 (pc := 13) (v := (-1 : Int64)) G wd661 dM_order_13 ?_
    obtain rfl := Option.some.inj h
    exact w_lret (pc := 16) G dM_order_16 Fh
  · have h := if_f c10 h
    refine w_aload_n (pc := 17) (q := 0) G dM_order_17 rfl rfl ?_
    refine w_iconst (pc := 18) (v := (-1 : Int32)) G dM_order_18 (by decide) ?_
    obtain ⟨r19, e19, h⟩ := bd h
    refine w_callV (pc := 19) (av := [.int (-1 : Int32)]) (rest := []) (v := none) (L' := (LM κ (x_many, x_generator, r19.1, r19.2.1, r19.2.2.1, r19.2.2.2.1, r19.2.2.2.2.1, r19.2.2.2.2.2, x_multiple, x_last, x_made, x_settled, x_point, x_limit, x_mode, x_counted, x_listed, x_held, x_first, x_squares, x_wanted, x_spanned, x_span, x_minima, x_measured, x_found, x_any) X)) (T := TM) (fs := fl_M κ (x_many, x_generator, x_known, x_without, x_rows, x_row, x_pivot, x_fresh, x_multiple, x_last, x_made, x_settled, x_point, x_limit, x_mode, x_counted, x_listed, x_held, x_first, x_squares, x_wanted, x_spanned, x_span, x_minima, x_measured, x_found, x_any)) G 0 0 27 (by decide) lb_M rfl cb_M_look_M_order wd597 ws20 wd595 (met_M_look κ X F (-1 : Int32)  e19) rfl rfl rfl (Nat.le_of_ble_eq_true rfl) dM_order_19 ?_
    refine w_aload_n (pc := 22) (q := 0) G dM_order_22 rfl rfl ?_
    refine w_iload_n (pc := 23) (q := 1) G dM_order_23 rfl rfl ?_
    refine w_iload_n (pc := 24) (q := 2) G dM_order_24 rfl rfl ?_
    refine w_iload_n (pc := 25) (q := 3) G dM_order_25 rfl rfl ?_
    refine w_iload (pc := 26) (q := 4) G dM_order_26 rfl ?_
    obtain ⟨r28, e28, h⟩ := bd h
    refine w_callV (pc := 28) (av := [.int v1, .int v2, .int v3, .int v4]) (rest := []) (v := none) (L' := (LM κ (x_many, x_generator, r19.1, r19.2.1, r19.2.2.1, r19.2.2.2.1, r19.2.2.2.2.1, r28, x_multiple, x_last, x_made, x_settled, x_point, x_limit, x_mode, x_counted, x_listed, x_held, x_first, x_squares, x_wanted, x_spanned, x_span, x_minima, x_measured, x_found, x_any) X)) (T := TM) (fs := fl_M κ (x_many, x_generator, r19.1, r19.2.1, r19.2.2.1, r19.2.2.2.1, r19.2.2.2.2.1, r19.2.2.2.2.2, x_multiple, x_last, x_made, x_settled, x_point, x_limit, x_mode, x_counted, x_listed, x_held, x_first, x_squares, x_wanted, x_spanned, x_span, x_minima, x_measured, x_found, x_any)) G 0 0 27 (by decide) lb_M rfl cb_M_set_M_order wd644 ws29 wd642 (met_M_set κ X F v1 v2 v3 v4  e28) rfl rfl rfl (Nat.le_of_ble_eq_true rfl) dM_order_28 ?_
    refine w_aload_n (pc := 31) (q := 0) G dM_order_31 rfl rfl ?_
    obtain ⟨r32, e32, h⟩ := bd h
    refine w_callV (pc := 32) (av := []) (rest := []) (v := some (.long r32.1)) (L' := (LM κ (x_many, x_generator, r19.1, r19.2.1, r19.2.2.1, r19.2.2.2.1, r19.2.2.2.2.1, r32.2, x_multiple, x_last, x_made, x_settled, x_point, x_limit, x_mode, x_counted, x_listed, x_held, x_first, x_squares, x_wanted, x_spanned, x_span, x_minima, x_measured, x_found, x_any) X)) (T := TM) (fs := fl_M κ (x_many, x_generator, r19.1, r19.2.1, r19.2.2.1, r19.2.2.2.1, r19.2.2.2.2.1, r28, x_multiple, x_last, x_made, x_settled, x_point, x_limit, x_mode, x_counted, x_listed, x_held, x_first, x_squares, x_wanted, x_spanned, x_span, x_minima, x_measured, x_found, x_any)) G 0 0 27 (by decide) lb_M rfl cb_M_times_M_order wd648 ws30 wd646 (met_M_times κ X F   e32) rfl rfl rfl (Nat.le_of_ble_eq_true rfl) dM_order_32 ?_
    obtain rfl := Option.some.inj h
    exact w_lret (pc := 35) G dM_order_35 Fh
def rm_M_origin : Room := { frames := 0, cells := 0, slots := 0, locals := 0 }
theorem dM_origin_0 : decode cM_origin 0 = .ok (.iconst 0, 1) := by decide +kernel
theorem dM_origin_1 : decode cM_origin 1 = .ok (.istore_n 1, 1) := by decide +kernel
theorem dM_origin_2 : decode cM_origin 2 = .ok (.iload_n 1, 1) := by decide +kernel
theorem dM_origin_3 : decode cM_origin 3 = .ok (.iconst 4, 1) := by decide +kernel
theorem dM_origin_4 : decode cM_origin 4 = .ok (.if_icmp .ge 16, 3) := by decide +kernel
theorem dM_origin_7 : decode cM_origin 7 = .ok (.aload_n 0, 1) := by decide +kernel
theorem dM_origin_8 : decode cM_origin 8 = .ok (.getfield 35, 3) := by decide +kernel
theorem dM_origin_11 : decode cM_origin 11 = .ok (.iload_n 1, 1) := by decide +kernel
theorem dM_origin_12 : decode cM_origin 12 = .ok (.lconst 0, 1) := by decide +kernel
theorem dM_origin_13 : decode cM_origin 13 = .ok (.lastore, 1) := by decide +kernel
theorem dM_origin_14 : decode cM_origin 14 = .ok (.iinc 1 1, 3) := by decide +kernel
theorem dM_origin_17 : decode cM_origin 17 = .ok (.goto (-15), 3) := by decide +kernel
theorem dM_origin_20 : decode cM_origin 20 = .ok (.return_, 1) := by decide +kernel
noncomputable def lM_origin_2 (F : Nat) : Nat → Int32 → (Nat → Int64) → Option ((Nat → Int64))
  | 0, _, _ => none
  | n + 1, v1, x_point => if (4 : Int32) ≤ v1 then some (x_point) else gd (vp_in v1 4) (lM_origin_2 F  n (v1 + 1) (vp_updL x_point v1.toNatClampNeg (0 : Int64)))
set_option maxHeartbeats 8000000 in
set_option maxRecDepth 100000 in
theorem lM_origin_2_ok {g : Gm} {κ : ctx} (G : OK g κ RM cM_origin 2 none rm_M_origin) (X : Nat → va_E) (F : Nat) {x_many : Int32} {x_generator : Nat → Int32} {x_known : Int32} {x_without : Int32} {x_rows : Int32} {x_row : Nat → Int64} {x_pivot : Nat → Int32} {x_fresh : Nat → Int64} {x_multiple : Nat → Int64} {x_last : Nat → Int64} {x_made : Nat → Int64} {x_settled : Nat → Int64} {x_limit : Int64} {x_mode : Int32} {x_counted : Int32} {x_listed : Int32} {x_held : Int32} {x_first : Nat → Int64} {x_squares : Nat → Int64} {x_wanted : Int32} {x_spanned : Int32} {x_span : Nat → Int64} {x_minima : Nat → Int32} {x_measured : Int32} {x_found : Nat → Int64} {x_any : Int32} : ∀ (n : Nat) (v1 : Int32) (x_point : Nat → Int64) (out : (Nat → Int64)), lM_origin_2 F   n v1 x_point = some out → (J g κ 2 20 [] [] (LM κ (x_many, x_generator, x_known, x_without, x_rows, x_row, x_pivot, x_fresh, x_multiple, x_last, x_made, x_settled, out, x_limit, x_mode, x_counted, x_listed, x_held, x_first, x_squares, x_wanted, x_spanned, x_span, x_minima, x_measured, x_found, x_any) X)) → J g κ 2 2 [(0, .ref (κ.1 0)), (1, .int v1)] [] (LM κ (x_many, x_generator, x_known, x_without, x_rows, x_row, x_pivot, x_fresh, x_multiple, x_last, x_made, x_settled, x_point, x_limit, x_mode, x_counted, x_listed, x_held, x_first, x_squares, x_wanted, x_spanned, x_span, x_minima, x_measured, x_found, x_any) X) := by
  intro n
  induction n with
  | zero =>
    intro v1 x_point
    intro out h
    rw [lM_origin_2] at h
    cases h
  | succ n ih =>
    intro v1 x_point out h K
    rw [lM_origin_2] at h
    refine w_iload_n (pc := 2) (q := 1) G dM_origin_2 rfl rfl ?_
    refine w_iconst (pc := 3) (v := (4 : Int32)) G dM_origin_3 (by decide) ?_
    refine w_icmp_ge (pc := 4) (tgt := 20) G dM_origin_4 (by decide) (fun c4 => ?_) (fun c4 => ?_)
    · have h := if_t c4 h
      obtain rfl := Option.some.inj h
      refine w_sub (lv' := []) [] rfl ?_
      exact K
    · have h := if_f c4 h
      refine w_aload_n (pc := 7) (q := 0) G dM_origin_7 rfl rfl ?_
      refine w_get (pc := 8) (v := .ref (κ.1 9)) (fs := fl_M κ (x_many, x_generator, x_known, x_without, x_rows, x_row, x_pivot, x_fresh, x_multiple, x_last, x_made, x_settled, x_point, x_limit, x_mode, x_counted, x_listed, x_held, x_first, x_squares, x_wanted, x_spanned, x_span, x_minima, x_measured, x_found, x_any)) G 0 (by decide) lb_M rfl wsM_ok 12 (by decide) wd502 gf_M_12 dM_origin_8 ?_
      refine w_iload_n (pc := 11) (q := 1) G dM_origin_11 rfl rfl ?_
      refine w_lconst (pc := 12) (v := (0 : Int64)) G dM_origin_12 (by decide) ?_
      obtain ⟨i13, h⟩ := gd_some h
      refine w_last (pc := 13) (n := 4) (f := x_point) (L1 := (LM κ (x_many, x_generator, x_known, x_without, x_rows, x_row, x_pivot, x_fresh, x_multiple, x_last, x_made, x_settled, vp_updL x_point v1.toNatClampNeg (0 : Int64), x_limit, x_mode, x_counted, x_listed, x_held, x_first, x_squares, x_wanted, x_spanned, x_span, x_minima, x_measured, x_found, x_any) X)) G 9 (by decide) lk_point i13 dM_origin_13 up_point ?_
      refine w_iinc (pc := 14) (q0 := 1) (v := (v1 + 1)) (lv' := [(1, .int (v1 + 1)), (0, .ref (κ.1 0))]) G dM_origin_14 rfl rfl (by decide) rfl ?_
      refine w_goto (pc := 17) (tgt := 2) G dM_origin_17 (by decide) ?_
      refine w_sub (lv' := [(0, .ref (κ.1 0)), (1, .int (v1 + 1))]) [1, 0] rfl ?_
      exact ih (v1 + 1) (vp_updL x_point v1.toNatClampNeg (0 : Int64)) out h K
noncomputable def M_origin (F : Nat) (x_point : Nat → Int64)  : Option ((Nat → Int64)) := (lM_origin_2 F  F (0 : Int32) x_point).bind (fun o2_7 => some o2_7)
set_option maxHeartbeats 8000000 in
set_option maxRecDepth 100000 in
theorem met_M_origin (κ : ctx) (X : Nat → va_E) (F : Nat) {x_many : Int32} {x_generator : Nat → Int32} {x_known : Int32} {x_without : Int32} {x_rows : Int32} {x_row : Nat → Int64} {x_pivot : Nat → Int32} {x_fresh : Nat → Int64} {x_multiple : Nat → Int64} {x_last : Nat → Int64} {x_made : Nat → Int64} {x_settled : Nat → Int64} {x_point : Nat → Int64} {x_limit : Int64} {x_mode : Int32} {x_counted : Int32} {x_listed : Int32} {x_held : Int32} {x_first : Nat → Int64} {x_squares : Nat → Int64} {x_wanted : Int32} {x_spanned : Int32} {x_span : Nat → Int64} {x_minima : Nat → Int32} {x_measured : Int32} {x_found : Nat → Int64} {x_any : Int32}  {out : (Nat → Int64)} (h : M_origin F x_point  = some out) : Mt yM_origin cM_origin 2 none rm_M_origin κ [.ref (κ.1 0)] (LM κ (x_many, x_generator, x_known, x_without, x_rows, x_row, x_pivot, x_fresh, x_multiple, x_last, x_made, x_settled, x_point, x_limit, x_mode, x_counted, x_listed, x_held, x_first, x_squares, x_wanted, x_spanned, x_span, x_minima, x_measured, x_found, x_any) X) none (LM κ (x_many, x_generator, x_known, x_without, x_rows, x_row, x_pivot, x_fresh, x_multiple, x_last, x_made, x_settled, out, x_limit, x_mode, x_counted, x_listed, x_held, x_first, x_squares, x_wanted, x_spanned, x_span, x_minima, x_measured, x_found, x_any) X) := by
  refine Mt.of (by decide) (Nat.le_of_ble_eq_true rfl) ?_
  intro g G Fh
  unfold M_origin at h
  show J g κ 2 0 [(0, .ref (κ.1 0))] [] (LM κ (x_many, x_generator, x_known, x_without, x_rows, x_row, x_pivot, x_fresh, x_multiple, x_last, x_made, x_settled, x_point, x_limit, x_mode, x_counted, x_listed, x_held, x_first, x_squares, x_wanted, x_spanned, x_span, x_minima, x_measured, x_found, x_any) X)
  refine w_iconst (pc := 0) (v := (0 : Int32)) G dM_origin_0 (by decide) ?_
  refine w_istore_n (pc := 1) (lv' := [(1, .int (0 : Int32)), (0, .ref (κ.1 0))]) G dM_origin_1 rfl (by decide) rfl ?_
  refine w_sub (lv' := [(0, .ref (κ.1 0)), (1, .int (0 : Int32))]) [1, 0] rfl ?_
  obtain ⟨o2_7, eo2_7, h⟩ := bd h
  refine lM_origin_2_ok G X F F (0 : Int32) x_point o2_7 eo2_7 ?_
  obtain rfl := Option.some.inj h
  exact w_vret (pc := 20) G dM_origin_20 Fh
def rm_M_open : Room := { frames := 0, cells := 0, slots := 0, locals := 0 }
theorem dM_open_0 : decode cM_open 0 = .ok (.iload_n 1, 1) := by decide +kernel
theorem dM_open_1 : decode cM_open 1 = .ok (.aload_n 0, 1) := by decide +kernel
theorem dM_open_2 : decode cM_open 2 = .ok (.getfield 74, 3) := by decide +kernel
theorem dM_open_5 : decode cM_open 5 = .ok (.if_icmp .ge 12, 3) := by decide +kernel
theorem dM_open_8 : decode cM_open 8 = .ok (.aload_n 0, 1) := by decide +kernel
theorem dM_open_9 : decode cM_open 9 = .ok (.getfield 17, 3) := by decide +kernel
theorem dM_open_12 : decode cM_open 12 = .ok (.iload_n 1, 1) := by decide +kernel
theorem dM_open_13 : decode cM_open 13 = .ok (.iaload, 1) := by decide +kernel
theorem dM_open_14 : decode cM_open 14 = .ok (.goto 4, 3) := by decide +kernel
theorem dM_open_17 : decode cM_open 17 = .ok (.iconst 4, 1) := by decide +kernel
theorem dM_open_18 : decode cM_open 18 = .ok (.ireturn, 1) := by decide +kernel
noncomputable def M_open (F : Nat) (x_rows : Int32) (x_pivot : Nat → Int32) (v1 : Int32) : Option (Int32) := if x_rows ≤ v1 then some (4 : Int32) else gd (vp_in v1 5) (some (x_pivot v1.toNatClampNeg))
set_option maxHeartbeats 8000000 in
set_option maxRecDepth 100000 in
theorem met_M_open (κ : ctx) (X : Nat → va_E) (F : Nat) {x_many : Int32} {x_generator : Nat → Int32} {x_known : Int32} {x_without : Int32} {x_rows : Int32} {x_row : Nat → Int64} {x_pivot : Nat → Int32} {x_fresh : Nat → Int64} {x_multiple : Nat → Int64} {x_last : Nat → Int64} {x_made : Nat → Int64} {x_settled : Nat → Int64} {x_point : Nat → Int64} {x_limit : Int64} {x_mode : Int32} {x_counted : Int32} {x_listed : Int32} {x_held : Int32} {x_first : Nat → Int64} {x_squares : Nat → Int64} {x_wanted : Int32} {x_spanned : Int32} {x_span : Nat → Int64} {x_minima : Nat → Int32} {x_measured : Int32} {x_found : Nat → Int64} {x_any : Int32} (v1 : Int32) {out : Int32} (h : M_open F x_rows x_pivot v1 = some out) : Mt yM_open cM_open 2 (some .int) rm_M_open κ [.ref (κ.1 0), .int v1] (LM κ (x_many, x_generator, x_known, x_without, x_rows, x_row, x_pivot, x_fresh, x_multiple, x_last, x_made, x_settled, x_point, x_limit, x_mode, x_counted, x_listed, x_held, x_first, x_squares, x_wanted, x_spanned, x_span, x_minima, x_measured, x_found, x_any) X) (some (.int out)) (LM κ (x_many, x_generator, x_known, x_without, x_rows, x_row, x_pivot, x_fresh, x_multiple, x_last, x_made, x_settled, x_point, x_limit, x_mode, x_counted, x_listed, x_held, x_first, x_squares, x_wanted, x_spanned, x_span, x_minima, x_measured, x_found, x_any) X) := by
  refine Mt.of (by decide) (Nat.le_of_ble_eq_true rfl) ?_
  intro g G Fh
  unfold M_open at h
  show J g κ 2 0 [(0, .ref (κ.1 0)), (1, .int v1)] [] (LM κ (x_many, x_generator, x_known, x_without, x_rows, x_row, x_pivot, x_fresh, x_multiple, x_last, x_made, x_settled, x_point, x_limit, x_mode, x_counted, x_listed, x_held, x_first, x_squares, x_wanted, x_spanned, x_span, x_minima, x_measured, x_found, x_any) X)
  refine w_iload_n (pc := 0) (q := 1) G dM_open_0 rfl rfl ?_
  refine w_aload_n (pc := 1) (q := 0) G dM_open_1 rfl rfl ?_
  refine w_get (pc := 2) (v := .int x_rows) (fs := fl_M κ (x_many, x_generator, x_known, x_without, x_rows, x_row, x_pivot, x_fresh, x_multiple, x_last, x_made, x_settled, x_point, x_limit, x_mode, x_counted, x_listed, x_held, x_first, x_squares, x_wanted, x_spanned, x_span, x_minima, x_measured, x_found, x_any)) G 0 (by decide) lb_M rfl wsM_ok 4 (by decide) wd494 gf_M_4 dM_open_2 ?_
  refine w_icmp_ge (pc := 5) (tgt := 17) G dM_open_5 (by decide) (fun c5 => ?_) (fun c5 => ?_)
  · have h := if_t c5 h
    refine w_iconst (pc := 17) (v := (4 : Int32)) G dM_open_17 (by decide) ?_
    obtain rfl := Option.some.inj h
    exact w_iret (pc := 18) G dM_open_18 Fh
  · have h := if_f c5 h
    refine w_aload_n (pc := 8) (q := 0) G dM_open_8 rfl rfl ?_
    refine w_get (pc := 9) (v := .ref (κ.1 3)) (fs := fl_M κ (x_many, x_generator, x_known, x_without, x_rows, x_row, x_pivot, x_fresh, x_multiple, x_last, x_made, x_settled, x_point, x_limit, x_mode, x_counted, x_listed, x_held, x_first, x_squares, x_wanted, x_spanned, x_span, x_minima, x_measured, x_found, x_any)) G 0 (by decide) lb_M rfl wsM_ok 6 (by decide) wd496 gf_M_6 dM_open_9 ?_
    refine w_iload_n (pc := 12) (q := 1) G dM_open_12 rfl rfl ?_
    obtain ⟨i13, h⟩ := gd_some h
    refine w_iald (pc := 13) (n := 5) (f := x_pivot) G 3 (by decide) lk_pivot i13 dM_open_13 ?_
    refine w_goto (pc := 14) (tgt := 18) G dM_open_14 (by decide) ?_
    obtain rfl := Option.some.inj h
    exact w_iret (pc := 18) G dM_open_18 Fh
