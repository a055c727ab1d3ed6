def rm_M_within : Room := { frames := 0, cells := 0, slots := 0, locals := 0 }
theorem dM_within_0 : decode cM_within 0 = .ok (.iload_n 0, 1) := by decide +kernel
theorem dM_within_1 : decode cM_within 1 = .ok (.iload 4, 2) := by decide +kernel
theorem dM_within_3 : decode cM_within 3 = .ok (.ineg, 1) := by decide +kernel
theorem dM_within_4 : decode cM_within 4 = .ok (.if_icmp .lt 52, 3) := by decide +kernel
theorem dM_within_7 : decode cM_within 7 = .ok (.iload_n 0, 1) := by decide +kernel
theorem dM_within_8 : decode cM_within 8 = .ok (.iload 4, 2) := by decide +kernel
theorem dM_within_10 : decode cM_within 10 = .ok (.if_icmp .gt 46, 3) := by decide +kernel
theorem dM_within_13 : decode cM_within 13 = .ok (.iload_n 1, 1) := by decide +kernel
theorem dM_within_14 : decode cM_within 14 = .ok (.iload 4, 2) := by decide +kernel
theorem dM_within_16 : decode cM_within 16 = .ok (.ineg, 1) := by decide +kernel
theorem dM_within_17 : decode cM_within 17 = .ok (.if_icmp .lt 39, 3) := by decide +kernel
theorem dM_within_20 : decode cM_within 20 = .ok (.iload_n 1, 1) := by decide +kernel
theorem dM_within_21 : decode cM_within 21 = .ok (.iload 4, 2) := by decide +kernel
theorem dM_within_23 : decode cM_within 23 = .ok (.if_icmp .gt 33, 3) := by decide +kernel
theorem dM_within_26 : decode cM_within 26 = .ok (.iload_n 2, 1) := by decide +kernel
theorem dM_within_27 : decode cM_within 27 = .ok (.iload 4, 2) := by decide +kernel
theorem dM_within_29 : decode cM_within 29 = .ok (.ineg, 1) := by decide +kernel
theorem dM_within_30 : decode cM_within 30 = .ok (.if_icmp .lt 26, 3) := by decide +kernel
theorem dM_within_33 : decode cM_within 33 = .ok (.iload_n 2, 1) := by decide +kernel
theorem dM_within_34 : decode cM_within 34 = .ok (.iload 4, 2) := by decide +kernel
theorem dM_within_36 : decode cM_within 36 = .ok (.if_icmp .gt 20, 3) := by decide +kernel
theorem dM_within_39 : decode cM_within 39 = .ok (.iload_n 3, 1) := by decide +kernel
theorem dM_within_40 : decode cM_within 40 = .ok (.iload 4, 2) := by decide +kernel
theorem dM_within_42 : decode cM_within 42 = .ok (.ineg, 1) := by decide +kernel
theorem dM_within_43 : decode cM_within 43 = .ok (.if_icmp .lt 13, 3) := by decide +kernel
theorem dM_within_46 : decode cM_within 46 = .ok (.iload_n 3, 1) := by decide +kernel
theorem dM_within_47 : decode cM_within 47 = .ok (.iload 4, 2) := by decide +kernel
theorem dM_within_49 : decode cM_within 49 = .ok (.if_icmp .gt 7, 3) := by decide +kernel
theorem dM_within_52 : decode cM_within 52 = .ok (.iconst 1, 1) := by decide +kernel
theorem dM_within_53 : decode cM_within 53 = .ok (.goto 4, 3) := by decide +kernel
theorem dM_within_56 : decode cM_within 56 = .ok (.iconst 0, 1) := by decide +kernel
theorem dM_within_57 : decode cM_within 57 = .ok (.ireturn, 1) := by decide +kernel
noncomputable def M_within (F : Nat)  (v0 : Int32) (v1 : Int32) (v2 : Int32) (v3 : Int32) (v4 : Int32) : Option (Int32) := if v0 < (-v4) then some (0 : Int32) else if v4 < v0 then some (0 : Int32) else if v1 < (-v4) then some (0 : Int32) else if v4 < v1 then some (0 : Int32) else if v2 < (-v4) then some (0 : Int32) else if v4 < v2 then some (0 : Int32) else if v3 < (-v4) then some (0 : Int32) else if v4 < v3 then some (0 : Int32) else some (1 : Int32)
set_option maxHeartbeats 8000000 in
set_option maxRecDepth 100000 in
theorem met_M_within (κ : ctx) (L : Nat → va_E) (F : Nat) (v0 : Int32) (v1 : Int32) (v2 : Int32) (v3 : Int32) (v4 : Int32) {out : Int32} (h : M_within F  v0 v1 v2 v3 v4 = some out) : Mt yM_within cM_within 5 (some .boolean) rm_M_within κ [.int v0, .int v1, .int v2, .int v3, .int v4] L (some (.int out)) L := by
  refine Mt.of (by decide) (Nat.le_of_ble_eq_true rfl) ?_
  intro g G Fh
  unfold M_within at h
  show J g κ 5 0 [(0, .int v0), (1, .int v1), (2, .int v2), (3, .int v3), (4, .int v4)] [] L
  refine w_iload_n (pc := 0) (q := 0) G dM_within_0 rfl rfl ?_
  refine w_iload (pc := 1) (q := 4) G dM_within_1 rfl ?_
  refine w_ineg (pc := 3) G dM_within_3 ?_
  refine w_icmp_lt (pc := 4) (tgt := 56) G dM_within_4 (by decide) (fun c4 => ?_) (fun c4 => ?_)
  · have h := if_t c4 h
    refine w_iconst (pc := 56) (v := (0 : Int32)) G dM_within_56 (by decide) ?_
    obtain rfl := Option.some.inj h
    exact w_zret (pc := 57) G rfl dM_within_57 Fh
  · have h := if_f c4 h
    refine w_iload_n (pc := 7) (q := 0) G dM_within_7 rfl rfl ?_
    refine w_iload (pc := 8) (q := 4) G dM_within_8 rfl ?_
    refine w_icmp_gt (pc := 10) (tgt := 56) G dM_within_10 (by decide) (fun c10 => ?_) (fun c10 => ?_)
    · have h := if_t c10 h
      refine w_iconst (pc := 56) (v := (0 : Int32)) G dM_within_56 (by decide) ?_
      obtain rfl := Option.some.inj h
      exact w_zret (pc := 57) G rfl dM_within_57 Fh
    · have h := if_f c10 h
      refine w_iload_n (pc := 13) (q := 1) G dM_within_13 rfl rfl ?_
      refine w_iload (pc := 14) (q := 4) G dM_within_14 rfl ?_
      refine w_ineg (pc := 16) G dM_within_16 ?_
      refine w_icmp_lt (pc := 17) (tgt := 56) G dM_within_17 (by decide) (fun c17 => ?_) (fun c17 => ?_)
      · have h := if_t c17 h
        refine w_iconst (pc := 56) (v := (0 : Int32)) G dM_within_56 (by decide) ?_
        obtain rfl := Option.some.inj h
        exact w_zret (pc := 57) G rfl dM_within_57 Fh
      · have h := if_f c17 h
        refine w_iload_n (pc := 20) (q := 1) G dM_within_20 rfl rfl ?_
        refine w_iload (pc := 21) (q := 4) G dM_within_21 rfl ?_
        refine w_icmp_gt (pc := 23) (tgt := 56) G dM_within_23 (by decide) (fun c23 => ?_) (fun c23 => ?_)
        · have h := if_t c23 h
          refine w_iconst (pc := 56) (v := (0 : Int32)) G dM_within_56 (by decide) ?_
          obtain rfl := Option.some.inj h
          exact w_zret (pc := 57) G rfl dM_within_57 Fh
        · have h := if_f c23 h
          refine w_iload_n (pc := 26) (q := 2) G dM_within_26 rfl rfl ?_
          refine w_iload (pc := 27) (q := 4) G dM_within_27 rfl ?_
          refine w_ineg (pc := 29) G dM_within_29 ?_
          refine w_icmp_lt (pc := 30) (tgt := 56) G dM_within_30 (by decide) (fun c30 => ?_) (fun c30 => ?_)
          · have h := if_t c30 h
            refine w_iconst (pc := 56) (v := (0 : Int32)) G dM_within_56 (by decide) ?_
            obtain rfl := Option.some.inj h
            exact w_zret (pc := 57) G rfl dM_within_57 Fh
          · have h := if_f c30 h
            refine w_iload_n (pc := 33) (q := 2) G dM_within_33 rfl rfl ?_
            refine w_iload (pc := 34) (q := 4) G dM_within_34 rfl ?_
            refine w_icmp_gt (pc := 36) (tgt := 56) G dM_within_36 (by decide) (fun c36 => ?_) (fun c36 => ?_)
            · have h := if_t c36 h
              refine w_iconst (pc := 56) (v := (0 : Int32)) G dM_within_56 (by decide) ?_
              obtain rfl := Option.some.inj h
              exact w_zret (pc := 57) G rfl dM_within_57 Fh
            · have h := if_f c36 h
              refine w_iload_n (pc := 39) (q := 3) G dM_within_39 rfl rfl ?_
              refine w_iload (pc := 40) (q := 4) G dM_within_40 rfl ?_
              refine w_ineg (pc := 42) G dM_within_42 ?_
              refine w_icmp_lt (pc := 43) (tgt := 56) G dM_within_43 (by decide) (fun c43 => ?_) (fun c43 => ?_)
              · have h := if_t c43 h
                refine w_iconst (pc := 56) (v := (0 : Int32)) G dM_within_56 (by decide) ?_
                obtain rfl := Option.some.inj h
                exact w_zret (pc := 57) G rfl dM_within_57 Fh
              · have h := if_f c43 h
                refine w_iload_n (pc := 46) (q := 3) G dM_within_46 rfl rfl ?_
                refine w_iload (pc := 47) (q := 4) G dM_within_47 rfl ?_
                refine w_icmp_gt (pc := 49) (tgt := 56) G dM_within_49 (by decide) (fun c49 => ?_) (fun c49 => ?_)
                · have h := if_t c49 h
                  refine w_iconst (pc := 56) (v := (0 : Int32)) G dM_within_56 (by decide) ?_
                  obtain rfl := Option.some.inj h
                  exact w_zret (pc := 57) G rfl dM_within_57 Fh
                · have h := if_f c49 h
                  refine w_iconst (pc := 52) (v := (1 : Int32)) G dM_within_52 (by decide) ?_
                  refine w_goto (pc := 53) (tgt := 57) G dM_within_53 (by decide) ?_
                  obtain rfl := Option.some.inj h
                  exact w_zret (pc := 57) G rfl dM_within_57 Fh
def rm_M_changed : Room := { frames := 0, cells := 0, slots := 0, locals := 0 }
theorem dM_changed_0 : decode cM_changed 0 = .ok (.aload_n 0, 1) := by decide +kernel
theorem dM_changed_1 : decode cM_changed 1 = .ok (.iconst 0, 1) := by decide +kernel
theorem dM_changed_2 : decode cM_changed 2 = .ok (.putfield 53, 3) := by decide +kernel
theorem dM_changed_5 : decode cM_changed 5 = .ok (.aload_n 0, 1) := by decide +kernel
theorem dM_changed_6 : decode cM_changed 6 = .ok (.iconst 0, 1) := by decide +kernel
theorem dM_changed_7 : decode cM_changed 7 = .ok (.putfield 57, 3) := by decide +kernel
theorem dM_changed_10 : decode cM_changed 10 = .ok (.aload_n 0, 1) := by decide +kernel
theorem dM_changed_11 : decode cM_changed 11 = .ok (.iconst 0, 1) := by decide +kernel
theorem dM_changed_12 : decode cM_changed 12 = .ok (.putfield 60, 3) := by decide +kernel
theorem dM_changed_15 : decode cM_changed 15 = .ok (.return_, 1) := by decide +kernel
noncomputable def M_changed (F : Nat) (x_known : Int32) (x_listed : Int32) (x_measured : Int32)  : Option (Int32 × Int32 × Int32) := some ((0 : Int32), (0 : Int32), (0 : Int32))
set_option maxHeartbeats 8000000 in
set_option maxRecDepth 100000 in
theorem met_M_changed (κ : ctx) (X : Nat → va_E) (F : Nat) {x_many : Int32} {x_generator : Nat → Int32} {x_known : Int32} {x_without : Int32} {x_rows : Int32} {x_row : Nat → Int64} {x_pivot : Nat → Int32} {x_fresh : Nat → Int64} {x_multiple : Nat → Int64} {x_last : Nat → Int64} {x_made : Nat → Int64} {x_settled : Nat → Int64} {x_point : Nat → Int64} {x_limit : Int64} {x_mode : Int32} {x_counted : Int32} {x_listed : Int32} {x_held : Int32} {x_first : Nat → Int64} {x_squares : Nat → Int64} {x_wanted : Int32} {x_spanned : Int32} {x_span : Nat → Int64} {x_minima : Nat → Int32} {x_measured : Int32} {x_found : Nat → Int64} {x_any : Int32}  {out : Int32 × Int32 × Int32} (h : M_changed F x_known x_listed x_measured  = some out) : Mt yM_changed cM_changed 1 none rm_M_changed κ [.ref (κ.1 0)] (LM κ (x_many, x_generator, x_known, x_without, x_rows, x_row, x_pivot, x_fresh, x_multiple, x_last, x_made, x_settled, x_point, x_limit, x_mode, x_counted, x_listed, x_held, x_first, x_squares, x_wanted, x_spanned, x_span, x_minima, x_measured, x_found, x_any) X) none (LM κ (x_many, x_generator, out.1, x_without, x_rows, x_row, x_pivot, x_fresh, x_multiple, x_last, x_made, x_settled, x_point, x_limit, x_mode, x_counted, out.2.1, x_held, x_first, x_squares, x_wanted, x_spanned, x_span, x_minima, out.2.2, x_found, x_any) X) := by
  refine Mt.of (by decide) (Nat.le_of_ble_eq_true rfl) ?_
  intro g G Fh
  unfold M_changed at h
  show J g κ 1 0 [(0, .ref (κ.1 0))] [] (LM κ (x_many, x_generator, x_known, x_without, x_rows, x_row, x_pivot, x_fresh, x_multiple, x_last, x_made, x_settled, x_point, x_limit, x_mode, x_counted, x_listed, x_held, x_first, x_squares, x_wanted, x_spanned, x_span, x_minima, x_measured, x_found, x_any) X)
  refine w_aload_n (pc := 0) (q := 0) G dM_changed_0 rfl rfl ?_
  refine w_iconst (pc := 1) (v := (0 : Int32)) G dM_changed_1 (by decide) ?_
  refine w_put (pc := 2) (fs := fl_M κ (x_many, x_generator, x_known, x_without, x_rows, x_row, x_pivot, x_fresh, x_multiple, x_last, x_made, x_settled, x_point, x_limit, x_mode, x_counted, x_listed, x_held, x_first, x_squares, x_wanted, x_spanned, x_span, x_minima, x_measured, x_found, x_any)) (L1 := (LM κ (x_many, x_generator, (0 : Int32), x_without, x_rows, x_row, x_pivot, x_fresh, x_multiple, x_last, x_made, x_settled, x_point, x_limit, x_mode, x_counted, x_listed, x_held, x_first, x_squares, x_wanted, x_spanned, x_span, x_minima, x_measured, x_found, x_any) X)) G 0 (by decide) lb_M rfl wsM_ok tyM tyM_ok nmM 2 (by decide) wd492 rfl rfl rfl (Nat.le_of_ble_eq_true rfl) dM_changed_2 upf_known ?_
  refine w_aload_n (pc := 5) (q := 0) G dM_changed_5 rfl rfl ?_
  refine w_iconst (pc := 6) (v := (0 : Int32)) G dM_changed_6 (by decide) ?_
  refine w_put (pc := 7) (fs := fl_M κ (x_many, x_generator, (0 : Int32), x_without, x_rows, x_row, x_pivot, x_fresh, x_multiple, x_last, x_made, x_settled, x_point, x_limit, x_mode, x_counted, x_listed, x_held, x_first, x_squares, x_wanted, x_spanned, x_span, x_minima, x_measured, x_found, x_any)) (L1 := (LM κ (x_many, x_generator, (0 : Int32), x_without, x_rows, x_row, x_pivot, x_fresh, x_multiple, x_last, x_made, x_settled, x_point, x_limit, x_mode, x_counted, (0 : Int32), x_held, x_first, x_squares, x_wanted, x_spanned, x_span, x_minima, x_measured, x_found, x_any) X)) G 0 (by decide) lb_M rfl wsM_ok tyM tyM_ok nmM 16 (by decide) wd506 rfl rfl rfl (Nat.le_of_ble_eq_true rfl) dM_changed_7 upf_listed ?_
  refine w_aload_n (pc := 10) (q := 0) G dM_changed_10 rfl rfl ?_
  refine w_iconst (pc := 11) (v := (0 : Int32)) G dM_changed_11 (by decide) ?_
  refine w_put (pc := 12) (fs := fl_M κ (x_many, x_generator, (0 : Int32), x_without, x_rows, x_row, x_pivot, x_fresh, x_multiple, x_last, x_made, x_settled, x_point, x_limit, x_mode, x_counted, (0 : Int32), x_held, x_first, x_squares, x_wanted, x_spanned, x_span, x_minima, x_measured, x_found, x_any)) (L1 := (LM κ (x_many, x_generator, (0 : Int32), x_without, x_rows, x_row, x_pivot, x_fresh, x_multiple, x_last, x_made, x_settled, x_point, x_limit, x_mode, x_counted, (0 : Int32), x_held, x_first, x_squares, x_wanted, x_spanned, x_span, x_minima, (0 : Int32), x_found, x_any) X)) G 0 (by decide) lb_M rfl wsM_ok tyM tyM_ok nmM 24 (by decide) wd514 rfl rfl rfl (Nat.le_of_ble_eq_true rfl) dM_changed_12 upf_measured ?_
  obtain rfl := Option.some.inj h
  exact w_vret (pc := 15) G dM_changed_15 Fh
def rm_M_add : Room := { frames := 1, cells := 0, slots := 0, locals := 24 }
theorem dM_add_0 : decode cM_add 0 = .ok (.iload_n 1, 1) := by decide +kernel
theorem dM_add_1 : decode cM_add 1 = .ok (.iload_n 2, 1) := by decide +kernel
theorem dM_add_2 : decode cM_add 2 = .ok (.iload_n 3, 1) := by decide +kernel
theorem dM_add_3 : decode cM_add 3 = .ok (.iload 4, 2) := by decide +kernel
theorem dM_add_5 : decode cM_add 5 = .ok (.bipush 9, 2) := by decide +kernel
theorem dM_add_7 : decode cM_add 7 = .ok (.invokestatic 63, 3) := by decide +kernel
theorem dM_add_10 : decode cM_add 10 = .ok (.ifCond .ne 5, 3) := by decide +kernel
theorem dM_add_13 : decode cM_add 13 = .ok (.iconst (-1), 1) := by decide +kernel
theorem dM_add_14 : decode cM_add 14 = .ok (.ireturn, 1) := by decide +kernel
theorem dM_add_15 : decode cM_add 15 = .ok (.aload_n 0, 1) := by decide +kernel
theorem dM_add_16 : decode cM_add 16 = .ok (.getfield 67, 3) := by decide +kernel
theorem dM_add_19 : decode cM_add 19 = .ok (.bipush 6, 2) := by decide +kernel
theorem dM_add_21 : decode cM_add 21 = .ok (.if_icmp .ne 6, 3) := by decide +kernel
theorem dM_add_24 : decode cM_add 24 = .ok (.bipush (-2), 2) := by decide +kernel
theorem dM_add_26 : decode cM_add 26 = .ok (.ireturn, 1) := by decide +kernel
theorem dM_add_27 : decode cM_add 27 = .ok (.aload_n 0, 1) := by decide +kernel
theorem dM_add_28 : decode cM_add 28 = .ok (.getfield 7, 3) := by decide +kernel
theorem dM_add_31 : decode cM_add 31 = .ok (.iconst 4, 1) := by decide +kernel
theorem dM_add_32 : decode cM_add 32 = .ok (.aload_n 0, 1) := by decide +kernel
theorem dM_add_33 : decode cM_add 33 = .ok (.getfield 67, 3) := by decide +kernel
theorem dM_add_36 : decode cM_add 36 = .ok (.imul, 1) := by decide +kernel
theorem dM_add_37 : decode cM_add 37 = .ok (.iload_n 1, 1) := by decide +kernel
theorem dM_add_38 : decode cM_add 38 = .ok (.iastore, 1) := by decide +kernel
theorem dM_add_39 : decode cM_add 39 = .ok (.aload_n 0, 1) := by decide +kernel
theorem dM_add_40 : decode cM_add 40 = .ok (.getfield 7, 3) := by decide +kernel
theorem dM_add_43 : decode cM_add 43 = .ok (.iconst 4, 1) := by decide +kernel
theorem dM_add_44 : decode cM_add 44 = .ok (.aload_n 0, 1) := by decide +kernel
theorem dM_add_45 : decode cM_add 45 = .ok (.getfield 67, 3) := by decide +kernel
theorem dM_add_48 : decode cM_add 48 = .ok (.imul, 1) := by decide +kernel
theorem dM_add_49 : decode cM_add 49 = .ok (.iconst 1, 1) := by decide +kernel
theorem dM_add_50 : decode cM_add 50 = .ok (.iadd, 1) := by decide +kernel
theorem dM_add_51 : decode cM_add 51 = .ok (.iload_n 2, 1) := by decide +kernel
theorem dM_add_52 : decode cM_add 52 = .ok (.iastore, 1) := by decide +kernel
theorem dM_add_53 : decode cM_add 53 = .ok (.aload_n 0, 1) := by decide +kernel
theorem dM_add_54 : decode cM_add 54 = .ok (.getfield 7, 3) := by decide +kernel
theorem dM_add_57 : decode cM_add 57 = .ok (.iconst 4, 1) := by decide +kernel
theorem dM_add_58 : decode cM_add 58 = .ok (.aload_n 0, 1) := by decide +kernel
theorem dM_add_59 : decode cM_add 59 = .ok (.getfield 67, 3) := by decide +kernel
theorem dM_add_62 : decode cM_add 62 = .ok (.imul, 1) := by decide +kernel
theorem dM_add_63 : decode cM_add 63 = .ok (.iconst 2, 1) := by decide +kernel
theorem dM_add_64 : decode cM_add 64 = .ok (.iadd, 1) := by decide +kernel
theorem dM_add_65 : decode cM_add 65 = .ok (.iload_n 3, 1) := by decide +kernel
theorem dM_add_66 : decode cM_add 66 = .ok (.iastore, 1) := by decide +kernel
theorem dM_add_67 : decode cM_add 67 = .ok (.aload_n 0, 1) := by decide +kernel
theorem dM_add_68 : decode cM_add 68 = .ok (.getfield 7, 3) := by decide +kernel
theorem dM_add_71 : decode cM_add 71 = .ok (.iconst 4, 1) := by decide +kernel
theorem dM_add_72 : decode cM_add 72 = .ok (.aload_n 0, 1) := by decide +kernel
theorem dM_add_73 : decode cM_add 73 = .ok (.getfield 67, 3) := by decide +kernel
theorem dM_add_76 : decode cM_add 76 = .ok (.imul, 1) := by decide +kernel
theorem dM_add_77 : decode cM_add 77 = .ok (.iconst 3, 1) := by decide +kernel
theorem dM_add_78 : decode cM_add 78 = .ok (.iadd, 1) := by decide +kernel
theorem dM_add_79 : decode cM_add 79 = .ok (.iload 4, 2) := by decide +kernel
theorem dM_add_81 : decode cM_add 81 = .ok (.iastore, 1) := by decide +kernel
theorem dM_add_82 : decode cM_add 82 = .ok (.aload_n 0, 1) := by decide +kernel
theorem dM_add_83 : decode cM_add 83 = .ok (.dup, 1) := by decide +kernel
theorem dM_add_84 : decode cM_add 84 = .ok (.getfield 67, 3) := by decide +kernel
theorem dM_add_87 : decode cM_add 87 = .ok (.iconst 1, 1) := by decide +kernel
theorem dM_add_88 : decode cM_add 88 = .ok (.iadd, 1) := by decide +kernel
theorem dM_add_89 : decode cM_add 89 = .ok (.putfield 67, 3) := by decide +kernel
theorem dM_add_92 : decode cM_add 92 = .ok (.aload_n 0, 1) := by decide +kernel
theorem dM_add_93 : decode cM_add 93 = .ok (.invokevirtual 71, 3) := by decide +kernel
theorem dM_add_96 : decode cM_add 96 = .ok (.aload_n 0, 1) := by decide +kernel
theorem dM_add_97 : decode cM_add 97 = .ok (.getfield 67, 3) := by decide +kernel
theorem dM_add_100 : decode cM_add 100 = .ok (.iconst 1, 1) := by decide +kernel
theorem dM_add_101 : decode cM_add 101 = .ok (.isub, 1) := by decide +kernel
theorem dM_add_102 : decode cM_add 102 = .ok (.ireturn, 1) := by decide +kernel
theorem cb_M_changed_M_add : CB yM_changed cM_changed 1 none rm_M_changed rm_M_add 0 := ⟨wd582, wd8, by decide +kernel, rfl, rfl, by decide⟩
theorem cb_M_within_M_add : CB yM_within cM_within 5 (some .boolean) rm_M_within rm_M_add 5 := ⟨wd578, wd8, by decide +kernel, rfl, rfl, by decide⟩
noncomputable def M_add (F : Nat) (x_many : Int32) (x_generator : Nat → Int32) (x_known : Int32) (x_listed : Int32) (x_measured : Int32) (v1 : Int32) (v2 : Int32) (v3 : Int32) (v4 : Int32) : Option (Int32 × Int32 × (Nat → Int32) × Int32 × Int32 × Int32) := (M_within F  v1 v2 v3 v4 (9 : Int32)).bind (fun r7 => if r7 = 0 then some ((-1 : Int32), x_many, x_generator, x_known, x_listed, x_measured) else if x_many = (6 : Int32) then some ((-2 : Int32), x_many, x_generator, x_known, x_listed, x_measured) else gd (vp_in ((4 : Int32) * x_many) 24) (gd (vp_in (((4 : Int32) * x_many) + (1 : Int32)) 24) (gd (vp_in (((4 : Int32) * x_many) + (2 : Int32)) 24) (gd (vp_in (((4 : Int32) * x_many) + (3 : Int32)) 24) ((M_changed F x_known x_listed x_measured ).bind (fun r93 => some (((x_many + (1 : Int32)) - (1 : Int32)), (x_many + (1 : Int32)), upd (upd (upd (upd x_generator ((4 : Int32) * x_many).toNatClampNeg v1) (((4 : Int32) * x_many) + (1 : Int32)).toNatClampNeg v2) (((4 : Int32) * x_many) + (2 : Int32)).toNatClampNeg v3) (((4 : Int32) * x_many) + (3 : Int32)).toNatClampNeg v4, r93.1, r93.2.1, r93.2.2)))))))
set_option maxHeartbeats 8000000 in
set_option maxRecDepth 100000 in
theorem met_M_add (κ : ctx) (X : Nat → va_E) (F : Nat) {x_many : Int32} {x_generator : Nat → Int32} {x_known : Int32} {x_without : Int32} {x_rows : Int32} {x_row : Nat → Int64} {x_pivot : Nat → Int32} {x_fresh : Nat → Int64} {x_multiple : Nat → Int64} {x_last : Nat → Int64} {x_made : Nat → Int64} {x_settled : Nat → Int64} {x_point : Nat → Int64} {x_limit : Int64} {x_mode : Int32} {x_counted : Int32} {x_listed : Int32} {x_held : Int32} {x_first : Nat → Int64} {x_squares : Nat → Int64} {x_wanted : Int32} {x_spanned : Int32} {x_span : Nat → Int64} {x_minima : Nat → Int32} {x_measured : Int32} {x_found : Nat → Int64} {x_any : Int32} (v1 : Int32) (v2 : Int32) (v3 : Int32) (v4 : Int32) {out : Int32 × Int32 × (Nat → Int32) × Int32 × Int32 × Int32} (h : M_add F x_many x_generator x_known x_listed x_measured v1 v2 v3 v4 = some out) : Mt yM_add cM_add 5 (some .int) rm_M_add κ [.ref (κ.1 0), .int v1, .int v2, .int v3, .int v4] (LM κ (x_many, x_generator, x_known, x_without, x_rows, x_row, x_pivot, x_fresh, x_multiple, x_last, x_made, x_settled, x_point, x_limit, x_mode, x_counted, x_listed, x_held, x_first, x_squares, x_wanted, x_spanned, x_span, x_minima, x_measured, x_found, x_any) X) (some (.int out.1)) (LM κ (out.2.1, out.2.2.1, out.2.2.2.1, x_without, x_rows, x_row, x_pivot, x_fresh, x_multiple, x_last, x_made, x_settled, x_point, x_limit, x_mode, x_counted, out.2.2.2.2.1, x_held, x_first, x_squares, x_wanted, x_spanned, x_span, x_minima, out.2.2.2.2.2, x_found, x_any) X) := by
  refine Mt.of (by decide) (Nat.le_of_ble_eq_true rfl) ?_
  intro g G Fh
  unfold M_add at h
  show J g κ 5 0 [(0, .ref (κ.1 0)), (1, .int v1), (2, .int v2), (3, .int v3), (4, .int v4)] [] (LM κ (x_many, x_generator, x_known, x_without, x_rows, x_row, x_pivot, x_fresh, x_multiple, x_last, x_made, x_settled, x_point, x_limit, x_mode, x_counted, x_listed, x_held, x_first, x_squares, x_wanted, x_spanned, x_span, x_minima, x_measured, x_found, x_any) X)
  refine w_iload_n (pc := 0) (q := 1) G dM_add_0 rfl rfl ?_
  refine w_iload_n (pc := 1) (q := 2) G dM_add_1 rfl rfl ?_
  refine w_iload_n (pc := 2) (q := 3) G dM_add_2 rfl rfl ?_
  refine w_iload (pc := 3) (q := 4) G dM_add_3 rfl ?_
  refine w_bipush (pc := 5) (v := (9 : Int32)) G dM_add_5 (by decide) ?_
  obtain ⟨r7, e7, h⟩ := bd h
  refine w_callS (pc := 7) (av := [.int v1, .int v2, .int v3, .int v4, .int (9 : Int32)]) (rest := []) (v := some (.int r7)) (L' := (LM κ (x_many, x_generator, x_known, x_without, x_rows, x_row, x_pivot, x_fresh, x_multiple, x_last, x_made, x_settled, x_point, x_limit, x_mode, x_counted, x_listed, x_held, x_first, x_squares, x_wanted, x_spanned, x_span, x_minima, x_measured, x_found, x_any) X)) G cb_M_within_M_add wd577 wd576 (met_M_within κ (LM κ (x_many, x_generator, x_known, x_without, x_rows, x_row, x_pivot, x_fresh, x_multiple, x_last, x_made, x_settled, x_point, x_limit, x_mode, x_counted, x_listed, x_held, x_first, x_squares, x_wanted, x_spanned, x_span, x_minima, x_measured, x_found, x_any) X) F v1 v2 v3 v4 (9 : Int32)  e7) rfl rfl rfl (Nat.le_of_ble_eq_true rfl) dM_add_7 ?_
  refine w_if_ne (pc := 10) (tgt := 15) G dM_add_10 (by decide) (fun c10 => ?_) (fun c10 => ?_)
  · have h := if_t c10 h
    refine w_iconst (pc := 13) (v := (-1 : Int32)) G dM_add_13 (by decide) ?_
    obtain rfl := Option.some.inj h
    exact w_iret (pc := 14) G dM_add_14 Fh
  · have h := if_f c10 h
    refine w_aload_n (pc := 15) (q := 0) G dM_add_15 rfl rfl ?_
    refine w_get (pc := 16) (v := .int x_many) (fs := fl_M κ (x_many, x_generator, x_known, x_without, x_rows, x_row, x_pivot, x_fresh, x_multiple, x_last, x_made, x_settled, x_point, x_limit, x_mode, x_counted, x_listed, x_held, x_first, x_squares, x_wanted, x_spanned, x_span, x_minima, x_measured, x_found, x_any)) G 0 (by decide) lb_M rfl wsM_ok 0 (by decide) wd490 gf_M_0 dM_add_16 ?_
    refine w_bipush (pc := 19) (v := (6 : Int32)) G dM_add_19 (by decide) ?_
    refine w_icmp_ne (pc := 21) (tgt := 27) G dM_add_21 (by decide) (fun c21 => ?_) (fun c21 => ?_)
    · have h := if_t c21 h
      refine w_bipush (pc := 24) (v := (-2 : Int32)) G dM_add_24 (by decide) ?_
      obtain rfl := Option.some.inj h
      exact w_iret (pc := 26) G dM_add_26 Fh
    · have h := if_f c21 h
      refine w_aload_n (pc := 27) (q := 0) G dM_add_27 rfl rfl ?_
      refine w_get (pc := 28) (v := .ref (κ.1 1)) (fs := fl_M κ (x_many, x_generator, x_known, x_without, x_rows, x_row, x_pivot, x_fresh, x_multiple, x_last, x_made, x_settled, x_point, x_limit, x_mode, x_counted, x_listed, x_held, x_first, x_squares, x_wanted, x_spanned, x_span, x_minima, x_measured, x_found, x_any)) G 0 (by decide) lb_M rfl wsM_ok 1 (by decide) wd491 gf_M_1 dM_add_28 ?_
      refine w_iconst (pc := 31) (v := (4 : Int32)) G dM_add_31 (by decide) ?_
      refine w_aload_n (pc := 32) (q := 0) G dM_add_32 rfl rfl ?_
      refine w_get (pc := 33) (v := .int x_many) (fs := fl_M κ (x_many, x_generator, x_known, x_without, x_rows, x_row, x_pivot, x_fresh, x_multiple, x_last, x_made, x_settled, x_point, x_limit, x_mode, x_counted, x_listed, x_held, x_first, x_squares, x_wanted, x_spanned, x_span, x_minima, x_measured, x_found, x_any)) G 0 (by decide) lb_M rfl wsM_ok 0 (by decide) wd490 gf_M_0 dM_add_33 ?_
      refine w_imul (pc := 36) G dM_add_36 ?_
      refine w_iload_n (pc := 37) (q := 1) G dM_add_37 rfl rfl ?_
      obtain ⟨i38, h⟩ := gd_some h
      refine w_iast (pc := 38) (n := 24) (f := x_generator) (L1 := (LM κ (x_many, upd x_generator ((4 : Int32) * x_many).toNatClampNeg v1, x_known, x_without, x_rows, x_row, x_pivot, x_fresh, x_multiple, x_last, x_made, x_settled, x_point, x_limit, x_mode, x_counted, x_listed, x_held, x_first, x_squares, x_wanted, x_spanned, x_span, x_minima, x_measured, x_found, x_any) X)) G 1 (by decide) lk_generator i38 dM_add_38 up_generator ?_
      refine w_aload_n (pc := 39) (q := 0) G dM_add_39 rfl rfl ?_
      refine w_get (pc := 40) (v := .ref (κ.1 1)) (fs := fl_M κ (x_many, upd x_generator ((4 : Int32) * x_many).toNatClampNeg v1, x_known, x_without, x_rows, x_row, x_pivot, x_fresh, x_multiple, x_last, x_made, x_settled, x_point, x_limit, x_mode, x_counted, x_listed, x_held, x_first, x_squares, x_wanted, x_spanned, x_span, x_minima, x_measured, x_found, x_any)) G 0 (by decide) lb_M rfl wsM_ok 1 (by decide) wd491 gf_M_1 dM_add_40 ?_
      refine w_iconst (pc := 43) (v := (4 : Int32)) G dM_add_43 (by decide) ?_
      refine w_aload_n (pc := 44) (q := 0) G dM_add_44 rfl rfl ?_
      refine w_get (pc := 45) (v := .int x_many) (fs := fl_M κ (x_many, upd x_generator ((4 : Int32) * x_many).toNatClampNeg v1, x_known, x_without, x_rows, x_row, x_pivot, x_fresh, x_multiple, x_last, x_made, x_settled, x_point, x_limit, x_mode, x_counted, x_listed, x_held, x_first, x_squares, x_wanted, x_spanned, x_span, x_minima, x_measured, x_found, x_any)) G 0 (by decide) lb_M rfl wsM_ok 0 (by decide) wd490 gf_M_0 dM_add_45 ?_
      refine w_imul (pc := 48) G dM_add_48 ?_
      refine w_iconst (pc := 49) (v := (1 : Int32)) G dM_add_49 (by decide) ?_
      refine w_iadd (pc := 50) G dM_add_50 ?_
      refine w_iload_n (pc := 51) (q := 2) G dM_add_51 rfl rfl ?_
      obtain ⟨i52, h⟩ := gd_some h
      refine w_iast (pc := 52) (n := 24) (f := upd x_generator ((4 : Int32) * x_many).toNatClampNeg v1) (L1 := (LM κ (x_many, upd (upd x_generator ((4 : Int32) * x_many).toNatClampNeg v1) (((4 : Int32) * x_many) + (1 : Int32)).toNatClampNeg v2, x_known, x_without, x_rows, x_row, x_pivot, x_fresh, x_multiple, x_last, x_made, x_settled, x_point, x_limit, x_mode, x_counted, x_listed, x_held, x_first, x_squares, x_wanted, x_spanned, x_span, x_minima, x_measured, x_found, x_any) X)) G 1 (by decide) lk_generator i52 dM_add_52 up_generator ?_
      refine w_aload_n (pc := 53) (q := 0) G dM_add_53 rfl rfl ?_
      refine w_get (pc := 54) (v := .ref (κ.1 1)) (fs := fl_M κ (x_many, upd (upd x_generator ((4 : Int32) * x_many).toNatClampNeg v1) (((4 : Int32) * x_many) + (1 : Int32)).toNatClampNeg v2, x_known, x_without, x_rows, x_row, x_pivot, x_fresh, x_multiple, x_last, x_made, x_settled, x_point, x_limit, x_mode, x_counted, x_listed, x_held, x_first, x_squares, x_wanted, x_spanned, x_span, x_minima, x_measured, x_found, x_any)) G 0 (by decide) lb_M rfl wsM_ok 1 (by decide) wd491 gf_M_1 dM_add_54 ?_
      refine w_iconst (pc := 57) (v := (4 : Int32)) G dM_add_57 (by decide) ?_
      refine w_aload_n (pc := 58) (q := 0) G dM_add_58 rfl rfl ?_
      refine w_get (pc := 59) (v := .int x_many) (fs := fl_M κ (x_many, upd (upd x_generator ((4 : Int32) * x_many).toNatClampNeg v1) (((4 : Int32) * x_many) + (1 : Int32)).toNatClampNeg v2, x_known, x_without, x_rows, x_row, x_pivot, x_fresh, x_multiple, x_last, x_made, x_settled, x_point, x_limit, x_mode, x_counted, x_listed, x_held, x_first, x_squares, x_wanted, x_spanned, x_span, x_minima, x_measured, x_found, x_any)) G 0 (by decide) lb_M rfl wsM_ok 0 (by decide) wd490 gf_M_0 dM_add_59 ?_
      refine w_imul (pc := 62) G dM_add_62 ?_
      refine w_iconst (pc := 63) (v := (2 : Int32)) G dM_add_63 (by decide) ?_
      refine w_iadd (pc := 64) G dM_add_64 ?_
      refine w_iload_n (pc := 65) (q := 3) G dM_add_65 rfl rfl ?_
      obtain ⟨i66, h⟩ := gd_some h
      refine w_iast (pc := 66) (n := 24) (f := upd (upd x_generator ((4 : Int32) * x_many).toNatClampNeg v1) (((4 : Int32) * x_many) + (1 : Int32)).toNatClampNeg v2) (L1 := (LM κ (x_many, upd (upd (upd x_generator ((4 : Int32) * x_many).toNatClampNeg v1) (((4 : Int32) * x_many) + (1 : Int32)).toNatClampNeg v2) (((4 : Int32) * x_many) + (2 : Int32)).toNatClampNeg v3, x_known, x_without, x_rows, x_row, x_pivot, x_fresh, x_multiple, x_last, x_made, x_settled, x_point, x_limit, x_mode, x_counted, x_listed, x_held, x_first, x_squares, x_wanted, x_spanned, x_span, x_minima, x_measured, x_found, x_any) X)) G 1 (by decide) lk_generator i66 dM_add_66 up_generator ?_
      refine w_aload_n (pc := 67) (q := 0) G dM_add_67 rfl rfl ?_
      refine w_get (pc := 68) (v := .ref (κ.1 1)) (fs := fl_M κ (x_many, upd (upd (upd x_generator ((4 : Int32) * x_many).toNatClampNeg v1) (((4 : Int32) * x_many) + (1 : Int32)).toNatClampNeg v2) (((4 : Int32) * x_many) + (2 : Int32)).toNatClampNeg v3, x_known, x_without, x_rows, x_row, x_pivot, x_fresh, x_multiple, x_last, x_made, x_settled, x_point, x_limit, x_mode, x_counted, x_listed, x_held, x_first, x_squares, x_wanted, x_spanned, x_span, x_minima, x_measured, x_found, x_any)) G 0 (by decide) lb_M rfl wsM_ok 1 (by decide) wd491 gf_M_1 dM_add_68 ?_
      refine w_iconst (pc := 71) (v := (4 : Int32)) G dM_add_71 (by decide) ?_
      refine w_aload_n (pc := 72) (q := 0) G dM_add_72 rfl rfl ?_
      refine w_get (pc := 73) (v := .int x_many) (fs := fl_M κ (x_many, upd (upd (upd x_generator ((4 : Int32) * x_many).toNatClampNeg v1) (((4 : Int32) * x_many) + (1 : Int32)).toNatClampNeg v2) (((4 : Int32) * x_many) + (2 : Int32)).toNatClampNeg v3, x_known, x_without, x_rows, x_row, x_pivot, x_fresh, x_multiple, x_last, x_made, x_settled, x_point, x_limit, x_mode, x_counted, x_listed, x_held, x_first, x_squares, x_wanted, x_spanned, x_span, x_minima, x_measured, x_found, x_any)) G 0 (by decide) lb_M rfl wsM_ok 0 (by decide) wd490 gf_M_0 dM_add_73 ?_
      refine w_imul (pc := 76) G dM_add_76 ?_
      refine w_iconst (pc := 77) (v := (3 : Int32)) G dM_add_77 (by decide) ?_
      refine w_iadd (pc := 78) G dM_add_78 ?_
      refine w_iload (pc := 79) (q := 4) G dM_add_79 rfl ?_
      obtain ⟨i81, h⟩ := gd_some h
      refine w_iast (pc := 81) (n := 24) (f := upd (upd (upd x_generator ((4 : Int32) * x_many).toNatClampNeg v1) (((4 : Int32) * x_many) + (1 : Int32)).toNatClampNeg v2) (((4 : Int32) * x_many) + (2 : Int32)).toNatClampNeg v3) (L1 := (LM κ (x_many, upd (upd (upd (upd x_generator ((4 : Int32) * x_many).toNatClampNeg v1) (((4 : Int32) * x_many) + (1 : Int32)).toNatClampNeg v2) (((4 : Int32) * x_many) + (2 : Int32)).toNatClampNeg v3) (((4 : Int32) * x_many) + (3 : Int32)).toNatClampNeg v4, x_known, x_without, x_rows, x_row, x_pivot, x_fresh, x_multiple, x_last, x_made, x_settled, x_point, x_limit, x_mode, x_counted, x_listed, x_held, x_first, x_squares, x_wanted, x_spanned, x_span, x_minima, x_measured, x_found, x_any) X)) G 1 (by decide) lk_generator i81 dM_add_81 up_generator ?_
      refine w_aload_n (pc := 82) (q := 0) G dM_add_82 rfl rfl ?_
      refine w_dup (pc := 83) G dM_add_83 rfl ?_
      refine w_get (pc := 84) (v := .int x_many) (fs := fl_M κ (x_many, upd (upd (upd (upd x_generator ((4 : Int32) * x_many).toNatClampNeg v1) (((4 : Int32) * x_many) + (1 : Int32)).toNatClampNeg v2) (((4 : Int32) * x_many) + (2 : Int32)).toNatClampNeg v3) (((4 : Int32) * x_many) + (3 : Int32)).toNatClampNeg v4, x_known, x_without, x_rows, x_row, x_pivot, x_fresh, x_multiple, x_last, x_made, x_settled, x_point, x_limit, x_mode, x_counted, x_listed, x_held, x_first, x_squares, x_wanted, x_spanned, x_span, x_minima, x_measured, x_found, x_any)) G 0 (by decide) lb_M rfl wsM_ok 0 (by decide) wd490 gf_M_0 dM_add_84 ?_
      refine w_iconst (pc := 87) (v := (1 : Int32)) G dM_add_87 (by decide) ?_
      refine w_iadd (pc := 88) G dM_add_88 ?_
      refine w_put (pc := 89) (fs := fl_M κ (x_many, upd (upd (upd (upd x_generator ((4 : Int32) * x_many).toNatClampNeg v1) (((4 : Int32) * x_many) + (1 : Int32)).toNatClampNeg v2) (((4 : Int32) * x_many) + (2 : Int32)).toNatClampNeg v3) (((4 : Int32) * x_many) + (3 : Int32)).toNatClampNeg v4, x_known, x_without, x_rows, x_row, x_pivot, x_fresh, x_multiple, x_last, x_made, x_settled, x_point, x_limit, x_mode, x_counted, x_listed, x_held, x_first, x_squares, x_wanted, x_spanned, x_span, x_minima, x_measured, x_found, x_any)) (L1 := (LM κ ((x_many + (1 : Int32)), upd (upd (upd (upd x_generator ((4 : Int32) * x_many).toNatClampNeg v1) (((4 : Int32) * x_many) + (1 : Int32)).toNatClampNeg v2) (((4 : Int32) * x_many) + (2 : Int32)).toNatClampNeg v3) (((4 : Int32) * x_many) + (3 : Int32)).toNatClampNeg v4, x_known, x_without, x_rows, x_row, x_pivot, x_fresh, x_multiple, x_last, x_made, x_settled, x_point, x_limit, x_mode, x_counted, x_listed, x_held, x_first, x_squares, x_wanted, x_spanned, x_span, x_minima, x_measured, x_found, x_any) X)) G 0 (by decide) lb_M rfl wsM_ok tyM tyM_ok nmM 0 (by decide) wd490 rfl rfl rfl (Nat.le_of_ble_eq_true rfl) dM_add_89 upf_many ?_
      refine w_aload_n (pc := 92) (q := 0) G dM_add_92 rfl rfl ?_
      obtain ⟨r93, e93, h⟩ := bd h
      refine w_callV (pc := 93) (av := []) (rest := []) (v := none) (L' := (LM κ ((x_many + (1 : Int32)), upd (upd (upd (upd x_generator ((4 : Int32) * x_many).toNatClampNeg v1) (((4 : Int32) * x_many) + (1 : Int32)).toNatClampNeg v2) (((4 : Int32) * x_many) + (2 : Int32)).toNatClampNeg v3) (((4 : Int32) * x_many) + (3 : Int32)).toNatClampNeg v4, r93.1, x_without, x_rows, x_row, x_pivot, x_fresh, x_multiple, x_last, x_made, x_settled, x_point, x_limit, x_mode, x_counted, r93.2.1, x_held, x_first, x_squares, x_wanted, x_spanned, x_span, x_minima, r93.2.2, x_found, x_any) X)) (T := TM) (fs := fl_M κ ((x_many + (1 : Int32)), upd (upd (upd (upd x_generator ((4 : Int32) * x_many).toNatClampNeg v1) (((4 : Int32) * x_many) + (1 : Int32)).toNatClampNeg v2) (((4 : Int32) * x_many) + (2 : Int32)).toNatClampNeg v3) (((4 : Int32) * x_many) + (3 : Int32)).toNatClampNeg v4, x_known, x_without, x_rows, x_row, x_pivot, x_fresh, x_multiple, x_last, x_made, x_settled, x_point, x_limit, x_mode, x_counted, x_listed, x_held, x_first, x_squares, x_wanted, x_spanned, x_span, x_minima, x_measured, x_found, x_any)) G 0 0 27 (by decide) lb_M rfl cb_M_changed_M_add wd581 ws19 wd579 (met_M_changed κ X F   e93) rfl rfl rfl (Nat.le_of_ble_eq_true rfl) dM_add_93 ?_
      refine w_aload_n (pc := 96) (q := 0) G dM_add_96 rfl rfl ?_
      refine w_get (pc := 97) (v := .int (x_many + (1 : Int32))) (fs := fl_M κ ((x_many + (1 : Int32)), upd (upd (upd (upd x_generator ((4 : Int32) * x_many).toNatClampNeg v1) (((4 : Int32) * x_many) + (1 : Int32)).toNatClampNeg v2) (((4 : Int32) * x_many) + (2 : Int32)).toNatClampNeg v3) (((4 : Int32) * x_many) + (3 : Int32)).toNatClampNeg v4, r93.1, x_without, x_rows, x_row, x_pivot, x_fresh, x_multiple, x_last, x_made, x_settled, x_point, x_limit, x_mode, x_counted, r93.2.1, x_held, x_first, x_squares, x_wanted, x_spanned, x_span, x_minima, r93.2.2, x_found, x_any)) G 0 (by decide) lb_M rfl wsM_ok 0 (by decide) wd490 gf_M_0 dM_add_97 ?_
      refine w_iconst (pc := 100) (v := (1 : Int32)) G dM_add_100 (by decide) ?_
      refine w_isub (pc := 101) G dM_add_101 ?_
      obtain rfl := Option.some.inj h
      exact w_iret (pc := 102) G dM_add_102 Fh
def rm_M_drop : Room := { frames := 1, cells := 0, slots := 0, locals := 20 }
theorem dM_drop_0 : decode cM_drop 0 = .ok (.aload_n 0, 1) := by decide +kernel
theorem dM_drop_1 : decode cM_drop 1 = .ok (.getfield 67, 3) := by decide +kernel
theorem dM_drop_4 : decode cM_drop 4 = .ok (.ifCond .ne 5, 3) := by decide +kernel
theorem dM_drop_7 : decode cM_drop 7 = .ok (.iconst 0, 1) := by decide +kernel
theorem dM_drop_8 : decode cM_drop 8 = .ok (.ireturn, 1) := by decide +kernel
theorem dM_drop_9 : decode cM_drop 9 = .ok (.aload_n 0, 1) := by decide +kernel
theorem dM_drop_10 : decode cM_drop 10 = .ok (.dup, 1) := by decide +kernel
theorem dM_drop_11 : decode cM_drop 11 = .ok (.getfield 67, 3) := by decide +kernel
theorem dM_drop_14 : decode cM_drop 14 = .ok (.iconst 1, 1) := by decide +kernel
theorem dM_drop_15 : decode cM_drop 15 = .ok (.isub, 1) := by decide +kernel
theorem dM_drop_16 : decode cM_drop 16 = .ok (.putfield 67, 3) := by decide +kernel
theorem dM_drop_19 : decode cM_drop 19 = .ok (.aload_n 0, 1) := by decide +kernel
theorem dM_drop_20 : decode cM_drop 20 = .ok (.invokevirtual 71, 3) := by decide +kernel
theorem dM_drop_23 : decode cM_drop 23 = .ok (.iconst 1, 1) := by decide +kernel
theorem dM_drop_24 : decode cM_drop 24 = .ok (.ireturn, 1) := by decide +kernel
theorem cb_M_changed_M_drop : CB yM_changed cM_changed 1 none rm_M_changed rm_M_drop 0 := ⟨wd582, wd8, by decide +kernel, rfl, rfl, by decide⟩
noncomputable def M_drop (F : Nat) (x_many : Int32) (x_known : Int32) (x_listed : Int32) (x_measured : Int32)  : Option (Int32 × Int32 × Int32 × Int32 × Int32) := if x_many = 0 then some ((0 : Int32), x_many, x_known, x_listed, x_measured) else (M_changed F x_known x_listed x_measured ).bind (fun r20 => some ((1 : Int32), (x_many - (1 : Int32)), r20.1, r20.2.1, r20.2.2))
set_option maxHeartbeats 8000000 in
set_option maxRecDepth 100000 in
theorem met_M_drop (κ : ctx) (X : Nat → va_E) (F : Nat) {x_many : Int32} {x_generator : Nat → Int32} {x_known : Int32} {x_without : Int32} {x_rows : Int32} {x_row : Nat → Int64} {x_pivot : Nat → Int32} {x_fresh : Nat → Int64} {x_multiple : Nat → Int64} {x_last : Nat → Int64} {x_made : Nat → Int64} {x_settled : Nat → Int64} {x_point : Nat → Int64} {x_limit : Int64} {x_mode : Int32} {x_counted : Int32} {x_listed : Int32} {x_held : Int32} {x_first : Nat → Int64} {x_squares : Nat → Int64} {x_wanted : Int32} {x_spanned : Int32} {x_span : Nat → Int64} {x_minima : Nat → Int32} {x_measured : Int32} {x_found : Nat → Int64} {x_any : Int32}  {out : Int32 × Int32 × Int32 × Int32 × Int32} (h : M_drop F x_many x_known x_listed x_measured  = some out) : Mt yM_drop cM_drop 1 (some .boolean) rm_M_drop κ [.ref (κ.1 0)] (LM κ (x_many, x_generator, x_known, x_without, x_rows, x_row, x_pivot, x_fresh, x_multiple, x_last, x_made, x_settled, x_point, x_limit, x_mode, x_counted, x_listed, x_held, x_first, x_squares, x_wanted, x_spanned, x_span, x_minima, x_measured, x_found, x_any) X) (some (.int out.1)) (LM κ (out.2.1, x_generator, out.2.2.1, x_without, x_rows, x_row, x_pivot, x_fresh, x_multiple, x_last, x_made, x_settled, x_point, x_limit, x_mode, x_counted, out.2.2.2.1, x_held, x_first, x_squares, x_wanted, x_spanned, x_span, x_minima, out.2.2.2.2, x_found, x_any) X) := by
  refine Mt.of (by decide) (Nat.le_of_ble_eq_true rfl) ?_
  intro g G Fh
  unfold M_drop at h
  show J g κ 1 0 [(0, .ref (κ.1 0))] [] (LM κ (x_many, x_generator, x_known, x_without, x_rows, x_row, x_pivot, x_fresh, x_multiple, x_last, x_made, x_settled, x_point, x_limit, x_mode, x_counted, x_listed, x_held, x_first, x_squares, x_wanted, x_spanned, x_span, x_minima, x_measured, x_found, x_any) X)
  refine w_aload_n (pc := 0) (q := 0) G dM_drop_0 rfl rfl ?_
  refine w_get (pc := 1) (v := .int x_many) (fs := fl_M κ (x_many, x_generator, x_known, x_without, x_rows, x_row, x_pivot, x_fresh, x_multiple, x_last, x_made, x_settled, x_point, x_limit, x_mode, x_counted, x_listed, x_held, x_first, x_squares, x_wanted, x_spanned, x_span, x_minima, x_measured, x_found, x_any)) G 0 (by decide) lb_M rfl wsM_ok 0 (by decide) wd490 gf_M_0 dM_drop_1 ?_
  refine w_if_ne (pc := 4) (tgt := 9) G dM_drop_4 (by decide) (fun c4 => ?_) (fun c4 => ?_)
  · have h := if_t c4 h
    refine w_iconst (pc := 7) (v := (0 : Int32)) G dM_drop_7 (by decide) ?_
    obtain rfl := Option.some.inj h
    exact w_zret (pc := 8) G rfl dM_drop_8 Fh
  · have h := if_f c4 h
    refine w_aload_n (pc := 9) (q := 0) G dM_drop_9 rfl rfl ?_
    refine w_dup (pc := 10) G dM_drop_10 rfl ?_
    refine w_get (pc := 11) (v := .int x_many) (fs := fl_M κ (x_many, x_generator, x_known, x_without, x_rows, x_row, x_pivot, x_fresh, x_multiple, x_last, x_made, x_settled, x_point, x_limit, x_mode, x_counted, x_listed, x_held, x_first, x_squares, x_wanted, x_spanned, x_span, x_minima, x_measured, x_found, x_any)) G 0 (by decide) lb_M rfl wsM_ok 0 (by decide) wd490 gf_M_0 dM_drop_11 ?_
    refine w_iconst (pc := 14) (v := (1 : Int32)) G dM_drop_14 (by decide) ?_
    refine w_isub (pc := 15) G dM_drop_15 ?_
    refine w_put (pc := 16) (fs := fl_M κ (x_many, x_generator, x_known, x_without, x_rows, x_row, x_pivot, x_fresh, x_multiple, x_last, x_made, x_settled, x_point, x_limit, x_mode, x_counted, x_listed, x_held, x_first, x_squares, x_wanted, x_spanned, x_span, x_minima, x_measured, x_found, x_any)) (L1 := (LM κ ((x_many - (1 : Int32)), x_generator, x_known, x_without, x_rows, x_row, x_pivot, x_fresh, x_multiple, x_last, x_made, x_settled, x_point, x_limit, x_mode, x_counted, x_listed, x_held, x_first, x_squares, x_wanted, x_spanned, x_span, x_minima, x_measured, x_found, x_any) X)) G 0 (by decide) lb_M rfl wsM_ok tyM tyM_ok nmM 0 (by decide) wd490 rfl rfl rfl (Nat.le_of_ble_eq_true rfl) dM_drop_16 upf_many ?_
    refine w_aload_n (pc := 19) (q := 0) G dM_drop_19 rfl rfl ?_
    obtain ⟨r20, e20, h⟩ := bd h
    refine w_callV (pc := 20) (av := []) (rest := []) (v := none) (L' := (LM κ ((x_many - (1 : Int32)), x_generator, r20.1, x_without, x_rows, x_row, x_pivot, x_fresh, x_multiple, x_last, x_made, x_settled, x_point, x_limit, x_mode, x_counted, r20.2.1, x_held, x_first, x_squares, x_wanted, x_spanned, x_span, x_minima, r20.2.2, x_found, x_any) X)) (T := TM) (fs := fl_M κ ((x_many - (1 : Int32)), x_generator, x_known, x_without, x_rows, x_row, x_pivot, x_fresh, x_multiple, x_last, x_made, x_settled, x_point, x_limit, x_mode, x_counted, x_listed, x_held, x_first, x_squares, x_wanted, x_spanned, x_span, x_minima, x_measured, x_found, x_any)) G 0 0 27 (by decide) lb_M rfl cb_M_changed_M_drop wd581 ws19 wd579 (met_M_changed κ X F   e20) rfl rfl rfl (Nat.le_of_ble_eq_true rfl) dM_drop_20 ?_
    refine w_iconst (pc := 23) (v := (1 : Int32)) G dM_drop_23 (by decide) ?_
    obtain rfl := Option.some.inj h
    exact w_zret (pc := 24) G rfl dM_drop_24 Fh
def rm_M_generators : Room := { frames := 0, cells := 0, slots := 0, locals := 0 }
theorem dM_generators_0 : decode cM_generators 0 = .ok (.aload_n 0, 1) := by decide +kernel
theorem dM_generators_1 : decode cM_generators 1 = .ok (.getfield 67, 3) := by decide +kernel
theorem dM_generators_4 : decode cM_generators 4 = .ok (.ireturn, 1) := by decide +kernel
noncomputable def M_generators (F : Nat) (x_many : Int32)  : Option (Int32) := some x_many
set_option maxHeartbeats 8000000 in
set_option maxRecDepth 100000 in
theorem met_M_generators (κ : ctx) (X : Nat → va_E) (F : Nat) {x_many : Int32} {x_generator : Nat → Int32} {x_known : Int32} {x_without : Int32} {x_rows : Int32} {x_row : Nat → Int64} {x_pivot : Nat → Int32} {x_fresh : Nat → Int64} {x_multiple : Nat → Int64} {x_last : Nat → Int64} {x_made : Nat → Int64} {x_settled : Nat → Int64} {x_point : Nat → Int64} {x_limit : Int64} {x_mode : Int32} {x_counted : Int32} {x_listed : Int32} {x_held : Int32} {x_first : Nat → Int64} {x_squares : Nat → Int64} {x_wanted : Int32} {x_spanned : Int32} {x_span : Nat → Int64} {x_minima : Nat → Int32} {x_measured : Int32} {x_found : Nat → Int64} {x_any : Int32}  {out : Int32} (h : M_generators F x_many  = some out) : Mt yM_generators cM_generators 1 (some .int) rm_M_generators κ [.ref (κ.1 0)] (LM κ (x_many, x_generator, x_known, x_without, x_rows, x_row, x_pivot, x_fresh, x_multiple, x_last, x_made, x_settled, x_point, x_limit, x_mode, x_counted, x_listed, x_held, x_first, x_squares, x_wanted, x_spanned, x_span, x_minima, x_measured, x_found, x_any) X) (some (.int out)) (LM κ (x_many, x_generator, x_known, x_without, x_rows, x_row, x_pivot, x_fresh, x_multiple, x_last, x_made, x_settled, x_point, x_limit, x_mode, x_counted, x_listed, x_held, x_first, x_squares, x_wanted, x_spanned, x_span, x_minima, x_measured, x_found, x_any) X) := by
  refine Mt.of (by decide) (Nat.le_of_ble_eq_true rfl) ?_
  intro g G Fh
  unfold M_generators at h
  show J g κ 1 0 [(0, .ref (κ.1 0))] [] (LM κ (x_many, x_generator, x_known, x_without, x_rows, x_row, x_pivot, x_fresh, x_multiple, x_last, x_made, x_settled, x_point, x_limit, x_mode, x_counted, x_listed, x_held, x_first, x_squares, x_wanted, x_spanned, x_span, x_minima, x_measured, x_found, x_any) X)
  refine w_aload_n (pc := 0) (q := 0) G dM_generators_0 rfl rfl ?_
  refine w_get (pc := 1) (v := .int x_many) (fs := fl_M κ (x_many, x_generator, x_known, x_without, x_rows, x_row, x_pivot, x_fresh, x_multiple, x_last, x_made, x_settled, x_point, x_limit, x_mode, x_counted, x_listed, x_held, x_first, x_squares, x_wanted, x_spanned, x_span, x_minima, x_measured, x_found, x_any)) G 0 (by decide) lb_M rfl wsM_ok 0 (by decide) wd490 gf_M_0 dM_generators_1 ?_
  obtain rfl := Option.some.inj h
  exact w_iret (pc := 4) G dM_generators_4 Fh
def rm_M_rowAt : Room := { frames := 0, cells := 0, slots := 0, locals := 0 }
theorem dM_rowAt_0 : decode cM_rowAt 0 = .ok (.iconst (-1), 1) := by decide +kernel
theorem dM_rowAt_1 : decode cM_rowAt 1 = .ok (.istore_n 2, 1) := by decide +kernel
theorem dM_rowAt_2 : decode cM_rowAt 2 = .ok (.iconst 0, 1) := by decide +kernel
theorem dM_rowAt_3 : decode cM_rowAt 3 = .ok (.istore_n 3, 1) := by decide +kernel
theorem dM_rowAt_4 : decode cM_rowAt 4 = .ok (.iload_n 3, 1) := by decide +kernel
theorem dM_rowAt_5 : decode cM_rowAt 5 = .ok (.aload_n 0, 1) := by decide +kernel
theorem dM_rowAt_6 : decode cM_rowAt 6 = .ok (.getfield 74, 3) := by decide +kernel
theorem dM_rowAt_9 : decode cM_rowAt 9 = .ok (.if_icmp .ge 25, 3) := by decide +kernel
theorem dM_rowAt_12 : decode cM_rowAt 12 = .ok (.aload_n 0, 1) := by decide +kernel
theorem dM_rowAt_13 : decode cM_rowAt 13 = .ok (.getfield 17, 3) := by decide +kernel
theorem dM_rowAt_16 : decode cM_rowAt 16 = .ok (.iload_n 3, 1) := by decide +kernel
theorem dM_rowAt_17 : decode cM_rowAt 17 = .ok (.iaload, 1) := by decide +kernel
theorem dM_rowAt_18 : decode cM_rowAt 18 = .ok (.iload_n 1, 1) := by decide +kernel
theorem dM_rowAt_19 : decode cM_rowAt 19 = .ok (.if_icmp .ne 7, 3) := by decide +kernel
theorem dM_rowAt_22 : decode cM_rowAt 22 = .ok (.iload_n 3, 1) := by decide +kernel
theorem dM_rowAt_23 : decode cM_rowAt 23 = .ok (.goto 4, 3) := by decide +kernel
theorem dM_rowAt_26 : decode cM_rowAt 26 = .ok (.iload_n 2, 1) := by decide +kernel
theorem dM_rowAt_27 : decode cM_rowAt 27 = .ok (.istore_n 2, 1) := by decide +kernel
theorem dM_rowAt_28 : decode cM_rowAt 28 = .ok (.iinc 3 1, 3) := by decide +kernel
theorem dM_rowAt_31 : decode cM_rowAt 31 = .ok (.goto (-27), 3) := by decide +kernel
theorem dM_rowAt_34 : decode cM_rowAt 34 = .ok (.iload_n 2, 1) := by decide +kernel
theorem dM_rowAt_35 : decode cM_rowAt 35 = .ok (.ireturn, 1) := by decide +kernel
noncomputable def lM_rowAt_4 (F : Nat) (x_rows : Int32) (x_pivot : Nat → Int32) (v1 : Int32) : Nat → Int32 → Int32 → Option (Int32)
  | 0, _, _ => none
  | n + 1, v2, v3 => if x_rows ≤ v3 then some (v2) else gd (vp_in v3 5) (if (x_pivot v3.toNatClampNeg) = v1 then lM_rowAt_4 F x_rows x_pivot v1 n v3 (v3 + 1) else lM_rowAt_4 F x_rows x_pivot v1 n v2 (v3 + 1))
set_option maxHeartbeats 8000000 in
set_option maxRecDepth 100000 in
theorem lM_rowAt_4_ok {g : Gm} {κ : ctx} (G : OK g κ RM cM_rowAt 4 (some .int) rm_M_rowAt) (X : Nat → va_E) (F : Nat) {x_many : Int32} {x_generator : Nat → Int32} {x_known : Int32} {x_without : Int32} {x_rows : Int32} {x_row : Nat → Int64} {x_pivot : Nat → Int32} {x_fresh : Nat → Int64} {x_multiple : Nat → Int64} {x_last : Nat → Int64} {x_made : Nat → Int64} {x_settled : Nat → Int64} {x_point : Nat → Int64} {x_limit : Int64} {x_mode : Int32} {x_counted : Int32} {x_listed : Int32} {x_held : Int32} {x_first : Nat → Int64} {x_squares : Nat → Int64} {x_wanted : Int32} {x_spanned : Int32} {x_span : Nat → Int64} {x_minima : Nat → Int32} {x_measured : Int32} {x_found : Nat → Int64} {x_any : Int32} (v1 : Int32) : ∀ (n : Nat) (v2 : Int32) (v3 : Int32) (out : Int32), lM_rowAt_4 F x_rows x_pivot v1 n v2 v3 = some out → (J g κ 4 34 [(2, .int out)] [] (LM κ (x_many, x_generator, x_known, x_without, x_rows, x_row, x_pivot, x_fresh, x_multiple, x_last, x_made, x_settled, x_point, x_limit, x_mode, x_counted, x_listed, x_held, x_first, x_squares, x_wanted, x_spanned, x_span, x_minima, x_measured, x_found, x_any) X)) → J g κ 4 4 [(0, .ref (κ.1 0)), (1, .int v1), (2, .int v2), (3, .int v3)] [] (LM κ (x_many, x_generator, x_known, x_without, x_rows, x_row, x_pivot, x_fresh, x_multiple, x_last, x_made, x_settled, x_point, x_limit, x_mode, x_counted, x_listed, x_held, x_first, x_squares, x_wanted, x_spanned, x_span, x_minima, x_measured, x_found, x_any) X) := by
  intro n
  induction n with
  | zero =>
    intro v2 v3
    intro out h
    rw [lM_rowAt_4] at h
    cases h
  | succ n ih =>
    intro v2 v3 out h K
    rw [lM_rowAt_4] at h
    refine w_iload_n (pc := 4) (q := 3) G dM_rowAt_4 rfl rfl ?_
    refine w_aload_n (pc := 5) (q := 0) G dM_rowAt_5 rfl rfl ?_
    refine w_get (pc := 6) (v := .int x_rows) (fs := fl_M κ (x_many, x_generator, x_known, x_without, x_rows, x_row, x_pivot, x_fresh, x_multiple, x_last, x_made, x_settled, x_point, x_limit, x_mode, x_counted, x_listed, x_held, x_first, x_squares, x_wanted, x_spanned, x_span, x_minima, x_measured, x_found, x_any)) G 0 (by decide) lb_M rfl wsM_ok 4 (by decide) wd494 gf_M_4 dM_rowAt_6 ?_
    refine w_icmp_ge (pc := 9) (tgt := 34) G dM_rowAt_9 (by decide) (fun c9 => ?_) (fun c9 => ?_)
    · have h := if_t c9 h
      obtain rfl := Option.some.inj h
      refine w_sub (lv' := [(2, .int v2)]) [2] rfl ?_
      exact K
    · have h := if_f c9 h
      refine w_aload_n (pc := 12) (q := 0) G dM_rowAt_12 rfl rfl ?_
      refine w_get (pc := 13) (v := .ref (κ.1 3)) (fs := fl_M κ (x_many, x_generator, x_known, x_without, x_rows, x_row, x_pivot, x_fresh, x_multiple, x_last, x_made, x_settled, x_point, x_limit, x_mode, x_counted, x_listed, x_held, x_first, x_squares, x_wanted, x_spanned, x_span, x_minima, x_measured, x_found, x_any)) G 0 (by decide) lb_M rfl wsM_ok 6 (by decide) wd496 gf_M_6 dM_rowAt_13 ?_
      refine w_iload_n (pc := 16) (q := 3) G dM_rowAt_16 rfl rfl ?_
      obtain ⟨i17, h⟩ := gd_some h
      refine w_iald (pc := 17) (n := 5) (f := x_pivot) G 3 (by decide) lk_pivot i17 dM_rowAt_17 ?_
      refine w_iload_n (pc := 18) (q := 1) G dM_rowAt_18 rfl rfl ?_
      refine w_icmp_ne (pc := 19) (tgt := 26) G dM_rowAt_19 (by decide) (fun c19 => ?_) (fun c19 => ?_)
      · have h := if_t c19 h
        refine w_iload_n (pc := 22) (q := 3) G dM_rowAt_22 rfl rfl ?_
        refine w_goto (pc := 23) (tgt := 27) G dM_rowAt_23 (by decide) ?_
        refine w_istore_n (pc := 27) (lv' := [(2, .int v3), (0, .ref (κ.1 0)), (1, .int v1), (3, .int v3)]) G dM_rowAt_27 rfl (by decide) rfl ?_
        refine w_iinc (pc := 28) (q0 := 3) (v := (v3 + 1)) (lv' := [(3, .int (v3 + 1)), (2, .int v3), (0, .ref (κ.1 0)), (1, .int v1)]) G dM_rowAt_28 rfl rfl (by decide) rfl ?_
        refine w_goto (pc := 31) (tgt := 4) G dM_rowAt_31 (by decide) ?_
        refine w_sub (lv' := [(0, .ref (κ.1 0)), (1, .int v1), (2, .int v3), (3, .int (v3 + 1))]) [2, 3, 1, 0] rfl ?_
        exact ih v3 (v3 + 1) out h K
      · have h := if_f c19 h
        refine w_iload_n (pc := 26) (q := 2) G dM_rowAt_26 rfl rfl ?_
        refine w_istore_n (pc := 27) (lv' := [(2, .int v2), (0, .ref (κ.1 0)), (1, .int v1), (3, .int v3)]) G dM_rowAt_27 rfl (by decide) rfl ?_
        refine w_iinc (pc := 28) (q0 := 3) (v := (v3 + 1)) (lv' := [(3, .int (v3 + 1)), (2, .int v2), (0, .ref (κ.1 0)), (1, .int v1)]) G dM_rowAt_28 rfl rfl (by decide) rfl ?_
        refine w_goto (pc := 31) (tgt := 4) G dM_rowAt_31 (by decide) ?_
        refine w_sub (lv' := [(0, .ref (κ.1 0)), (1, .int v1), (2, .int v2), (3, .int (v3 + 1))]) [2, 3, 1, 0] rfl ?_
        exact ih v2 (v3 + 1) out h K
noncomputable def M_rowAt (F : Nat) (x_rows : Int32) (x_pivot : Nat → Int32) (v1 : Int32) : Option (Int32) := (lM_rowAt_4 F x_rows x_pivot v1 F (-1 : Int32) (0 : Int32)).bind (fun o4_11 => some o4_11)
set_option maxHeartbeats 8000000 in
set_option maxRecDepth 100000 in
theorem met_M_rowAt (κ : ctx) (X : Nat → va_E) (F : Nat) {x_many : Int32} {x_generator : Nat → Int32} {x_known : Int32} {x_without : Int32} {x_rows : Int32} {x_row : Nat → Int64} {x_pivot : Nat → Int32} {x_fresh : Nat → Int64} {x_multiple : Nat → Int64} {x_last : Nat → Int64} {x_made : Nat → Int64} {x_settled : Nat → Int64} {x_point : Nat → Int64} {x_limit : Int64} {x_mode : Int32} {x_counted : Int32} {x_listed : Int32} {x_held : Int32} {x_first : Nat → Int64} {x_squares : Nat → Int64} {x_wanted : Int32} {x_spanned : Int32} {x_span : Nat → Int64} {x_minima : Nat → Int32} {x_measured : Int32} {x_found : Nat → Int64} {x_any : Int32} (v1 : Int32) {out : Int32} (h : M_rowAt F x_rows x_pivot v1 = some out) : Mt yM_rowAt cM_rowAt 4 (some .int) rm_M_rowAt κ [.ref (κ.1 0), .int v1] (LM κ (x_many, x_generator, x_known, x_without, x_rows, x_row, x_pivot, x_fresh, x_multiple, x_last, x_made, x_settled, x_point, x_limit, x_mode, x_counted, x_listed, x_held, x_first, x_squares, x_wanted, x_spanned, x_span, x_minima, x_measured, x_found, x_any) X) (some (.int out)) (LM κ (x_many, x_generator, x_known, x_without, x_rows, x_row, x_pivot, x_fresh, x_multiple, x_last, x_made, x_settled, x_point, x_limit, x_mode, x_counted, x_listed, x_held, x_first, x_squares, x_wanted, x_spanned, x_span, x_minima, x_measured, x_found, x_any) X) := by
  refine Mt.of (by decide) (Nat.le_of_ble_eq_true rfl) ?_
  intro g G Fh
  unfold M_rowAt at h
  show J g κ 4 0 [(0, .ref (κ.1 0)), (1, .int v1)] [] (LM κ (x_many, x_generator, x_known, x_without, x_rows, x_row, x_pivot, x_fresh, x_multiple, x_last, x_made, x_settled, x_point, x_limit, x_mode, x_counted, x_listed, x_held, x_first, x_squares, x_wanted, x_spanned, x_span, x_minima, x_measured, x_found, x_any) X)
  refine w_iconst (pc := 0) (v := (-1 : Int32)) G dM_rowAt_0 (by decide) ?_
  refine w_istore_n (pc := 1) (lv' := [(2, .int (-1 : Int32)), (0, .ref (κ.1 0)), (1, .int v1)]) G dM_rowAt_1 rfl (by decide) rfl ?_
  refine w_iconst (pc := 2) (v := (0 : Int32)) G dM_rowAt_2 (by decide) ?_
  refine w_istore_n (pc := 3) (lv' := [(3, .int (0 : Int32)), (2, .int (-1 : Int32)), (0, .ref (κ.1 0)), (1, .int v1)]) G dM_rowAt_3 rfl (by decide) rfl ?_
  refine w_sub (lv' := [(0, .ref (κ.1 0)), (1, .int v1), (2, .int (-1 : Int32)), (3, .int (0 : Int32))]) [2, 3, 1, 0] rfl ?_
  obtain ⟨o4_11, eo4_11, h⟩ := bd h
  refine lM_rowAt_4_ok G X F v1 F (-1 : Int32) (0 : Int32) o4_11 eo4_11 ?_
  refine w_iload_n (pc := 34) (q := 0) G dM_rowAt_34 rfl rfl ?_
  obtain rfl := Option.some.inj h
  exact w_iret (pc := 35) G dM_rowAt_35 Fh
def rm_M_under : Room := { frames := 0, cells := 0, slots := 0, locals := 0 }
theorem dM_under_0 : decode cM_under 0 = .ok (.lload_n 0, 1) := by decide +kernel
theorem dM_under_1 : decode cM_under 1 = .ok (.lload_n 2, 1) := by decide +kernel
theorem dM_under_2 : decode cM_under 2 = .ok (.ldiv, 1) := by decide +kernel
theorem dM_under_3 : decode cM_under 3 = .ok (.lstore 4, 2) := by decide +kernel
theorem dM_under_5 : decode cM_under 5 = .ok (.lload_n 0, 1) := by decide +kernel
theorem dM_under_6 : decode cM_under 6 = .ok (.lload_n 2, 1) := by decide +kernel
theorem dM_under_7 : decode cM_under 7 = .ok (.lrem, 1) := by decide +kernel
theorem dM_under_8 : decode cM_under 8 = .ok (.lconst 0, 1) := by decide +kernel
theorem dM_under_9 : decode cM_under 9 = .ok (.lcmp, 1) := by decide +kernel
theorem dM_under_10 : decode cM_under 10 = .ok (.ifCond .eq 35, 3) := by decide +kernel
theorem dM_under_13 : decode cM_under 13 = .ok (.lload_n 0, 1) := by decide +kernel
theorem dM_under_14 : decode cM_under 14 = .ok (.lconst 0, 1) := by decide +kernel
theorem dM_under_15 : decode cM_under 15 = .ok (.lcmp, 1) := by decide +kernel
theorem dM_under_16 : decode cM_under 16 = .ok (.ifCond .ge 7, 3) := by decide +kernel
theorem dM_under_19 : decode cM_under 19 = .ok (.iconst 1, 1) := by decide +kernel
theorem dM_under_20 : decode cM_under 20 = .ok (.goto 4, 3) := by decide +kernel
theorem dM_under_23 : decode cM_under 23 = .ok (.iconst 0, 1) := by decide +kernel
theorem dM_under_24 : decode cM_under 24 = .ok (.lload_n 2, 1) := by decide +kernel
theorem dM_under_25 : decode cM_under 25 = .ok (.lconst 0, 1) := by decide +kernel
theorem dM_under_26 : decode cM_under 26 = .ok (.lcmp, 1) := by decide +kernel
theorem dM_under_27 : decode cM_under 27 = .ok (.ifCond .ge 7, 3) := by decide +kernel
theorem dM_under_30 : decode cM_under 30 = .ok (.iconst 1, 1) := by decide +kernel
theorem dM_under_31 : decode cM_under 31 = .ok (.goto 4, 3) := by decide +kernel
theorem dM_under_34 : decode cM_under 34 = .ok (.iconst 0, 1) := by decide +kernel
theorem dM_under_35 : decode cM_under 35 = .ok (.if_icmp .eq 10, 3) := by decide +kernel
theorem dM_under_38 : decode cM_under 38 = .ok (.lload 4, 2) := by decide +kernel
theorem dM_under_40 : decode cM_under 40 = .ok (.lconst 1, 1) := by decide +kernel
theorem dM_under_41 : decode cM_under 41 = .ok (.lsub, 1) := by decide +kernel
theorem dM_under_42 : decode cM_under 42 = .ok (.goto 5, 3) := by decide +kernel
theorem dM_under_45 : decode cM_under 45 = .ok (.lload 4, 2) := by decide +kernel
theorem dM_under_47 : decode cM_under 47 = .ok (.lreturn, 1) := by decide +kernel
noncomputable def M_under (F : Nat)  (v0 : Int64) (v2 : Int64) : Option (Int64) := gd (¬ v2 = 0) (gd (¬ v2 = 0) (if (v0 - v0 / v2 * v2) = (0 : Int64) then some (v0 / v2) else if (0 : Int64) ≤ v0 then if (0 : Int64) ≤ v2 then some (v0 / v2) else some ((v0 / v2) - (1 : Int64)) else if (0 : Int64) ≤ v2 then some ((v0 / v2) - (1 : Int64)) else some (v0 / v2)))
set_option maxHeartbeats 8000000 in
set_option maxRecDepth 100000 in
theorem met_M_under (κ : ctx) (L : Nat → va_E) (F : Nat) (v0 : Int64) (v2 : Int64) {out : Int64} (h : M_under F  v0 v2 = some out) : Mt yM_under cM_under 6 (some .long) rm_M_under κ [.long v0, .long v2] L (some (.long out)) L := by
  refine Mt.of (by decide) (Nat.le_of_ble_eq_true rfl) ?_
  intro g G Fh
  unfold M_under at h
  show J g κ 6 0 [(0, .long v0), (2, .long v2)] [] L
  refine w_lload_n (pc := 0) (q := 0) G dM_under_0 rfl rfl ?_
  refine w_lload_n (pc := 1) (q := 1) G dM_under_1 rfl rfl ?_
  obtain ⟨z2, h⟩ := gd_some h
  refine w_ldiv (pc := 2) G dM_under_2 z2 ?_
  refine w_lstore (pc := 3) (lv' := [(4, .long (v0 / v2)), (0, .long v0), (2, .long v2)]) G dM_under_3 (by decide) rfl ?_
  refine w_lload_n (pc := 5) (q := 1) G dM_under_5 rfl rfl ?_
  refine w_lload_n (pc := 6) (q := 2) G dM_under_6 rfl rfl ?_
  obtain ⟨z7, h⟩ := gd_some h
  refine w_lrem (pc := 7) G dM_under_7 z7 ?_
  refine w_lconst (pc := 8) (v := (0 : Int64)) G dM_under_8 (by decide) ?_
  refine w_lc_eq (pc := 9) (tgt := 45) G dM_under_9 dM_under_10 (by decide) (fun c9 => ?_) (fun c9 => ?_)
  · have h := if_t c9 h
    refine w_lload (pc := 45) (q := 0) G dM_under_45 rfl ?_
    obtain rfl := Option.some.inj h
    exact w_lret (pc := 47) G dM_under_47 Fh
  · have h := if_f c9 h
    refine w_lload_n (pc := 13) (q := 1) G dM_under_13 rfl rfl ?_
    refine w_lconst (pc := 14) (v := (0 : Int64)) G dM_under_14 (by decide) ?_
    refine w_lc_ge (pc := 15) (tgt := 23) G dM_under_15 dM_under_16 (by decide) (fun c15 => ?_) (fun c15 => ?_)
    · have h := if_t c15 h
      refine w_iconst (pc := 23) (v := (0 : Int32)) G dM_under_23 (by decide) ?_
      refine w_lload_n (pc := 24) (q := 2) G dM_under_24 rfl rfl ?_
      refine w_lconst (pc := 25) (v := (0 : Int64)) G dM_under_25 (by decide) ?_
      refine w_lc_ge (pc := 26) (tgt := 34) G dM_under_26 dM_under_27 (by decide) (fun c26 => ?_) (fun c26 => ?_)
      · have h := if_t c26 h
        refine w_iconst (pc := 34) (v := (0 : Int32)) G dM_under_34 (by decide) ?_
        refine w_icmp_eq (pc := 35) (tgt := 45) G dM_under_35 (by decide) (fun _ => ?_) (fun c => absurd (by decide) c)
        refine w_lload (pc := 45) (q := 0) G dM_under_45 rfl ?_
        obtain rfl := Option.some.inj h
        exact w_lret (pc := 47) G dM_under_47 Fh
      · have h := if_f c26 h
        refine w_iconst (pc := 30) (v := (1 : Int32)) G dM_under_30 (by decide) ?_
        refine w_goto (pc := 31) (tgt := 35) G dM_under_31 (by decide) ?_
        refine w_icmp_eq (pc := 35) (tgt := 45) G dM_under_35 (by decide) (fun c => absurd c (by decide)) (fun _ => ?_)
        refine w_lload (pc := 38) (q := 0) G dM_under_38 rfl ?_
        refine w_lconst (pc := 40) (v := (1 : Int64)) G dM_under_40 (by decide) ?_
        refine w_lsub (pc := 41) G dM_under_41 ?_
        refine w_goto (pc := 42) (tgt := 47) G dM_under_42 (by decide) ?_
        obtain rfl := Option.some.inj h
        exact w_lret (pc := 47) G dM_under_47 Fh
    · have h := if_f c15 h
      refine w_iconst (pc := 19) (v := (1 : Int32)) G dM_under_19 (by decide) ?_
      refine w_goto (pc := 20) (tgt := 24) G dM_under_20 (by decide) ?_
      refine w_lload_n (pc := 24) (q := 2) G dM_under_24 rfl rfl ?_
      refine w_lconst (pc := 25) (v := (0 : Int64)) G dM_under_25 (by decide) ?_
      refine w_lc_ge (pc := 26) (tgt := 34) G dM_under_26 dM_under_27 (by decide) (fun c26 => ?_) (fun c26 => ?_)
      · have h := if_t c26 h
        refine w_iconst (pc := 34) (v := (0 : Int32)) G dM_under_34 (by decide) ?_
        refine w_icmp_eq (pc := 35) (tgt := 45) G dM_under_35 (by decide) (fun c => absurd c (by decide)) (fun _ => ?_)
        refine w_lload (pc := 38) (q := 0) G dM_under_38 rfl ?_
        refine w_lconst (pc := 40) (v := (1 : Int64)) G dM_under_40 (by decide) ?_
        refine w_lsub (pc := 41) G dM_under_41 ?_
        refine w_goto (pc := 42) (tgt := 47) G dM_under_42 (by decide) ?_
        obtain rfl := Option.some.inj h
        exact w_lret (pc := 47) G dM_under_47 Fh
      · have h := if_f c26 h
        refine w_iconst (pc := 30) (v := (1 : Int32)) G dM_under_30 (by decide) ?_
        refine w_goto (pc := 31) (tgt := 35) G dM_under_31 (by decide) ?_
        refine w_icmp_eq (pc := 35) (tgt := 45) G dM_under_35 (by decide) (fun _ => ?_) (fun c => absurd (by decide) c)
        refine w_lload (pc := 45) (q := 0) G dM_under_45 rfl ?_
        obtain rfl := Option.some.inj h
        exact w_lret (pc := 47) G dM_under_47 Fh
def rm_M_tidy : Room := { frames := 1, cells := 0, slots := 0, locals := 25 }
theorem dM_tidy_0 : decode cM_tidy 0 = .ok (.iload_n 1, 1) := by decide +kernel
theorem dM_tidy_1 : decode cM_tidy 1 = .ok (.iconst 1, 1) := by decide +kernel
theorem dM_tidy_2 : decode cM_tidy 2 = .ok (.iadd, 1) := by decide +kernel
theorem dM_tidy_3 : decode cM_tidy 3 = .ok (.istore_n 2, 1) := by decide +kernel
theorem dM_tidy_4 : decode cM_tidy 4 = .ok (.iload_n 2, 1) := by decide +kernel
theorem dM_tidy_5 : decode cM_tidy 5 = .ok (.iconst 4, 1) := by decide +kernel
theorem dM_tidy_6 : decode cM_tidy 6 = .ok (.if_icmp .ge 79, 3) := by decide +kernel
theorem dM_tidy_9 : decode cM_tidy 9 = .ok (.aload_n 0, 1) := by decide +kernel
theorem dM_tidy_10 : decode cM_tidy 10 = .ok (.iload_n 2, 1) := by decide +kernel
theorem dM_tidy_11 : decode cM_tidy 11 = .ok (.invokevirtual 77, 3) := by decide +kernel
theorem dM_tidy_14 : decode cM_tidy 14 = .ok (.istore_n 3, 1) := by decide +kernel
theorem dM_tidy_15 : decode cM_tidy 15 = .ok (.iload_n 3, 1) := by decide +kernel
theorem dM_tidy_16 : decode cM_tidy 16 = .ok (.ifCond .lt 63, 3) := by decide +kernel
theorem dM_tidy_19 : decode cM_tidy 19 = .ok (.aload_n 0, 1) := by decide +kernel
theorem dM_tidy_20 : decode cM_tidy 20 = .ok (.getfield 20, 3) := by decide +kernel
theorem dM_tidy_23 : decode cM_tidy 23 = .ok (.iload_n 2, 1) := by decide +kernel
theorem dM_tidy_24 : decode cM_tidy 24 = .ok (.laload, 1) := by decide +kernel
theorem dM_tidy_25 : decode cM_tidy 25 = .ok (.aload_n 0, 1) := by decide +kernel
theorem dM_tidy_26 : decode cM_tidy 26 = .ok (.getfield 13, 3) := by decide +kernel
theorem dM_tidy_29 : decode cM_tidy 29 = .ok (.iconst 4, 1) := by decide +kernel
theorem dM_tidy_30 : decode cM_tidy 30 = .ok (.iload_n 3, 1) := by decide +kernel
theorem dM_tidy_31 : decode cM_tidy 31 = .ok (.imul, 1) := by decide +kernel
theorem dM_tidy_32 : decode cM_tidy 32 = .ok (.iload_n 2, 1) := by decide +kernel
theorem dM_tidy_33 : decode cM_tidy 33 = .ok (.iadd, 1) := by decide +kernel
theorem dM_tidy_34 : decode cM_tidy 34 = .ok (.laload, 1) := by decide +kernel
theorem dM_tidy_35 : decode cM_tidy 35 = .ok (.invokestatic 81, 3) := by decide +kernel
theorem dM_tidy_38 : decode cM_tidy 38 = .ok (.lstore 4, 2) := by decide +kernel
theorem dM_tidy_40 : decode cM_tidy 40 = .ok (.iload_n 2, 1) := by decide +kernel
theorem dM_tidy_41 : decode cM_tidy 41 = .ok (.istore 6, 2) := by decide +kernel
theorem dM_tidy_43 : decode cM_tidy 43 = .ok (.iload 6, 2) := by decide +kernel
theorem dM_tidy_45 : decode cM_tidy 45 = .ok (.iconst 4, 1) := by decide +kernel
theorem dM_tidy_46 : decode cM_tidy 46 = .ok (.if_icmp .ge 33, 3) := by decide +kernel
theorem dM_tidy_49 : decode cM_tidy 49 = .ok (.aload_n 0, 1) := by decide +kernel
theorem dM_tidy_50 : decode cM_tidy 50 = .ok (.getfield 20, 3) := by decide +kernel
theorem dM_tidy_53 : decode cM_tidy 53 = .ok (.iload 6, 2) := by decide +kernel
theorem dM_tidy_55 : decode cM_tidy 55 = .ok (.dup2, 1) := by decide +kernel
theorem dM_tidy_56 : decode cM_tidy 56 = .ok (.laload, 1) := by decide +kernel
theorem dM_tidy_57 : decode cM_tidy 57 = .ok (.lload 4, 2) := by decide +kernel
theorem dM_tidy_59 : decode cM_tidy 59 = .ok (.aload_n 0, 1) := by decide +kernel
theorem dM_tidy_60 : decode cM_tidy 60 = .ok (.getfield 13, 3) := by decide +kernel
theorem dM_tidy_63 : decode cM_tidy 63 = .ok (.iconst 4, 1) := by decide +kernel
theorem dM_tidy_64 : decode cM_tidy 64 = .ok (.iload_n 3, 1) := by decide +kernel
theorem dM_tidy_65 : decode cM_tidy 65 = .ok (.imul, 1) := by decide +kernel
theorem dM_tidy_66 : decode cM_tidy 66 = .ok (.iload 6, 2) := by decide +kernel
theorem dM_tidy_68 : decode cM_tidy 68 = .ok (.iadd, 1) := by decide +kernel
theorem dM_tidy_69 : decode cM_tidy 69 = .ok (.laload, 1) := by decide +kernel
theorem dM_tidy_70 : decode cM_tidy 70 = .ok (.lmul, 1) := by decide +kernel
theorem dM_tidy_71 : decode cM_tidy 71 = .ok (.lsub, 1) := by decide +kernel
theorem dM_tidy_72 : decode cM_tidy 72 = .ok (.lastore, 1) := by decide +kernel
theorem dM_tidy_73 : decode cM_tidy 73 = .ok (.iinc 6 1, 3) := by decide +kernel
theorem dM_tidy_76 : decode cM_tidy 76 = .ok (.goto (-33), 3) := by decide +kernel
theorem dM_tidy_79 : decode cM_tidy 79 = .ok (.iinc 2 1, 3) := by decide +kernel
theorem dM_tidy_82 : decode cM_tidy 82 = .ok (.goto (-78), 3) := by decide +kernel
theorem dM_tidy_85 : decode cM_tidy 85 = .ok (.return_, 1) := by decide +kernel
theorem cb_M_rowAt_M_tidy : CB yM_rowAt cM_rowAt 4 (some .int) rm_M_rowAt rm_M_tidy 1 := ⟨wd606, wd8, by decide +kernel, rfl, rfl, by decide⟩
theorem cb_M_under_M_tidy : CB yM_under cM_under 6 (some .long) rm_M_under rm_M_tidy 2 := ⟨wd613, wd8, by decide +kernel, rfl, rfl, by decide⟩
noncomputable def lM_tidy_43 (F : Nat) (x_row : Nat → Int64) (v2 : Int32) (v3 : Int32) (v4 : Int64) : Nat → Int32 → (Nat → Int64) → Option ((Nat → Int64))
  | 0, _, _ => none
  | n + 1, v6, x_fresh => if (4 : Int32) ≤ v6 then some (x_fresh) else gd (vp_in v6 4) (gd (vp_in (((4 : Int32) * v3) + v6) 16) (gd (vp_in v6 4) (lM_tidy_43 F x_row v2 v3 v4 n (v6 + 1) (vp_updL x_fresh v6.toNatClampNeg ((x_fresh v6.toNatClampNeg) - (v4 * (x_row (((4 : Int32) * v3) + v6).toNatClampNeg)))))))
set_option maxHeartbeats 8000000 in
set_option maxRecDepth 100000 in
theorem lM_tidy_43_ok {g : Gm} {κ : ctx} (G : OK g κ RM cM_tidy 7 none rm_M_tidy) (X : Nat → va_E) (F : Nat) {x_many : Int32} {x_generator : Nat → Int32} {x_known : Int32} {x_without : Int32} {x_rows : Int32} {x_row : Nat → Int64} {x_pivot : Nat → Int32} {x_multiple : Nat → Int64} {x_last : Nat → Int64} {x_made : Nat → Int64} {x_settled : Nat → Int64} {x_point : Nat → Int64} {x_limit : Int64} {x_mode : Int32} {x_counted : Int32} {x_listed : Int32} {x_held : Int32} {x_first : Nat → Int64} {x_squares : Nat → Int64} {x_wanted : Int32} {x_spanned : Int32} {x_span : Nat → Int64} {x_minima : Nat → Int32} {x_measured : Int32} {x_found : Nat → Int64} {x_any : Int32} (v2 : Int32) (v3 : Int32) (v4 : Int64) : ∀ (n : Nat) (v6 : Int32) (x_fresh : Nat → Int64) (out : (Nat → Int64)), lM_tidy_43 F x_row v2 v3 v4 n v6 x_fresh = some out → (J g κ 7 79 [(0, .ref (κ.1 0)), (2, .int v2)] [] (LM κ (x_many, x_generator, x_known, x_without, x_rows, x_row, x_pivot, out, x_multiple, x_last, x_made, x_settled, x_point, x_limit, x_mode, x_counted, x_listed, x_held, x_first, x_squares, x_wanted, x_spanned, x_span, x_minima, x_measured, x_found, x_any) X)) → J g κ 7 43 [(0, .ref (κ.1 0)), (2, .int v2), (3, .int v3), (4, .long v4), (6, .int v6)] [] (LM κ (x_many, x_generator, x_known, x_without, x_rows, x_row, x_pivot, x_fresh, x_multiple, x_last, x_made, x_settled, x_point, x_limit, x_mode, x_counted, x_listed, x_held, x_first, x_squares, x_wanted, x_spanned, x_span, x_minima, x_measured, x_found, x_any) X) := by
  intro n
  induction n with
  | zero =>
    intro v6 x_fresh
    intro out h
    rw [lM_tidy_43] at h
    cases h
  | succ n ih =>
    intro v6 x_fresh out h K
    rw [lM_tidy_43] at h
    refine w_iload (pc := 43) (q := 4) G dM_tidy_43 rfl ?_
    refine w_iconst (pc := 45) (v := (4 : Int32)) G dM_tidy_45 (by decide) ?_
    refine w_icmp_ge (pc := 46) (tgt := 79) G dM_tidy_46 (by decide) (fun c46 => ?_) (fun c46 => ?_)
    · have h := if_t c46 h
      obtain rfl := Option.some.inj h
      refine w_sub (lv' := [(0, .ref (κ.1 0)), (2, .int v2)]) [0, 1] rfl ?_
      exact K
    · have h := if_f c46 h
      refine w_aload_n (pc := 49) (q := 0) G dM_tidy_49 rfl rfl ?_
      refine w_get (pc := 50) (v := .ref (κ.1 4)) (fs := fl_M κ (x_many, x_generator, x_known, x_without, x_rows, x_row, x_pivot, x_fresh, x_multiple, x_last, x_made, x_settled, x_point, x_limit, x_mode, x_counted, x_listed, x_held, x_first, x_squares, x_wanted, x_spanned, x_span, x_minima, x_measured, x_found, x_any)) G 0 (by decide) lb_M rfl wsM_ok 7 (by decide) wd497 gf_M_7 dM_tidy_50 ?_
      refine w_iload (pc := 53) (q := 4) G dM_tidy_53 rfl ?_
      refine w_dup2_11 (pc := 55) G dM_tidy_55 rfl rfl ?_
      obtain ⟨i56, h⟩ := gd_some h
      refine w_lald (pc := 56) (n := 4) (f := x_fresh) G 4 (by decide) lk_fresh i56 dM_tidy_56 ?_
      refine w_lload (pc := 57) (q := 3) G dM_tidy_57 rfl ?_
      refine w_aload_n (pc := 59) (q := 0) G dM_tidy_59 rfl rfl ?_
      refine w_get (pc := 60) (v := .ref (κ.1 2)) (fs := fl_M κ (x_many, x_generator, x_known, x_without, x_rows, x_row, x_pivot, x_fresh, x_multiple, x_last, x_made, x_settled, x_point, x_limit, x_mode, x_counted, x_listed, x_held, x_first, x_squares, x_wanted, x_spanned, x_span, x_minima, x_measured, x_found, x_any)) G 0 (by decide) lb_M rfl wsM_ok 5 (by decide) wd495 gf_M_5 dM_tidy_60 ?_
      refine w_iconst (pc := 63) (v := (4 : Int32)) G dM_tidy_63 (by decide) ?_
      refine w_iload_n (pc := 64) (q := 2) G dM_tidy_64 rfl rfl ?_
      refine w_imul (pc := 65) G dM_tidy_65 ?_
      refine w_iload (pc := 66) (q := 4) G dM_tidy_66 rfl ?_
      refine w_iadd (pc := 68) G dM_tidy_68 ?_
      obtain ⟨i69, h⟩ := gd_some h
      refine w_lald (pc := 69) (n := 16) (f := x_row) G 2 (by decide) lk_row i69 dM_tidy_69 ?_
      refine w_lmul (pc := 70) G dM_tidy_70 ?_
      refine w_lsub (pc := 71) G dM_tidy_71 ?_
      obtain ⟨i72, h⟩ := gd_some h
      refine w_last (pc := 72) (n := 4) (f := x_fresh) (L1 := (LM κ (x_many, x_generator, x_known, x_without, x_rows, x_row, x_pivot, vp_updL x_fresh v6.toNatClampNeg ((x_fresh v6.toNatClampNeg) - (v4 * (x_row (((4 : Int32) * v3) + v6).toNatClampNeg))), x_multiple, x_last, x_made, x_settled, x_point, x_limit, x_mode, x_counted, x_listed, x_held, x_first, x_squares, x_wanted, x_spanned, x_span, x_minima, x_measured, x_found, x_any) X)) G 4 (by decide) lk_fresh i72 dM_tidy_72 up_fresh ?_
      refine w_iinc (pc := 73) (q0 := 4) (v := (v6 + 1)) (lv' := [(6, .int (v6 + 1)), (0, .ref (κ.1 0)), (2, .int v2), (3, .int v3), (4, .long v4)]) G dM_tidy_73 rfl rfl (by decide) rfl ?_
      refine w_goto (pc := 76) (tgt := 43) G dM_tidy_76 (by decide) ?_
      refine w_sub (lv' := [(0, .ref (κ.1 0)), (2, .int v2), (3, .int v3), (4, .long v4), (6, .int (v6 + 1))]) [1, 2, 3, 4, 0] rfl ?_
      exact ih (v6 + 1) (vp_updL x_fresh v6.toNatClampNeg ((x_fresh v6.toNatClampNeg) - (v4 * (x_row (((4 : Int32) * v3) + v6).toNatClampNeg)))) out h K
noncomputable def lM_tidy_4 (F : Nat) (x_rows : Int32) (x_row : Nat → Int64) (x_pivot : Nat → Int32) : Nat → Int32 → (Nat → Int64) → Option ((Nat → Int64))
  | 0, _, _ => none
  | n + 1, v2, x_fresh => if (4 : Int32) ≤ v2 then some (x_fresh) else (M_rowAt F x_rows x_pivot v2).bind (fun r11 => if r11 < 0 then lM_tidy_4 F x_rows x_row x_pivot n (v2 + 1) x_fresh else gd (vp_in v2 4) (gd (vp_in (((4 : Int32) * r11) + v2) 16) ((M_under F  (x_fresh v2.toNatClampNeg) (x_row (((4 : Int32) * r11) + v2).toNatClampNeg)).bind (fun r35 => (lM_tidy_43 F x_row v2 r11 r35 F v2 x_fresh).bind (fun o43_20 => lM_tidy_4 F x_rows x_row x_pivot n (v2 + 1) o43_20)))))
set_option maxHeartbeats 8000000 in
set_option maxRecDepth 100000 in
theorem lM_tidy_4_ok {g : Gm} {κ : ctx} (G : OK g κ RM cM_tidy 7 none rm_M_tidy) (X : Nat → va_E) (F : Nat) {x_many : Int32} {x_generator : Nat → Int32} {x_known : Int32} {x_without : Int32} {x_rows : Int32} {x_row : Nat → Int64} {x_pivot : Nat → Int32} {x_multiple : Nat → Int64} {x_last : Nat → Int64} {x_made : Nat → Int64} {x_settled : Nat → Int64} {x_point : Nat → Int64} {x_limit : Int64} {x_mode : Int32} {x_counted : Int32} {x_listed : Int32} {x_held : Int32} {x_first : Nat → Int64} {x_squares : Nat → Int64} {x_wanted : Int32} {x_spanned : Int32} {x_span : Nat → Int64} {x_minima : Nat → Int32} {x_measured : Int32} {x_found : Nat → Int64} {x_any : Int32} : ∀ (n : Nat) (v2 : Int32) (x_fresh : Nat → Int64) (out : (Nat → Int64)), lM_tidy_4 F x_rows x_row x_pivot  n v2 x_fresh = some out → (J g κ 7 85 [] [] (LM κ (x_many, x_generator, x_known, x_without, x_rows, x_row, x_pivot, out, x_multiple, x_last, x_made, x_settled, x_point, x_limit, x_mode, x_counted, x_listed, x_held, x_first, x_squares, x_wanted, x_spanned, x_span, x_minima, x_measured, x_found, x_any) X)) → J g κ 7 4 [(0, .ref (κ.1 0)), (2, .int v2)] [] (LM κ (x_many, x_generator, x_known, x_without, x_rows, x_row, x_pivot, x_fresh, x_multiple, x_last, x_made, x_settled, x_point, x_limit, x_mode, x_counted, x_listed, x_held, x_first, x_squares, x_wanted, x_spanned, x_span, x_minima, x_measured, x_found, x_any) X) := by
  intro n
  induction n with
  | zero =>
    intro v2 x_fresh
    intro out h
    rw [lM_tidy_4] at h
    cases h
  | succ n ih =>
    intro v2 x_fresh out h K
    rw [lM_tidy_4] at h
    refine w_iload_n (pc := 4) (q := 1) G dM_tidy_4 rfl rfl ?_
    refine w_iconst (pc := 5) (v := (4 : Int32)) G dM_tidy_5 (by decide) ?_
    refine w_icmp_ge (pc := 6) (tgt := 85) G dM_tidy_6 (by decide) (fun c6 => ?_) (fun c6 => ?_)
    · have h := if_t c6 h
      obtain rfl := Option.some.inj h
      refine w_sub (lv' := []) [] rfl ?_
      exact K
    · have h := if_f c6 h
      refine w_aload_n (pc := 9) (q := 0) G dM_tidy_9 rfl rfl ?_
      refine w_iload_n (pc := 10) (q := 1) G dM_tidy_10 rfl rfl ?_
      obtain ⟨r11, e11, h⟩ := bd h
      refine w_callV (pc := 11) (av := [.int v2]) (rest := []) (v := some (.int r11)) (L' := (LM κ (x_many, x_generator, x_known, x_without, x_rows, x_row, x_pivot, x_fresh, x_multiple, x_last, x_made, x_settled, x_point, x_limit, x_mode, x_counted, x_listed, x_held, x_first, x_squares, x_wanted, x_spanned, x_span, x_minima, x_measured, x_found, x_any) X)) (T := TM) (fs := fl_M κ (x_many, x_generator, x_known, x_without, x_rows, x_row, x_pivot, x_fresh, x_multiple, x_last, x_made, x_settled, x_point, x_limit, x_mode, x_counted, x_listed, x_held, x_first, x_squares, x_wanted, x_spanned, x_span, x_minima, x_measured, x_found, x_any)) G 0 0 27 (by decide) lb_M rfl cb_M_rowAt_M_tidy wd605 ws22 wd603 (met_M_rowAt κ X F v2  e11) rfl rfl rfl (Nat.le_of_ble_eq_true rfl) dM_tidy_11 ?_
      refine w_istore_n (pc := 14) (lv' := [(3, .int r11), (0, .ref (κ.1 0)), (2, .int v2)]) G dM_tidy_14 rfl (by decide) rfl ?_
      refine w_iload_n (pc := 15) (q := 0) G dM_tidy_15 rfl rfl ?_
      refine w_if_lt (pc := 16) (tgt := 79) G dM_tidy_16 (by decide) (fun c16 => ?_) (fun c16 => ?_)
      · have h := if_t c16 h
        refine w_iinc (pc := 79) (q0 := 2) (v := (v2 + 1)) (lv' := [(2, .int (v2 + 1)), (3, .int r11), (0, .ref (κ.1 0))]) G dM_tidy_79 rfl rfl (by decide) rfl ?_
        refine w_goto (pc := 82) (tgt := 4) G dM_tidy_82 (by decide) ?_
        refine w_sub (lv' := [(0, .ref (κ.1 0)), (2, .int (v2 + 1))]) [2, 0] rfl ?_
        exact ih (v2 + 1) x_fresh out h K
      · have h := if_f c16 h
        refine w_aload_n (pc := 19) (q := 1) G dM_tidy_19 rfl rfl ?_
        refine w_get (pc := 20) (v := .ref (κ.1 4)) (fs := fl_M κ (x_many, x_generator, x_known, x_without, x_rows, x_row, x_pivot, x_fresh, x_multiple, x_last, x_made, x_settled, x_point, x_limit, x_mode, x_counted, x_listed, x_held, x_first, x_squares, x_wanted, x_spanned, x_span, x_minima, x_measured, x_found, x_any)) G 0 (by decide) lb_M rfl wsM_ok 7 (by decide) wd497 gf_M_7 dM_tidy_20 ?_
        refine w_iload_n (pc := 23) (q := 2) G dM_tidy_23 rfl rfl ?_
        obtain ⟨i24, h⟩ := gd_some h
        refine w_lald (pc := 24) (n := 4) (f := x_fresh) G 4 (by decide) lk_fresh i24 dM_tidy_24 ?_
        refine w_aload_n (pc := 25) (q := 1) G dM_tidy_25 rfl rfl ?_
        refine w_get (pc := 26) (v := .ref (κ.1 2)) (fs := fl_M κ (x_many, x_generator, x_known, x_without, x_rows, x_row, x_pivot, x_fresh, x_multiple, x_last, x_made, x_settled, x_point, x_limit, x_mode, x_counted, x_listed, x_held, x_first, x_squares, x_wanted, x_spanned, x_span, x_minima, x_measured, x_found, x_any)) G 0 (by decide) lb_M rfl wsM_ok 5 (by decide) wd495 gf_M_5 dM_tidy_26 ?_
        refine w_iconst (pc := 29) (v := (4 : Int32)) G dM_tidy_29 (by decide) ?_
        refine w_iload_n (pc := 30) (q := 0) G dM_tidy_30 rfl rfl ?_
        refine w_imul (pc := 31) G dM_tidy_31 ?_
        refine w_iload_n (pc := 32) (q := 2) G dM_tidy_32 rfl rfl ?_
        refine w_iadd (pc := 33) G dM_tidy_33 ?_
        obtain ⟨i34, h⟩ := gd_some h
        refine w_lald (pc := 34) (n := 16) (f := x_row) G 2 (by decide) lk_row i34 dM_tidy_34 ?_
        obtain ⟨r35, e35, h⟩ := bd h
        refine w_callS (pc := 35) (av := [.long (x_fresh v2.toNatClampNeg), .long (x_row (((4 : Int32) * r11) + v2).toNatClampNeg)]) (rest := []) (v := some (.long r35)) (L' := (LM κ (x_many, x_generator, x_known, x_without, x_rows, x_row, x_pivot, x_fresh, x_multiple, x_last, x_made, x_settled, x_point, x_limit, x_mode, x_counted, x_listed, x_held, x_first, x_squares, x_wanted, x_spanned, x_span, x_minima, x_measured, x_found, x_any) X)) G cb_M_under_M_tidy wd612 wd611 (met_M_under κ (LM κ (x_many, x_generator, x_known, x_without, x_rows, x_row, x_pivot, x_fresh, x_multiple, x_last, x_made, x_settled, x_point, x_limit, x_mode, x_counted, x_listed, x_held, x_first, x_squares, x_wanted, x_spanned, x_span, x_minima, x_measured, x_found, x_any) X) F (x_fresh v2.toNatClampNeg) (x_row (((4 : Int32) * r11) + v2).toNatClampNeg)  e35) rfl rfl rfl (Nat.le_of_ble_eq_true rfl) dM_tidy_35 ?_
        refine w_lstore (pc := 38) (lv' := [(4, .long r35), (3, .int r11), (0, .ref (κ.1 0)), (2, .int v2)]) G dM_tidy_38 (by decide) rfl ?_
        refine w_iload_n (pc := 40) (q := 3) G dM_tidy_40 rfl rfl ?_
        refine w_istore (pc := 41) (lv' := [(6, .int v2), (4, .long r35), (3, .int r11), (0, .ref (κ.1 0)), (2, .int v2)]) G dM_tidy_41 (by decide) rfl ?_
        refine w_sub (lv' := [(0, .ref (κ.1 0)), (2, .int v2), (3, .int r11), (4, .long r35), (6, .int v2)]) [3, 4, 2, 1, 0] rfl ?_
        obtain ⟨o43_20, eo43_20, h⟩ := bd h
        refine lM_tidy_43_ok G X F v2 r11 r35 F v2 x_fresh o43_20 eo43_20 ?_
        refine w_iinc (pc := 79) (q0 := 1) (v := (v2 + 1)) (lv' := [(2, .int (v2 + 1)), (0, .ref (κ.1 0))]) G dM_tidy_79 rfl rfl (by decide) rfl ?_
        refine w_goto (pc := 82) (tgt := 4) G dM_tidy_82 (by decide) ?_
        refine w_sub (lv' := [(0, .ref (κ.1 0)), (2, .int (v2 + 1))]) [1, 0] rfl ?_
        exact ih (v2 + 1) o43_20 out h K
noncomputable def M_tidy (F : Nat) (x_rows : Int32) (x_row : Nat → Int64) (x_pivot : Nat → Int32) (x_fresh : Nat → Int64) (v1 : Int32) : Option ((Nat → Int64)) := (lM_tidy_4 F x_rows x_row x_pivot F (v1 + (1 : Int32)) x_fresh).bind (fun o4_20 => some o4_20)
set_option maxHeartbeats 8000000 in
set_option maxRecDepth 100000 in
theorem met_M_tidy (κ : ctx) (X : Nat → va_E) (F : Nat) {x_many : Int32} {x_generator : Nat → Int32} {x_known : Int32} {x_without : Int32} {x_rows : Int32} {x_row : Nat → Int64} {x_pivot : Nat → Int32} {x_fresh : Nat → Int64} {x_multiple : Nat → Int64} {x_last : Nat → Int64} {x_made : Nat → Int64} {x_settled : Nat → Int64} {x_point : Nat → Int64} {x_limit : Int64} {x_mode : Int32} {x_counted : Int32} {x_listed : Int32} {x_held : Int32} {x_first : Nat → Int64} {x_squares : Nat → Int64} {x_wanted : Int32} {x_spanned : Int32} {x_span : Nat → Int64} {x_minima : Nat → Int32} {x_measured : Int32} {x_found : Nat → Int64} {x_any : Int32} (v1 : Int32) {out : (Nat → Int64)} (h : M_tidy F x_rows x_row x_pivot x_fresh v1 = some out) : Mt yM_tidy cM_tidy 7 none rm_M_tidy κ [.ref (κ.1 0), .int v1] (LM κ (x_many, x_generator, x_known, x_without, x_rows, x_row, x_pivot, x_fresh, x_multiple, x_last, x_made, x_settled, x_point, x_limit, x_mode, x_counted, x_listed, x_held, x_first, x_squares, x_wanted, x_spanned, x_span, x_minima, x_measured, x_found, x_any) X) none (LM κ (x_many, x_generator, x_known, x_without, x_rows, x_row, x_pivot, out, x_multiple, x_last, x_made, x_settled, x_point, x_limit, x_mode, x_counted, x_listed, x_held, x_first, x_squares, x_wanted, x_spanned, x_span, x_minima, x_measured, x_found, x_any) X) := by
  refine Mt.of (by decide) (Nat.le_of_ble_eq_true rfl) ?_
  intro g G Fh
  unfold M_tidy at h
  show J g κ 7 0 [(0, .ref (κ.1 0)), (1, .int v1)] [] (LM κ (x_many, x_generator, x_known, x_without, x_rows, x_row, x_pivot, x_fresh, x_multiple, x_last, x_made, x_settled, x_point, x_limit, x_mode, x_counted, x_listed, x_held, x_first, x_squares, x_wanted, x_spanned, x_span, x_minima, x_measured, x_found, x_any) X)
  refine w_iload_n (pc := 0) (q := 1) G dM_tidy_0 rfl rfl ?_
  refine w_iconst (pc := 1) (v := (1 : Int32)) G dM_tidy_1 (by decide) ?_
  refine w_iadd (pc := 2) G dM_tidy_2 ?_
  refine w_istore_n (pc := 3) (lv' := [(2, .int (v1 + (1 : Int32))), (0, .ref (κ.1 0)), (1, .int v1)]) G dM_tidy_3 rfl (by decide) rfl ?_
  refine w_sub (lv' := [(0, .ref (κ.1 0)), (2, .int (v1 + (1 : Int32)))]) [1, 0] rfl ?_
  obtain ⟨o4_20, eo4_20, h⟩ := bd h
  refine lM_tidy_4_ok G X F F (v1 + (1 : Int32)) x_fresh o4_20 eo4_20 ?_
  obtain rfl := Option.some.inj h
  exact w_vret (pc := 85) G dM_tidy_85 Fh
def rm_M_insert : Room := { frames := 0, cells := 0, slots := 0, locals := 0 }
theorem dM_insert_0 : decode cM_insert 0 = .ok (.aload_n 0, 1) := by decide +kernel
theorem dM_insert_1 : decode cM_insert 1 = .ok (.getfield 74, 3) := by decide +kernel
theorem dM_insert_4 : decode cM_insert 4 = .ok (.istore_n 2, 1) := by decide +kernel
theorem dM_insert_5 : decode cM_insert 5 = .ok (.iload_n 2, 1) := by decide +kernel
theorem dM_insert_6 : decode cM_insert 6 = .ok (.ifCond .le 70, 3) := by decide +kernel
theorem dM_insert_9 : decode cM_insert 9 = .ok (.aload_n 0, 1) := by decide +kernel
theorem dM_insert_10 : decode cM_insert 10 = .ok (.getfield 17, 3) := by decide +kernel
theorem dM_insert_13 : decode cM_insert 13 = .ok (.iload_n 2, 1) := by decide +kernel
theorem dM_insert_14 : decode cM_insert 14 = .ok (.iconst 1, 1) := by decide +kernel
theorem dM_insert_15 : decode cM_insert 15 = .ok (.isub, 1) := by decide +kernel
theorem dM_insert_16 : decode cM_insert 16 = .ok (.iaload, 1) := by decide +kernel
theorem dM_insert_17 : decode cM_insert 17 = .ok (.iload_n 1, 1) := by decide +kernel
theorem dM_insert_18 : decode cM_insert 18 = .ok (.if_icmp .le 58, 3) := by decide +kernel
theorem dM_insert_21 : decode cM_insert 21 = .ok (.iconst 0, 1) := by decide +kernel
theorem dM_insert_22 : decode cM_insert 22 = .ok (.istore_n 3, 1) := by decide +kernel
theorem dM_insert_23 : decode cM_insert 23 = .ok (.iload_n 3, 1) := by decide +kernel
theorem dM_insert_24 : decode cM_insert 24 = .ok (.iconst 4, 1) := by decide +kernel
theorem dM_insert_25 : decode cM_insert 25 = .ok (.if_icmp .ge 31, 3) := by decide +kernel
theorem dM_insert_28 : decode cM_insert 28 = .ok (.aload_n 0, 1) := by decide +kernel
theorem dM_insert_29 : decode cM_insert 29 = .ok (.getfield 13, 3) := by decide +kernel
theorem dM_insert_32 : decode cM_insert 32 = .ok (.iconst 4, 1) := by decide +kernel
theorem dM_insert_33 : decode cM_insert 33 = .ok (.iload_n 2, 1) := by decide +kernel
theorem dM_insert_34 : decode cM_insert 34 = .ok (.imul, 1) := by decide +kernel
theorem dM_insert_35 : decode cM_insert 35 = .ok (.iload_n 3, 1) := by decide +kernel
theorem dM_insert_36 : decode cM_insert 36 = .ok (.iadd, 1) := by decide +kernel
theorem dM_insert_37 : decode cM_insert 37 = .ok (.aload_n 0, 1) := by decide +kernel
theorem dM_insert_38 : decode cM_insert 38 = .ok (.getfield 13, 3) := by decide +kernel
theorem dM_insert_41 : decode cM_insert 41 = .ok (.iconst 4, 1) := by decide +kernel
theorem dM_insert_42 : decode cM_insert 42 = .ok (.iload_n 2, 1) := by decide +kernel
theorem dM_insert_43 : decode cM_insert 43 = .ok (.imul, 1) := by decide +kernel
theorem dM_insert_44 : decode cM_insert 44 = .ok (.iconst 4, 1) := by decide +kernel
theorem dM_insert_45 : decode cM_insert 45 = .ok (.isub, 1) := by decide +kernel
theorem dM_insert_46 : decode cM_insert 46 = .ok (.iload_n 3, 1) := by decide +kernel
theorem dM_insert_47 : decode cM_insert 47 = .ok (.iadd, 1) := by decide +kernel
theorem dM_insert_48 : decode cM_insert 48 = .ok (.laload, 1) := by decide +kernel
theorem dM_insert_49 : decode cM_insert 49 = .ok (.lastore, 1) := by decide +kernel
theorem dM_insert_50 : decode cM_insert 50 = .ok (.iinc 3 1, 3) := by decide +kernel
theorem dM_insert_53 : decode cM_insert 53 = .ok (.goto (-30), 3) := by decide +kernel
theorem dM_insert_56 : decode cM_insert 56 = .ok (.aload_n 0, 1) := by decide +kernel
theorem dM_insert_57 : decode cM_insert 57 = .ok (.getfield 17, 3) := by decide +kernel
theorem dM_insert_60 : decode cM_insert 60 = .ok (.iload_n 2, 1) := by decide +kernel
theorem dM_insert_61 : decode cM_insert 61 = .ok (.aload_n 0, 1) := by decide +kernel
theorem dM_insert_62 : decode cM_insert 62 = .ok (.getfield 17, 3) := by decide +kernel
theorem dM_insert_65 : decode cM_insert 65 = .ok (.iload_n 2, 1) := by decide +kernel
theorem dM_insert_66 : decode cM_insert 66 = .ok (.iconst 1, 1) := by decide +kernel
theorem dM_insert_67 : decode cM_insert 67 = .ok (.isub, 1) := by decide +kernel
theorem dM_insert_68 : decode cM_insert 68 = .ok (.iaload, 1) := by decide +kernel
theorem dM_insert_69 : decode cM_insert 69 = .ok (.iastore, 1) := by decide +kernel
theorem dM_insert_70 : decode cM_insert 70 = .ok (.iinc 2 (-1), 3) := by decide +kernel
theorem dM_insert_73 : decode cM_insert 73 = .ok (.goto (-68), 3) := by decide +kernel
theorem dM_insert_76 : decode cM_insert 76 = .ok (.aload_n 0, 1) := by decide +kernel
theorem dM_insert_77 : decode cM_insert 77 = .ok (.dup, 1) := by decide +kernel
theorem dM_insert_78 : decode cM_insert 78 = .ok (.getfield 74, 3) := by decide +kernel
theorem dM_insert_81 : decode cM_insert 81 = .ok (.iconst 1, 1) := by decide +kernel
theorem dM_insert_82 : decode cM_insert 82 = .ok (.iadd, 1) := by decide +kernel
theorem dM_insert_83 : decode cM_insert 83 = .ok (.putfield 74, 3) := by decide +kernel
theorem dM_insert_86 : decode cM_insert 86 = .ok (.aload_n 0, 1) := by decide +kernel
theorem dM_insert_87 : decode cM_insert 87 = .ok (.getfield 17, 3) := by decide +kernel
theorem dM_insert_90 : decode cM_insert 90 = .ok (.iload_n 2, 1) := by decide +kernel
theorem dM_insert_91 : decode cM_insert 91 = .ok (.iload_n 1, 1) := by decide +kernel
theorem dM_insert_92 : decode cM_insert 92 = .ok (.iastore, 1) := by decide +kernel
theorem dM_insert_93 : decode cM_insert 93 = .ok (.iconst 0, 1) := by decide +kernel
theorem dM_insert_94 : decode cM_insert 94 = .ok (.istore_n 3, 1) := by decide +kernel
theorem dM_insert_95 : decode cM_insert 95 = .ok (.iload_n 3, 1) := by decide +kernel
theorem dM_insert_96 : decode cM_insert 96 = .ok (.iconst 4, 1) := by decide +kernel
theorem dM_insert_97 : decode cM_insert 97 = .ok (.if_icmp .ge 46, 3) := by decide +kernel
theorem dM_insert_100 : decode cM_insert 100 = .ok (.aload_n 0, 1) := by decide +kernel
theorem dM_insert_101 : decode cM_insert 101 = .ok (.getfield 13, 3) := by decide +kernel
theorem dM_insert_104 : decode cM_insert 104 = .ok (.iconst 4, 1) := by decide +kernel
theorem dM_insert_105 : decode cM_insert 105 = .ok (.iload_n 2, 1) := by decide +kernel
theorem dM_insert_106 : decode cM_insert 106 = .ok (.imul, 1) := by decide +kernel
theorem dM_insert_107 : decode cM_insert 107 = .ok (.iload_n 3, 1) := by decide +kernel
theorem dM_insert_108 : decode cM_insert 108 = .ok (.iadd, 1) := by decide +kernel
theorem dM_insert_109 : decode cM_insert 109 = .ok (.aload_n 0, 1) := by decide +kernel
theorem dM_insert_110 : decode cM_insert 110 = .ok (.getfield 20, 3) := by decide +kernel
theorem dM_insert_113 : decode cM_insert 113 = .ok (.iload_n 1, 1) := by decide +kernel
theorem dM_insert_114 : decode cM_insert 114 = .ok (.laload, 1) := by decide +kernel
theorem dM_insert_115 : decode cM_insert 115 = .ok (.lconst 0, 1) := by decide +kernel
theorem dM_insert_116 : decode cM_insert 116 = .ok (.lcmp, 1) := by decide +kernel
theorem dM_insert_117 : decode cM_insert 117 = .ok (.ifCond .ge 13, 3) := by decide +kernel
theorem dM_insert_120 : decode cM_insert 120 = .ok (.aload_n 0, 1) := by decide +kernel
theorem dM_insert_121 : decode cM_insert 121 = .ok (.getfield 20, 3) := by decide +kernel
theorem dM_insert_124 : decode cM_insert 124 = .ok (.iload_n 3, 1) := by decide +kernel
theorem dM_insert_125 : decode cM_insert 125 = .ok (.laload, 1) := by decide +kernel
theorem dM_insert_126 : decode cM_insert 126 = .ok (.lneg, 1) := by decide +kernel
theorem dM_insert_127 : decode cM_insert 127 = .ok (.goto 9, 3) := by decide +kernel
theorem dM_insert_130 : decode cM_insert 130 = .ok (.aload_n 0, 1) := by decide +kernel
theorem dM_insert_131 : decode cM_insert 131 = .ok (.getfield 20, 3) := by decide +kernel
theorem dM_insert_134 : decode cM_insert 134 = .ok (.iload_n 3, 1) := by decide +kernel
theorem dM_insert_135 : decode cM_insert 135 = .ok (.laload, 1) := by decide +kernel
theorem dM_insert_136 : decode cM_insert 136 = .ok (.lastore, 1) := by decide +kernel
theorem dM_insert_137 : decode cM_insert 137 = .ok (.iinc 3 1, 3) := by decide +kernel
theorem dM_insert_140 : decode cM_insert 140 = .ok (.goto (-45), 3) := by decide +kernel
theorem dM_insert_143 : decode cM_insert 143 = .ok (.return_, 1) := by decide +kernel
noncomputable def lM_insert_23 (F : Nat) (v1 : Int32) (v2 : Int32) : Nat → Int32 → (Nat → Int64) → Option ((Nat → Int64))
  | 0, _, _ => none
  | n + 1, v3, x_row => if (4 : Int32) ≤ v3 then some (x_row) else gd (vp_in ((((4 : Int32) * v2) - (4 : Int32)) + v3) 16) (gd (vp_in (((4 : Int32) * v2) + v3) 16) (lM_insert_23 F v1 v2 n (v3 + 1) (vp_updL x_row (((4 : Int32) * v2) + v3).toNatClampNeg (x_row ((((4 : Int32) * v2) - (4 : Int32)) + v3).toNatClampNeg))))
set_option maxHeartbeats 8000000 in
set_option maxRecDepth 100000 in
theorem lM_insert_23_ok {g : Gm} {κ : ctx} (G : OK g κ RM cM_insert 4 none rm_M_insert) (X : Nat → va_E) (F : Nat) {x_many : Int32} {x_generator : Nat → Int32} {x_known : Int32} {x_without : Int32} {x_rows : Int32} {x_pivot : Nat → Int32} {x_fresh : Nat → Int64} {x_multiple : Nat → Int64} {x_last : Nat → Int64} {x_made : Nat → Int64} {x_settled : Nat → Int64} {x_point : Nat → Int64} {x_limit : Int64} {x_mode : Int32} {x_counted : Int32} {x_listed : Int32} {x_held : Int32} {x_first : Nat → Int64} {x_squares : Nat → Int64} {x_wanted : Int32} {x_spanned : Int32} {x_span : Nat → Int64} {x_minima : Nat → Int32} {x_measured : Int32} {x_found : Nat → Int64} {x_any : Int32} (v1 : Int32) (v2 : Int32) : ∀ (n : Nat) (v3 : Int32) (x_row : Nat → Int64) (out : (Nat → Int64)), lM_insert_23 F  v1 v2 n v3 x_row = some out → (J g κ 4 56 [(0, .ref (κ.1 0)), (1, .int v1), (2, .int v2)] [] (LM κ (x_many, x_generator, x_known, x_without, x_rows, out, x_pivot, x_fresh, x_multiple, x_last, x_made, x_settled, x_point, x_limit, x_mode, x_counted, x_listed, x_held, x_first, x_squares, x_wanted, x_spanned, x_span, x_minima, x_measured, x_found, x_any) X)) → J g κ 4 23 [(0, .ref (κ.1 0)), (1, .int v1), (2, .int v2), (3, .int v3)] [] (LM κ (x_many, x_generator, x_known, x_without, x_rows, x_row, x_pivot, x_fresh, x_multiple, x_last, x_made, x_settled, x_point, x_limit, x_mode, x_counted, x_listed, x_held, x_first, x_squares, x_wanted, x_spanned, x_span, x_minima, x_measured, x_found, x_any) X) := by
  intro n
  induction n with
  | zero =>
    intro v3 x_row
    intro out h
    rw [lM_insert_23] at h
    cases h
  | succ n ih =>
    intro v3 x_row out h K
    rw [lM_insert_23] at h
    refine w_iload_n (pc := 23) (q := 3) G dM_insert_23 rfl rfl ?_
    refine w_iconst (pc := 24) (v := (4 : Int32)) G dM_insert_24 (by decide) ?_
    refine w_icmp_ge (pc := 25) (tgt := 56) G dM_insert_25 (by decide) (fun c25 => ?_) (fun c25 => ?_)
    · have h := if_t c25 h
      obtain rfl := Option.some.inj h
      refine w_sub (lv' := [(0, .ref (κ.1 0)), (1, .int v1), (2, .int v2)]) [0, 1, 2] rfl ?_
      exact K
    · have h := if_f c25 h
      refine w_aload_n (pc := 28) (q := 0) G dM_insert_28 rfl rfl ?_
      refine w_get (pc := 29) (v := .ref (κ.1 2)) (fs := fl_M κ (x_many, x_generator, x_known, x_without, x_rows, x_row, x_pivot, x_fresh, x_multiple, x_last, x_made, x_settled, x_point, x_limit, x_mode, x_counted, x_listed, x_held, x_first, x_squares, x_wanted, x_spanned, x_span, x_minima, x_measured, x_found, x_any)) G 0 (by decide) lb_M rfl wsM_ok 5 (by decide) wd495 gf_M_5 dM_insert_29 ?_
      refine w_iconst (pc := 32) (v := (4 : Int32)) G dM_insert_32 (by decide) ?_
      refine w_iload_n (pc := 33) (q := 2) G dM_insert_33 rfl rfl ?_
      refine w_imul (pc := 34) G dM_insert_34 ?_
      refine w_iload_n (pc := 35) (q := 3) G dM_insert_35 rfl rfl ?_
      refine w_iadd (pc := 36) G dM_insert_36 ?_
      refine w_aload_n (pc := 37) (q := 0) G dM_insert_37 rfl rfl ?_
      refine w_get (pc := 38) (v := .ref (κ.1 2)) (fs := fl_M κ (x_many, x_generator, x_known, x_without, x_rows, x_row, x_pivot, x_fresh, x_multiple, x_last, x_made, x_settled, x_point, x_limit, x_mode, x_counted, x_listed, x_held, x_first, x_squares, x_wanted, x_spanned, x_span, x_minima, x_measured, x_found, x_any)) G 0 (by decide) lb_M rfl wsM_ok 5 (by decide) wd495 gf_M_5 dM_insert_38 ?_
      refine w_iconst (pc := 41) (v := (4 : Int32)) G dM_insert_41 (by decide) ?_
      refine w_iload_n (pc := 42) (q := 2) G dM_insert_42 rfl rfl ?_
      refine w_imul (pc := 43) G dM_insert_43 ?_
      refine w_iconst (pc := 44) (v := (4 : Int32)) G dM_insert_44 (by decide) ?_
      refine w_isub (pc := 45) G dM_insert_45 ?_
      refine w_iload_n (pc := 46) (q := 3) G dM_insert_46 rfl rfl ?_
      refine w_iadd (pc := 47) G dM_insert_47 ?_
      obtain ⟨i48, h⟩ := gd_some h
      refine w_lald (pc := 48) (n := 16) (f := x_row) G 2 (by decide) lk_row i48 dM_insert_48 ?_
      obtain ⟨i49, h⟩ := gd_some h
      refine w_last (pc := 49) (n := 16) (f := x_row) (L1 := (LM κ (x_many, x_generator, x_known, x_without, x_rows, vp_updL x_row (((4 : Int32) * v2) + v3).toNatClampNeg (x_row ((((4 : Int32) * v2) - (4 : Int32)) + v3).toNatClampNeg), x_pivot, x_fresh, x_multiple, x_last, x_made, x_settled, x_point, x_limit, x_mode, x_counted, x_listed, x_held, x_first, x_squares, x_wanted, x_spanned, x_span, x_minima, x_measured, x_found, x_any) X)) G 2 (by decide) lk_row i49 dM_insert_49 up_row ?_
      refine w_iinc (pc := 50) (q0 := 3) (v := (v3 + 1)) (lv' := [(3, .int (v3 + 1)), (0, .ref (κ.1 0)), (1, .int v1), (2, .int v2)]) G dM_insert_50 rfl rfl (by decide) rfl ?_
      refine w_goto (pc := 53) (tgt := 23) G dM_insert_53 (by decide) ?_
      refine w_sub (lv' := [(0, .ref (κ.1 0)), (1, .int v1), (2, .int v2), (3, .int (v3 + 1))]) [1, 2, 3, 0] rfl ?_
      exact ih (v3 + 1) (vp_updL x_row (((4 : Int32) * v2) + v3).toNatClampNeg (x_row ((((4 : Int32) * v2) - (4 : Int32)) + v3).toNatClampNeg)) out h K
noncomputable def lM_insert_5 (F : Nat) (v1 : Int32) : Nat → Int32 → (Nat → Int64) → (Nat → Int32) → Option (Int32 × (Nat → Int64) × (Nat → Int32))
  | 0, _, _, _ => none
  | n + 1, v2, x_row, x_pivot => if v2 ≤ 0 then some (v2, x_row, x_pivot) else gd (vp_in (v2 - (1 : Int32)) 5) (if (x_pivot (v2 - (1 : Int32)).toNatClampNeg) ≤ v1 then some (v2, x_row, x_pivot) else (lM_insert_23 F v1 v2 F (0 : Int32) x_row).bind (fun o23_20 => gd (vp_in (v2 - (1 : Int32)) 5) (gd (vp_in v2 5) (lM_insert_5 F v1 n (v2 + (-1)) o23_20 (upd x_pivot v2.toNatClampNeg (x_pivot (v2 - (1 : Int32)).toNatClampNeg))))))
set_option maxHeartbeats 8000000 in
set_option maxRecDepth 100000 in
theorem lM_insert_5_ok {g : Gm} {κ : ctx} (G : OK g κ RM cM_insert 4 none rm_M_insert) (X : Nat → va_E) (F : Nat) {x_many : Int32} {x_generator : Nat → Int32} {x_known : Int32} {x_without : Int32} {x_rows : Int32} {x_fresh : Nat → Int64} {x_multiple : Nat → Int64} {x_last : Nat → Int64} {x_made : Nat → Int64} {x_settled : Nat → Int64} {x_point : Nat → Int64} {x_limit : Int64} {x_mode : Int32} {x_counted : Int32} {x_listed : Int32} {x_held : Int32} {x_first : Nat → Int64} {x_squares : Nat → Int64} {x_wanted : Int32} {x_spanned : Int32} {x_span : Nat → Int64} {x_minima : Nat → Int32} {x_measured : Int32} {x_found : Nat → Int64} {x_any : Int32} (v1 : Int32) : ∀ (n : Nat) (v2 : Int32) (x_row : Nat → Int64) (x_pivot : Nat → Int32) (out : Int32 × (Nat → Int64) × (Nat → Int32)), lM_insert_5 F  v1 n v2 x_row x_pivot = some out → (J g κ 4 76 [(0, .ref (κ.1 0)), (1, .int v1), (2, .int out.1)] [] (LM κ (x_many, x_generator, x_known, x_without, x_rows, out.2.1, out.2.2, x_fresh, x_multiple, x_last, x_made, x_settled, x_point, x_limit, x_mode, x_counted, x_listed, x_held, x_first, x_squares, x_wanted, x_spanned, x_span, x_minima, x_measured, x_found, x_any) X)) → J g κ 4 5 [(0, .ref (κ.1 0)), (1, .int v1), (2, .int v2)] [] (LM κ (x_many, x_generator, x_known, x_without, x_rows, x_row, x_pivot, x_fresh, x_multiple, x_last, x_made, x_settled, x_point, x_limit, x_mode, x_counted, x_listed, x_held, x_first, x_squares, x_wanted, x_spanned, x_span, x_minima, x_measured, x_found, x_any) X) := by
  intro n
  induction n with
  | zero =>
    intro v2 x_row x_pivot
    intro out h
    rw [lM_insert_5] at h
    cases h
  | succ n ih =>
    intro v2 x_row x_pivot out h K
    rw [lM_insert_5] at h
    refine w_iload_n (pc := 5) (q := 2) G dM_insert_5 rfl rfl ?_
    refine w_if_le (pc := 6) (tgt := 76) G dM_insert_6 (by decide) (fun c6 => ?_) (fun c6 => ?_)
    · have h := if_t c6 h
      obtain rfl := Option.some.inj h
      refine w_sub (lv' := [(0, .ref (κ.1 0)), (1, .int v1), (2, .int v2)]) [0, 1, 2] rfl ?_
      exact K
    · have h := if_f c6 h
      refine w_aload_n (pc := 9) (q := 0) G dM_insert_9 rfl rfl ?_
      refine w_get (pc := 10) (v := .ref (κ.1 3)) (fs := fl_M κ (x_many, x_generator, x_known, x_without, x_rows, x_row, x_pivot, x_fresh, x_multiple, x_last, x_made, x_settled, x_point, x_limit, x_mode, x_counted, x_listed, x_held, x_first, x_squares, x_wanted, x_spanned, x_span, x_minima, x_measured, x_found, x_any)) G 0 (by decide) lb_M rfl wsM_ok 6 (by decide) wd496 gf_M_6 dM_insert_10 ?_
      refine w_iload_n (pc := 13) (q := 2) G dM_insert_13 rfl rfl ?_
      refine w_iconst (pc := 14) (v := (1 : Int32)) G dM_insert_14 (by decide) ?_
      refine w_isub (pc := 15) G dM_insert_15 ?_
      obtain ⟨i16, h⟩ := gd_some h
      refine w_iald (pc := 16) (n := 5) (f := x_pivot) G 3 (by decide) lk_pivot i16 dM_insert_16 ?_
      refine w_iload_n (pc := 17) (q := 1) G dM_insert_17 rfl rfl ?_
      refine w_icmp_le (pc := 18) (tgt := 76) G dM_insert_18 (by decide) (fun c18 => ?_) (fun c18 => ?_)
      · have h := if_t c18 h
        obtain rfl := Option.some.inj h
        refine w_sub (lv' := [(0, .ref (κ.1 0)), (1, .int v1), (2, .int v2)]) [0, 1, 2] rfl ?_
        exact K
      · have h := if_f c18 h
        refine w_iconst (pc := 21) (v := (0 : Int32)) G dM_insert_21 (by decide) ?_
        refine w_istore_n (pc := 22) (lv' := [(3, .int (0 : Int32)), (0, .ref (κ.1 0)), (1, .int v1), (2, .int v2)]) G dM_insert_22 rfl (by decide) rfl ?_
        refine w_sub (lv' := [(0, .ref (κ.1 0)), (1, .int v1), (2, .int v2), (3, .int (0 : Int32))]) [1, 2, 3, 0] rfl ?_
        obtain ⟨o23_20, eo23_20, h⟩ := bd h
        refine lM_insert_23_ok G X F v1 v2 F (0 : Int32) x_row o23_20 eo23_20 ?_
        refine w_aload_n (pc := 56) (q := 0) G dM_insert_56 rfl rfl ?_
        refine w_get (pc := 57) (v := .ref (κ.1 3)) (fs := fl_M κ (x_many, x_generator, x_known, x_without, x_rows, o23_20, x_pivot, x_fresh, x_multiple, x_last, x_made, x_settled, x_point, x_limit, x_mode, x_counted, x_listed, x_held, x_first, x_squares, x_wanted, x_spanned, x_span, x_minima, x_measured, x_found, x_any)) G 0 (by decide) lb_M rfl wsM_ok 6 (by decide) wd496 gf_M_6 dM_insert_57 ?_
        refine w_iload_n (pc := 60) (q := 2) G dM_insert_60 rfl rfl ?_
        refine w_aload_n (pc := 61) (q := 0) G dM_insert_61 rfl rfl ?_
        refine w_get (pc := 62) (v := .ref (κ.1 3)) (fs := fl_M κ (x_many, x_generator, x_known, x_without, x_rows, o23_20, x_pivot, x_fresh, x_multiple, x_last, x_made, x_settled, x_point, x_limit, x_mode, x_counted, x_listed, x_held, x_first, x_squares, x_wanted, x_spanned, x_span, x_minima, x_measured, x_found, x_any)) G 0 (by decide) lb_M rfl wsM_ok 6 (by decide) wd496 gf_M_6 dM_insert_62 ?_
        refine w_iload_n (pc := 65) (q := 2) G dM_insert_65 rfl rfl ?_
        refine w_iconst (pc := 66) (v := (1 : Int32)) G dM_insert_66 (by decide) ?_
        refine w_isub (pc := 67) G dM_insert_67 ?_
        obtain ⟨i68, h⟩ := gd_some h
        refine w_iald (pc := 68) (n := 5) (f := x_pivot) G 3 (by decide) lk_pivot i68 dM_insert_68 ?_
        obtain ⟨i69, h⟩ := gd_some h
        refine w_iast (pc := 69) (n := 5) (f := x_pivot) (L1 := (LM κ (x_many, x_generator, x_known, x_without, x_rows, o23_20, upd x_pivot v2.toNatClampNeg (x_pivot (v2 - (1 : Int32)).toNatClampNeg), x_fresh, x_multiple, x_last, x_made, x_settled, x_point, x_limit, x_mode, x_counted, x_listed, x_held, x_first, x_squares, x_wanted, x_spanned, x_span, x_minima, x_measured, x_found, x_any) X)) G 3 (by decide) lk_pivot i69 dM_insert_69 up_pivot ?_
        refine w_iinc (pc := 70) (q0 := 2) (v := (v2 + (-1))) (lv' := [(2, .int (v2 + (-1))), (0, .ref (κ.1 0)), (1, .int v1)]) G dM_insert_70 rfl rfl (by decide) rfl ?_
        refine w_goto (pc := 73) (tgt := 5) G dM_insert_73 (by decide) ?_
        refine w_sub (lv' := [(0, .ref (κ.1 0)), (1, .int v1), (2, .int (v2 + (-1)))]) [1, 2, 0] rfl ?_
        exact ih (v2 + (-1)) o23_20 (upd x_pivot v2.toNatClampNeg (x_pivot (v2 - (1 : Int32)).toNatClampNeg)) out h K
noncomputable def lM_insert_95 (F : Nat) (x_fresh : Nat → Int64) (v1 : Int32) (v2 : Int32) : Nat → Int32 → (Nat → Int64) → Option ((Nat → Int64))
  | 0, _, _ => none
  | n + 1, v3, x_row => if (4 : Int32) ≤ v3 then some (x_row) else gd (vp_in v1 4) (if (0 : Int64) ≤ (x_fresh v1.toNatClampNeg) then gd (vp_in v3 4) (gd (vp_in (((4 : Int32) * v2) + v3) 16) (lM_insert_95 F x_fresh v1 v2 n (v3 + 1) (vp_updL x_row (((4 : Int32) * v2) + v3).toNatClampNeg (x_fresh v3.toNatClampNeg)))) else gd (vp_in v3 4) (gd (vp_in (((4 : Int32) * v2) + v3) 16) (lM_insert_95 F x_fresh v1 v2 n (v3 + 1) (vp_updL x_row (((4 : Int32) * v2) + v3).toNatClampNeg (-(x_fresh v3.toNatClampNeg))))))
set_option maxHeartbeats 8000000 in
set_option maxRecDepth 100000 in
theorem lM_insert_95_ok {g : Gm} {κ : ctx} (G : OK g κ RM cM_insert 4 none rm_M_insert) (X : Nat → va_E) (F : Nat) {x_many : Int32} {x_generator : Nat → Int32} {x_known : Int32} {x_without : Int32} {x_rows : Int32} {x_pivot : Nat → Int32} {x_fresh : Nat → Int64} {x_multiple : Nat → Int64} {x_last : Nat → Int64} {x_made : Nat → Int64} {x_settled : Nat → Int64} {x_point : Nat → Int64} {x_limit : Int64} {x_mode : Int32} {x_counted : Int32} {x_listed : Int32} {x_held : Int32} {x_first : Nat → Int64} {x_squares : Nat → Int64} {x_wanted : Int32} {x_spanned : Int32} {x_span : Nat → Int64} {x_minima : Nat → Int32} {x_measured : Int32} {x_found : Nat → Int64} {x_any : Int32} (v1 : Int32) (v2 : Int32) : ∀ (n : Nat) (v3 : Int32) (x_row : Nat → Int64) (out : (Nat → Int64)), lM_insert_95 F x_fresh v1 v2 n v3 x_row = some out → (J g κ 4 143 [] [] (LM κ (x_many, x_generator, x_known, x_without, x_rows, out, x_pivot, x_fresh, x_multiple, x_last, x_made, x_settled, x_point, x_limit, x_mode, x_counted, x_listed, x_held, x_first, x_squares, x_wanted, x_spanned, x_span, x_minima, x_measured, x_found, x_any) X)) → J g κ 4 95 [(0, .ref (κ.1 0)), (1, .int v1), (2, .int v2), (3, .int v3)] [] (LM κ (x_many, x_generator, x_known, x_without, x_rows, x_row, x_pivot, x_fresh, x_multiple, x_last, x_made, x_settled, x_point, x_limit, x_mode, x_counted, x_listed, x_held, x_first, x_squares, x_wanted, x_spanned, x_span, x_minima, x_measured, x_found, x_any) X) := by
  intro n
  induction n with
  | zero =>
    intro v3 x_row
    intro out h
    rw [lM_insert_95] at h
    cases h
  | succ n ih =>
    intro v3 x_row out h K
    rw [lM_insert_95] at h
    refine w_iload_n (pc := 95) (q := 3) G dM_insert_95 rfl rfl ?_
    refine w_iconst (pc := 96) (v := (4 : Int32)) G dM_insert_96 (by decide) ?_
    refine w_icmp_ge (pc := 97) (tgt := 143) G dM_insert_97 (by decide) (fun c97 => ?_) (fun c97 => ?_)
    · have h := if_t c97 h
      obtain rfl := Option.some.inj h
      refine w_sub (lv' := []) [] rfl ?_
      exact K
    · have h := if_f c97 h
      refine w_aload_n (pc := 100) (q := 0) G dM_insert_100 rfl rfl ?_
      refine w_get (pc := 101) (v := .ref (κ.1 2)) (fs := fl_M κ (x_many, x_generator, x_known, x_without, x_rows, x_row, x_pivot, x_fresh, x_multiple, x_last, x_made, x_settled, x_point, x_limit, x_mode, x_counted, x_listed, x_held, x_first, x_squares, x_wanted, x_spanned, x_span, x_minima, x_measured, x_found, x_any)) G 0 (by decide) lb_M rfl wsM_ok 5 (by decide) wd495 gf_M_5 dM_insert_101 ?_
      refine w_iconst (pc := 104) (v := (4 : Int32)) G dM_insert_104 (by decide) ?_
      refine w_iload_n (pc := 105) (q := 2) G dM_insert_105 rfl rfl ?_
      refine w_imul (pc := 106) G dM_insert_106 ?_
      refine w_iload_n (pc := 107) (q := 3) G dM_insert_107 rfl rfl ?_
      refine w_iadd (pc := 108) G dM_insert_108 ?_
      refine w_aload_n (pc := 109) (q := 0) G dM_insert_109 rfl rfl ?_
      refine w_get (pc := 110) (v := .ref (κ.1 4)) (fs := fl_M κ (x_many, x_generator, x_known, x_without, x_rows, x_row, x_pivot, x_fresh, x_multiple, x_last, x_made, x_settled, x_point, x_limit, x_mode, x_counted, x_listed, x_held, x_first, x_squares, x_wanted, x_spanned, x_span, x_minima, x_measured, x_found, x_any)) G 0 (by decide) lb_M rfl wsM_ok 7 (by decide) wd497 gf_M_7 dM_insert_110 ?_
      refine w_iload_n (pc := 113) (q := 1) G dM_insert_113 rfl rfl ?_
      obtain ⟨i114, h⟩ := gd_some h
      refine w_lald (pc := 114) (n := 4) (f := x_fresh) G 4 (by decide) lk_fresh i114 dM_insert_114 ?_
      refine w_lconst (pc := 115) (v := (0 : Int64)) G dM_insert_115 (by decide) ?_
      refine w_lc_ge (pc := 116) (tgt := 130) G dM_insert_116 dM_insert_117 (by decide) (fun c116 => ?_) (fun c116 => ?_)
      · have h := if_t c116 h
        refine w_aload_n (pc := 130) (q := 0) G dM_insert_130 rfl rfl ?_
        refine w_get (pc := 131) (v := .ref (κ.1 4)) (fs := fl_M κ (x_many, x_generator, x_known, x_without, x_rows, x_row, x_pivot, x_fresh, x_multiple, x_last, x_made, x_settled, x_point, x_limit, x_mode, x_counted, x_listed, x_held, x_first, x_squares, x_wanted, x_spanned, x_span, x_minima, x_measured, x_found, x_any)) G 0 (by decide) lb_M rfl wsM_ok 7 (by decide) wd497 gf_M_7 dM_insert_131 ?_
        refine w_iload_n (pc := 134) (q := 3) G dM_insert_134 rfl rfl ?_
        obtain ⟨i135, h⟩ := gd_some h
        refine w_lald (pc := 135) (n := 4) (f := x_fresh) G 4 (by decide) lk_fresh i135 dM_insert_135 ?_
        obtain ⟨i136, h⟩ := gd_some h
        refine w_last (pc := 136) (n := 16) (f := x_row) (L1 := (LM κ (x_many, x_generator, x_known, x_without, x_rows, vp_updL x_row (((4 : Int32) * v2) + v3).toNatClampNeg (x_fresh v3.toNatClampNeg), x_pivot, x_fresh, x_multiple, x_last, x_made, x_settled, x_point, x_limit, x_mode, x_counted, x_listed, x_held, x_first, x_squares, x_wanted, x_spanned, x_span, x_minima, x_measured, x_found, x_any) X)) G 2 (by decide) lk_row i136 dM_insert_136 up_row ?_
        refine w_iinc (pc := 137) (q0 := 3) (v := (v3 + 1)) (lv' := [(3, .int (v3 + 1)), (0, .ref (κ.1 0)), (1, .int v1), (2, .int v2)]) G dM_insert_137 rfl rfl (by decide) rfl ?_
        refine w_goto (pc := 140) (tgt := 95) G dM_insert_140 (by decide) ?_
        refine w_sub (lv' := [(0, .ref (κ.1 0)), (1, .int v1), (2, .int v2), (3, .int (v3 + 1))]) [1, 2, 3, 0] rfl ?_
        exact ih (v3 + 1) (vp_updL x_row (((4 : Int32) * v2) + v3).toNatClampNeg (x_fresh v3.toNatClampNeg)) out h K
      · have h := if_f c116 h
        refine w_aload_n (pc := 120) (q := 0) G dM_insert_120 rfl rfl ?_
        refine w_get (pc := 121) (v := .ref (κ.1 4)) (fs := fl_M κ (x_many, x_generator, x_known, x_without, x_rows, x_row, x_pivot, x_fresh, x_multiple, x_last, x_made, x_settled, x_point, x_limit, x_mode, x_counted, x_listed, x_held, x_first, x_squares, x_wanted, x_spanned, x_span, x_minima, x_measured, x_found, x_any)) G 0 (by decide) lb_M rfl wsM_ok 7 (by decide) wd497 gf_M_7 dM_insert_121 ?_
        refine w_iload_n (pc := 124) (q := 3) G dM_insert_124 rfl rfl ?_
        obtain ⟨i125, h⟩ := gd_some h
        refine w_lald (pc := 125) (n := 4) (f := x_fresh) G 4 (by decide) lk_fresh i125 dM_insert_125 ?_
        refine w_lneg (pc := 126) G dM_insert_126 ?_
        refine w_goto (pc := 127) (tgt := 136) G dM_insert_127 (by decide) ?_
        obtain ⟨i136, h⟩ := gd_some h
        refine w_last (pc := 136) (n := 16) (f := x_row) (L1 := (LM κ (x_many, x_generator, x_known, x_without, x_rows, vp_updL x_row (((4 : Int32) * v2) + v3).toNatClampNeg (-(x_fresh v3.toNatClampNeg)), x_pivot, x_fresh, x_multiple, x_last, x_made, x_settled, x_point, x_limit, x_mode, x_counted, x_listed, x_held, x_first, x_squares, x_wanted, x_spanned, x_span, x_minima, x_measured, x_found, x_any) X)) G 2 (by decide) lk_row i136 dM_insert_136 up_row ?_
        refine w_iinc (pc := 137) (q0 := 3) (v := (v3 + 1)) (lv' := [(3, .int (v3 + 1)), (0, .ref (κ.1 0)), (1, .int v1), (2, .int v2)]) G dM_insert_137 rfl rfl (by decide) rfl ?_
        refine w_goto (pc := 140) (tgt := 95) G dM_insert_140 (by decide) ?_
        refine w_sub (lv' := [(0, .ref (κ.1 0)), (1, .int v1), (2, .int v2), (3, .int (v3 + 1))]) [1, 2, 3, 0] rfl ?_
        exact ih (v3 + 1) (vp_updL x_row (((4 : Int32) * v2) + v3).toNatClampNeg (-(x_fresh v3.toNatClampNeg))) out h K
noncomputable def M_insert (F : Nat) (x_rows : Int32) (x_row : Nat → Int64) (x_pivot : Nat → Int32) (x_fresh : Nat → Int64) (v1 : Int32) : Option (Int32 × (Nat → Int64) × (Nat → Int32)) := (lM_insert_5 F v1 F x_rows x_row x_pivot).bind (fun o5_20 => gd (vp_in o5_20.1 5) ((lM_insert_95 F x_fresh v1 o5_20.1 F (0 : Int32) o5_20.2.1).bind (fun o95_30 => some ((x_rows + (1 : Int32)), o95_30, upd o5_20.2.2 o5_20.1.toNatClampNeg v1))))
set_option maxHeartbeats 8000000 in
set_option maxRecDepth 100000 in
theorem met_M_insert (κ : ctx) (X : Nat → va_E) (F : Nat) {x_many : Int32} {x_generator : Nat → Int32} {x_known : Int32} {x_without : Int32} {x_rows : Int32} {x_row : Nat → Int64} {x_pivot : Nat → Int32} {x_fresh : Nat → Int64} {x_multiple : Nat → Int64} {x_last : Nat → Int64} {x_made : Nat → Int64} {x_settled : Nat → Int64} {x_point : Nat → Int64} {x_limit : Int64} {x_mode : Int32} {x_counted : Int32} {x_listed : Int32} {x_held : Int32} {x_first : Nat → Int64} {x_squares : Nat → Int64} {x_wanted : Int32} {x_spanned : Int32} {x_span : Nat → Int64} {x_minima : Nat → Int32} {x_measured : Int32} {x_found : Nat → Int64} {x_any : Int32} (v1 : Int32) {out : Int32 × (Nat → Int64) × (Nat → Int32)} (h : M_insert F x_rows x_row x_pivot x_fresh v1 = some out) : Mt yM_insert cM_insert 4 none rm_M_insert κ [.ref (κ.1 0), .int v1] (LM κ (x_many, x_generator, x_known, x_without, x_rows, x_row, x_pivot, x_fresh, x_multiple, x_last, x_made, x_settled, x_point, x_limit, x_mode, x_counted, x_listed, x_held, x_first, x_squares, x_wanted, x_spanned, x_span, x_minima, x_measured, x_found, x_any) X) none (LM κ (x_many, x_generator, x_known, x_without, out.1, out.2.1, out.2.2, x_fresh, x_multiple, x_last, x_made, x_settled, x_point, x_limit, x_mode, x_counted, x_listed, x_held, x_first, x_squares, x_wanted, x_spanned, x_span, x_minima, x_measured, x_found, x_any) X) := by
  refine Mt.of (by decide) (Nat.le_of_ble_eq_true rfl) ?_
  intro g G Fh
  unfold M_insert at h
  show J g κ 4 0 [(0, .ref (κ.1 0)), (1, .int v1)] [] (LM κ (x_many, x_generator, x_known, x_without, x_rows, x_row, x_pivot, x_fresh, x_multiple, x_last, x_made, x_settled, x_point, x_limit, x_mode, x_counted, x_listed, x_held, x_first, x_squares, x_wanted, x_spanned, x_span, x_minima, x_measured, x_found, x_any) X)
  refine w_aload_n (pc := 0) (q := 0) G dM_insert_0 rfl rfl ?_
  refine w_get (pc := 1) (v := .int x_rows) (fs := fl_M κ (x_many, x_generator, x_known, x_without, x_rows, x_row, x_pivot, x_fresh, x_multiple, x_last, x_made, x_settled, x_point, x_limit, x_mode, x_counted, x_listed, x_held, x_first, x_squares, x_wanted, x_spanned, x_span, x_minima, x_measured, x_found, x_any)) G 0 (by decide) lb_M rfl wsM_ok 4 (by decide) wd494 gf_M_4 dM_insert_1 ?_
  refine w_istore_n (pc := 4) (lv' := [(2, .int x_rows), (0, .ref (κ.1 0)), (1, .int v1)]) G dM_insert_4 rfl (by decide) rfl ?_
  refine w_sub (lv' := [(0, .ref (κ.1 0)), (1, .int v1), (2, .int x_rows)]) [1, 2, 0] rfl ?_
  obtain ⟨o5_20, eo5_20, h⟩ := bd h
  refine lM_insert_5_ok G X F v1 F x_rows x_row x_pivot o5_20 eo5_20 ?_
  refine w_aload_n (pc := 76) (q := 0) G dM_insert_76 rfl rfl ?_
  refine w_dup (pc := 77) G dM_insert_77 rfl ?_
  refine w_get (pc := 78) (v := .int x_rows) (fs := fl_M κ (x_many, x_generator, x_known, x_without, x_rows, o5_20.2.1, o5_20.2.2, x_fresh, x_multiple, x_last, x_made, x_settled, x_point, x_limit, x_mode, x_counted, x_listed, x_held, x_first, x_squares, x_wanted, x_spanned, x_span, x_minima, x_measured, x_found, x_any)) G 0 (by decide) lb_M rfl wsM_ok 4 (by decide) wd494 gf_M_4 dM_insert_78 ?_
  refine w_iconst (pc := 81) (v := (1 : Int32)) G dM_insert_81 (by decide) ?_
  refine w_iadd (pc := 82) G dM_insert_82 ?_
  refine w_put (pc := 83) (fs := fl_M κ (x_many, x_generator, x_known, x_without, x_rows, o5_20.2.1, o5_20.2.2, x_fresh, x_multiple, x_last, x_made, x_settled, x_point, x_limit, x_mode, x_counted, x_listed, x_held, x_first, x_squares, x_wanted, x_spanned, x_span, x_minima, x_measured, x_found, x_any)) (L1 := (LM κ (x_many, x_generator, x_known, x_without, (x_rows + (1 : Int32)), o5_20.2.1, o5_20.2.2, x_fresh, x_multiple, x_last, x_made, x_settled, x_point, x_limit, x_mode, x_counted, x_listed, x_held, x_first, x_squares, x_wanted, x_spanned, x_span, x_minima, x_measured, x_found, x_any) X)) G 0 (by decide) lb_M rfl wsM_ok tyM tyM_ok nmM 4 (by decide) wd494 rfl rfl rfl (Nat.le_of_ble_eq_true rfl) dM_insert_83 upf_rows ?_
  refine w_aload_n (pc := 86) (q := 0) G dM_insert_86 rfl rfl ?_
  refine w_get (pc := 87) (v := .ref (κ.1 3)) (fs := fl_M κ (x_many, x_generator, x_known, x_without, (x_rows + (1 : Int32)), o5_20.2.1, o5_20.2.2, x_fresh, x_multiple, x_last, x_made, x_settled, x_point, x_limit, x_mode, x_counted, x_listed, x_held, x_first, x_squares, x_wanted, x_spanned, x_span, x_minima, x_measured, x_found, x_any)) G 0 (by decide) lb_M rfl wsM_ok 6 (by decide) wd496 gf_M_6 dM_insert_87 ?_
  refine w_iload_n (pc := 90) (q := 2) G dM_insert_90 rfl rfl ?_
  refine w_iload_n (pc := 91) (q := 1) G dM_insert_91 rfl rfl ?_
  obtain ⟨i92, h⟩ := gd_some h
  refine w_iast (pc := 92) (n := 5) (f := o5_20.2.2) (L1 := (LM κ (x_many, x_generator, x_known, x_without, (x_rows + (1 : Int32)), o5_20.2.1, upd o5_20.2.2 o5_20.1.toNatClampNeg v1, x_fresh, x_multiple, x_last, x_made, x_settled, x_point, x_limit, x_mode, x_counted, x_listed, x_held, x_first, x_squares, x_wanted, x_spanned, x_span, x_minima, x_measured, x_found, x_any) X)) G 3 (by decide) lk_pivot i92 dM_insert_92 up_pivot ?_
  refine w_iconst (pc := 93) (v := (0 : Int32)) G dM_insert_93 (by decide) ?_
  refine w_istore_n (pc := 94) (lv' := [(3, .int (0 : Int32)), (0, .ref (κ.1 0)), (1, .int v1), (2, .int o5_20.1)]) G dM_insert_94 rfl (by decide) rfl ?_
  refine w_sub (lv' := [(0, .ref (κ.1 0)), (1, .int v1), (2, .int o5_20.1), (3, .int (0 : Int32))]) [1, 2, 3, 0] rfl ?_
  obtain ⟨o95_30, eo95_30, h⟩ := bd h
  refine lM_insert_95_ok G X F v1 o5_20.1 F (0 : Int32) o5_20.2.1 o95_30 eo95_30 ?_
  obtain rfl := Option.some.inj h
  exact w_vret (pc := 143) G dM_insert_143 Fh
def rm_M_swap : Room := { frames := 0, cells := 0, slots := 0, locals := 0 }
theorem dM_swap_0 : decode cM_swap 0 = .ok (.iconst 0, 1) := by decide +kernel
theorem dM_swap_1 : decode cM_swap 1 = .ok (.istore_n 2, 1) := by decide +kernel
theorem dM_swap_2 : decode cM_swap 2 = .ok (.iload_n 2, 1) := by decide +kernel
theorem dM_swap_3 : decode cM_swap 3 = .ok (.iconst 4, 1) := by decide +kernel
theorem dM_swap_4 : decode cM_swap 4 = .ok (.if_icmp .ge 43, 3) := by decide +kernel
theorem dM_swap_7 : decode cM_swap 7 = .ok (.aload_n 0, 1) := by decide +kernel
theorem dM_swap_8 : decode cM_swap 8 = .ok (.getfield 20, 3) := by decide +kernel
theorem dM_swap_11 : decode cM_swap 11 = .ok (.iload_n 2, 1) := by decide +kernel
theorem dM_swap_12 : decode cM_swap 12 = .ok (.laload, 1) := by decide +kernel
theorem dM_swap_13 : decode cM_swap 13 = .ok (.lstore_n 3, 1) := by decide +kernel
theorem dM_swap_14 : decode cM_swap 14 = .ok (.aload_n 0, 1) := by decide +kernel
theorem dM_swap_15 : decode cM_swap 15 = .ok (.getfield 20, 3) := by decide +kernel
theorem dM_swap_18 : decode cM_swap 18 = .ok (.iload_n 2, 1) := by decide +kernel
theorem dM_swap_19 : decode cM_swap 19 = .ok (.aload_n 0, 1) := by decide +kernel
theorem dM_swap_20 : decode cM_swap 20 = .ok (.getfield 13, 3) := by decide +kernel
theorem dM_swap_23 : decode cM_swap 23 = .ok (.iconst 4, 1) := by decide +kernel
theorem dM_swap_24 : decode cM_swap 24 = .ok (.iload_n 1, 1) := by decide +kernel
theorem dM_swap_25 : decode cM_swap 25 = .ok (.imul, 1) := by decide +kernel
theorem dM_swap_26 : decode cM_swap 26 = .ok (.iload_n 2, 1) := by decide +kernel
theorem dM_swap_27 : decode cM_swap 27 = .ok (.iadd, 1) := by decide +kernel
theorem dM_swap_28 : decode cM_swap 28 = .ok (.laload, 1) := by decide +kernel
theorem dM_swap_29 : decode cM_swap 29 = .ok (.lastore, 1) := by decide +kernel
theorem dM_swap_30 : decode cM_swap 30 = .ok (.aload_n 0, 1) := by decide +kernel
theorem dM_swap_31 : decode cM_swap 31 = .ok (.getfield 13, 3) := by decide +kernel
theorem dM_swap_34 : decode cM_swap 34 = .ok (.iconst 4, 1) := by decide +kernel
theorem dM_swap_35 : decode cM_swap 35 = .ok (.iload_n 1, 1) := by decide +kernel
theorem dM_swap_36 : decode cM_swap 36 = .ok (.imul, 1) := by decide +kernel
theorem dM_swap_37 : decode cM_swap 37 = .ok (.iload_n 2, 1) := by decide +kernel
theorem dM_swap_38 : decode cM_swap 38 = .ok (.iadd, 1) := by decide +kernel
theorem dM_swap_39 : decode cM_swap 39 = .ok (.lload_n 3, 1) := by decide +kernel
theorem dM_swap_40 : decode cM_swap 40 = .ok (.lastore, 1) := by decide +kernel
theorem dM_swap_41 : decode cM_swap 41 = .ok (.iinc 2 1, 3) := by decide +kernel
theorem dM_swap_44 : decode cM_swap 44 = .ok (.goto (-42), 3) := by decide +kernel
theorem dM_swap_47 : decode cM_swap 47 = .ok (.return_, 1) := by decide +kernel
noncomputable def lM_swap_2 (F : Nat) (v1 : Int32) : Nat → Int32 → (Nat → Int64) → (Nat → Int64) → Option ((Nat → Int64) × (Nat → Int64))
  | 0, _, _, _ => none
  | n + 1, v2, x_row, x_fresh => if (4 : Int32) ≤ v2 then some (x_row, x_fresh) else gd (vp_in v2 4) (gd (vp_in (((4 : Int32) * v1) + v2) 16) (gd (vp_in v2 4) (gd (vp_in (((4 : Int32) * v1) + v2) 16) (lM_swap_2 F v1 n (v2 + 1) (vp_updL x_row (((4 : Int32) * v1) + v2).toNatClampNeg (x_fresh v2.toNatClampNeg)) (vp_updL x_fresh v2.toNatClampNeg (x_row (((4 : Int32) * v1) + v2).toNatClampNeg))))))
set_option maxHeartbeats 8000000 in
set_option maxRecDepth 100000 in
theorem lM_swap_2_ok {g : Gm} {κ : ctx} (G : OK g κ RM cM_swap 5 none rm_M_swap) (X : Nat → va_E) (F : Nat) {x_many : Int32} {x_generator : Nat → Int32} {x_known : Int32} {x_without : Int32} {x_rows : Int32} {x_pivot : Nat → Int32} {x_multiple : Nat → Int64} {x_last : Nat → Int64} {x_made : Nat → Int64} {x_settled : Nat → Int64} {x_point : Nat → Int64} {x_limit : Int64} {x_mode : Int32} {x_counted : Int32} {x_listed : Int32} {x_held : Int32} {x_first : Nat → Int64} {x_squares : Nat → Int64} {x_wanted : Int32} {x_spanned : Int32} {x_span : Nat → Int64} {x_minima : Nat → Int32} {x_measured : Int32} {x_found : Nat → Int64} {x_any : Int32} (v1 : Int32) : ∀ (n : Nat) (v2 : Int32) (x_row : Nat → Int64) (x_fresh : Nat → Int64) (out : (Nat → Int64) × (Nat → Int64)), lM_swap_2 F  v1 n v2 x_row x_fresh = some out → (J g κ 5 47 [] [] (LM κ (x_many, x_generator, x_known, x_without, x_rows, out.1, x_pivot, out.2, x_multiple, x_last, x_made, x_settled, x_point, x_limit, x_mode, x_counted, x_listed, x_held, x_first, x_squares, x_wanted, x_spanned, x_span, x_minima, x_measured, x_found, x_any) X)) → J g κ 5 2 [(0, .ref (κ.1 0)), (1, .int v1), (2, .int v2)] [] (LM κ (x_many, x_generator, x_known, x_without, x_rows, x_row, x_pivot, x_fresh, x_multiple, x_last, x_made, x_settled, x_point, x_limit, x_mode, x_counted, x_listed, x_held, x_first, x_squares, x_wanted, x_spanned, x_span, x_minima, x_measured, x_found, x_any) X) := by
  intro n
  induction n with
  | zero =>
    intro v2 x_row x_fresh
    intro out h
    rw [lM_swap_2] at h
    cases h
  | succ n ih =>
    intro v2 x_row x_fresh out h K
    rw [lM_swap_2] at h
    refine w_iload_n (pc := 2) (q := 2) G dM_swap_2 rfl rfl ?_
    refine w_iconst (pc := 3) (v := (4 : Int32)) G dM_swap_3 (by decide) ?_
    refine w_icmp_ge (pc := 4) (tgt := 47) G dM_swap_4 (by decide) (fun c4 => ?_) (fun c4 => ?_)
    · have h := if_t c4 h
      obtain rfl := Option.some.inj h
      refine w_sub (lv' := []) [] rfl ?_
      exact K
    · have h := if_f c4 h
      refine w_aload_n (pc := 7) (q := 0) G dM_swap_7 rfl rfl ?_
      refine w_get (pc := 8) (v := .ref (κ.1 4)) (fs := fl_M κ (x_many, x_generator, x_known, x_without, x_rows, x_row, x_pivot, x_fresh, x_multiple, x_last, x_made, x_settled, x_point, x_limit, x_mode, x_counted, x_listed, x_held, x_first, x_squares, x_wanted, x_spanned, x_span, x_minima, x_measured, x_found, x_any)) G 0 (by decide) lb_M rfl wsM_ok 7 (by decide) wd497 gf_M_7 dM_swap_8 ?_
      refine w_iload_n (pc := 11) (q := 2) G dM_swap_11 rfl rfl ?_
      obtain ⟨i12, h⟩ := gd_some h
      refine w_lald (pc := 12) (n := 4) (f := x_fresh) G 4 (by decide) lk_fresh i12 dM_swap_12 ?_
      refine w_lstore_n (pc := 13) (lv' := [(3, .long (x_fresh v2.toNatClampNeg)), (0, .ref (κ.1 0)), (1, .int v1), (2, .int v2)]) G dM_swap_13 rfl (by decide) rfl ?_
      refine w_aload_n (pc := 14) (q := 1) G dM_swap_14 rfl rfl ?_
      refine w_get (pc := 15) (v := .ref (κ.1 4)) (fs := fl_M κ (x_many, x_generator, x_known, x_without, x_rows, x_row, x_pivot, x_fresh, x_multiple, x_last, x_made, x_settled, x_point, x_limit, x_mode, x_counted, x_listed, x_held, x_first, x_squares, x_wanted, x_spanned, x_span, x_minima, x_measured, x_found, x_any)) G 0 (by decide) lb_M rfl wsM_ok 7 (by decide) wd497 gf_M_7 dM_swap_15 ?_
      refine w_iload_n (pc := 18) (q := 3) G dM_swap_18 rfl rfl ?_
      refine w_aload_n (pc := 19) (q := 1) G dM_swap_19 rfl rfl ?_
      refine w_get (pc := 20) (v := .ref (κ.1 2)) (fs := fl_M κ (x_many, x_generator, x_known, x_without, x_rows, x_row, x_pivot, x_fresh, x_multiple, x_last, x_made, x_settled, x_point, x_limit, x_mode, x_counted, x_listed, x_held, x_first, x_squares, x_wanted, x_spanned, x_span, x_minima, x_measured, x_found, x_any)) G 0 (by decide) lb_M rfl wsM_ok 5 (by decide) wd495 gf_M_5 dM_swap_20 ?_
      refine w_iconst (pc := 23) (v := (4 : Int32)) G dM_swap_23 (by decide) ?_
      refine w_iload_n (pc := 24) (q := 2) G dM_swap_24 rfl rfl ?_
      refine w_imul (pc := 25) G dM_swap_25 ?_
      refine w_iload_n (pc := 26) (q := 3) G dM_swap_26 rfl rfl ?_
      refine w_iadd (pc := 27) G dM_swap_27 ?_
      obtain ⟨i28, h⟩ := gd_some h
      refine w_lald (pc := 28) (n := 16) (f := x_row) G 2 (by decide) lk_row i28 dM_swap_28 ?_
      obtain ⟨i29, h⟩ := gd_some h
      refine w_last (pc := 29) (n := 4) (f := x_fresh) (L1 := (LM κ (x_many, x_generator, x_known, x_without, x_rows, x_row, x_pivot, vp_updL x_fresh v2.toNatClampNeg (x_row (((4 : Int32) * v1) + v2).toNatClampNeg), x_multiple, x_last, x_made, x_settled, x_point, x_limit, x_mode, x_counted, x_listed, x_held, x_first, x_squares, x_wanted, x_spanned, x_span, x_minima, x_measured, x_found, x_any) X)) G 4 (by decide) lk_fresh i29 dM_swap_29 up_fresh ?_
      refine w_aload_n (pc := 30) (q := 1) G dM_swap_30 rfl rfl ?_
      refine w_get (pc := 31) (v := .ref (κ.1 2)) (fs := fl_M κ (x_many, x_generator, x_known, x_without, x_rows, x_row, x_pivot, vp_updL x_fresh v2.toNatClampNeg (x_row (((4 : Int32) * v1) + v2).toNatClampNeg), x_multiple, x_last, x_made, x_settled, x_point, x_limit, x_mode, x_counted, x_listed, x_held, x_first, x_squares, x_wanted, x_spanned, x_span, x_minima, x_measured, x_found, x_any)) G 0 (by decide) lb_M rfl wsM_ok 5 (by decide) wd495 gf_M_5 dM_swap_31 ?_
      refine w_iconst (pc := 34) (v := (4 : Int32)) G dM_swap_34 (by decide) ?_
      refine w_iload_n (pc := 35) (q := 2) G dM_swap_35 rfl rfl ?_
      refine w_imul (pc := 36) G dM_swap_36 ?_
      refine w_iload_n (pc := 37) (q := 3) G dM_swap_37 rfl rfl ?_
      refine w_iadd (pc := 38) G dM_swap_38 ?_
      refine w_lload_n (pc := 39) (q := 0) G dM_swap_39 rfl rfl ?_
      obtain ⟨i40, h⟩ := gd_some h
      refine w_last (pc := 40) (n := 16) (f := x_row) (L1 := (LM κ (x_many, x_generator, x_known, x_without, x_rows, vp_updL x_row (((4 : Int32) * v1) + v2).toNatClampNeg (x_fresh v2.toNatClampNeg), x_pivot, vp_updL x_fresh v2.toNatClampNeg (x_row (((4 : Int32) * v1) + v2).toNatClampNeg), x_multiple, x_last, x_made, x_settled, x_point, x_limit, x_mode, x_counted, x_listed, x_held, x_first, x_squares, x_wanted, x_spanned, x_span, x_minima, x_measured, x_found, x_any) X)) G 2 (by decide) lk_row i40 dM_swap_40 up_row ?_
      refine w_iinc (pc := 41) (q0 := 3) (v := (v2 + 1)) (lv' := [(2, .int (v2 + 1)), (3, .long (x_fresh v2.toNatClampNeg)), (0, .ref (κ.1 0)), (1, .int v1)]) G dM_swap_41 rfl rfl (by decide) rfl ?_
      refine w_goto (pc := 44) (tgt := 2) G dM_swap_44 (by decide) ?_
      refine w_sub (lv' := [(0, .ref (κ.1 0)), (1, .int v1), (2, .int (v2 + 1))]) [2, 3, 0] rfl ?_
      exact ih (v2 + 1) (vp_updL x_row (((4 : Int32) * v1) + v2).toNatClampNeg (x_fresh v2.toNatClampNeg)) (vp_updL x_fresh v2.toNatClampNeg (x_row (((4 : Int32) * v1) + v2).toNatClampNeg)) out h K
noncomputable def M_swap (F : Nat) (x_row : Nat → Int64) (x_fresh : Nat → Int64) (v1 : Int32) : Option ((Nat → Int64) × (Nat → Int64)) := (lM_swap_2 F v1 F (0 : Int32) x_row x_fresh).bind (fun o2_7 => some (o2_7.1, o2_7.2))
set_option maxHeartbeats 8000000 in
set_option maxRecDepth 100000 in
theorem met_M_swap (κ : ctx) (X : Nat → va_E) (F : Nat) {x_many : Int32} {x_generator : Nat → Int32} {x_known : Int32} {x_without : Int32} {x_rows : Int32} {x_row : Nat → Int64} {x_pivot : Nat → Int32} {x_fresh : Nat → Int64} {x_multiple : Nat → Int64} {x_last : Nat → Int64} {x_made : Nat → Int64} {x_settled : Nat → Int64} {x_point : Nat → Int64} {x_limit : Int64} {x_mode : Int32} {x_counted : Int32} {x_listed : Int32} {x_held : Int32} {x_first : Nat → Int64} {x_squares : Nat → Int64} {x_wanted : Int32} {x_spanned : Int32} {x_span : Nat → Int64} {x_minima : Nat → Int32} {x_measured : Int32} {x_found : Nat → Int64} {x_any : Int32} (v1 : Int32) {out : (Nat → Int64) × (Nat → Int64)} (h : M_swap F x_row x_fresh v1 = some out) : Mt yM_swap cM_swap 5 none rm_M_swap κ [.ref (κ.1 0), .int v1] (LM κ (x_many, x_generator, x_known, x_without, x_rows, x_row, x_pivot, x_fresh, x_multiple, x_last, x_made, x_settled, x_point, x_limit, x_mode, x_counted, x_listed, x_held, x_first, x_squares, x_wanted, x_spanned, x_span, x_minima, x_measured, x_found, x_any) X) none (LM κ (x_many, x_generator, x_known, x_without, x_rows, out.1, x_pivot, out.2, x_multiple, x_last, x_made, x_settled, x_point, x_limit, x_mode, x_counted, x_listed, x_held, x_first, x_squares, x_wanted, x_spanned, x_span, x_minima, x_measured, x_found, x_any) X) := by
  refine Mt.of (by decide) (Nat.le_of_ble_eq_true rfl) ?_
  intro g G Fh
  unfold M_swap at h
  show J g κ 5 0 [(0, .ref (κ.1 0)), (1, .int v1)] [] (LM κ (x_many, x_generator, x_known, x_without, x_rows, x_row, x_pivot, x_fresh, x_multiple, x_last, x_made, x_settled, x_point, x_limit, x_mode, x_counted, x_listed, x_held, x_first, x_squares, x_wanted, x_spanned, x_span, x_minima, x_measured, x_found, x_any) X)
  refine w_iconst (pc := 0) (v := (0 : Int32)) G dM_swap_0 (by decide) ?_
  refine w_istore_n (pc := 1) (lv' := [(2, .int (0 : Int32)), (0, .ref (κ.1 0)), (1, .int v1)]) G dM_swap_1 rfl (by decide) rfl ?_
  refine w_sub (lv' := [(0, .ref (κ.1 0)), (1, .int v1), (2, .int (0 : Int32))]) [1, 2, 0] rfl ?_
  obtain ⟨o2_7, eo2_7, h⟩ := bd h
  refine lM_swap_2_ok G X F v1 F (0 : Int32) x_row x_fresh o2_7 eo2_7 ?_
  obtain rfl := Option.some.inj h
  exact w_vret (pc := 47) G dM_swap_47 Fh
def rm_M_divide : Room := { frames := 2, cells := 0, slots := 0, locals := 51 }
theorem dM_divide_0 : decode cM_divide 0 = .ok (.aload_n 0, 1) := by decide +kernel
theorem dM_divide_1 : decode cM_divide 1 = .ok (.getfield 17, 3) := by decide +kernel
theorem dM_divide_4 : decode cM_divide 4 = .ok (.iload_n 1, 1) := by decide +kernel
theorem dM_divide_5 : decode cM_divide 5 = .ok (.iaload, 1) := by decide +kernel
theorem dM_divide_6 : decode cM_divide 6 = .ok (.istore_n 2, 1) := by decide +kernel
theorem dM_divide_7 : decode cM_divide 7 = .ok (.aload_n 0, 1) := by decide +kernel
theorem dM_divide_8 : decode cM_divide 8 = .ok (.getfield 20, 3) := by decide +kernel
theorem dM_divide_11 : decode cM_divide 11 = .ok (.iload_n 2, 1) := by decide +kernel
theorem dM_divide_12 : decode cM_divide 12 = .ok (.laload, 1) := by decide +kernel
theorem dM_divide_13 : decode cM_divide 13 = .ok (.lconst 0, 1) := by decide +kernel
theorem dM_divide_14 : decode cM_divide 14 = .ok (.lcmp, 1) := by decide +kernel
theorem dM_divide_15 : decode cM_divide 15 = .ok (.ifCond .eq 87, 3) := by decide +kernel
theorem dM_divide_18 : decode cM_divide 18 = .ok (.aload_n 0, 1) := by decide +kernel
theorem dM_divide_19 : decode cM_divide 19 = .ok (.getfield 13, 3) := by decide +kernel
theorem dM_divide_22 : decode cM_divide 22 = .ok (.iconst 4, 1) := by decide +kernel
theorem dM_divide_23 : decode cM_divide 23 = .ok (.iload_n 1, 1) := by decide +kernel
theorem dM_divide_24 : decode cM_divide 24 = .ok (.imul, 1) := by decide +kernel
theorem dM_divide_25 : decode cM_divide 25 = .ok (.iload_n 2, 1) := by decide +kernel
theorem dM_divide_26 : decode cM_divide 26 = .ok (.iadd, 1) := by decide +kernel
theorem dM_divide_27 : decode cM_divide 27 = .ok (.laload, 1) := by decide +kernel
theorem dM_divide_28 : decode cM_divide 28 = .ok (.aload_n 0, 1) := by decide +kernel
theorem dM_divide_29 : decode cM_divide 29 = .ok (.getfield 20, 3) := by decide +kernel
theorem dM_divide_32 : decode cM_divide 32 = .ok (.iload_n 2, 1) := by decide +kernel
theorem dM_divide_33 : decode cM_divide 33 = .ok (.laload, 1) := by decide +kernel
theorem dM_divide_34 : decode cM_divide 34 = .ok (.ldiv, 1) := by decide +kernel
theorem dM_divide_35 : decode cM_divide 35 = .ok (.lstore_n 3, 1) := by decide +kernel
theorem dM_divide_36 : decode cM_divide 36 = .ok (.iload_n 2, 1) := by decide +kernel
theorem dM_divide_37 : decode cM_divide 37 = .ok (.istore 5, 2) := by decide +kernel
theorem dM_divide_39 : decode cM_divide 39 = .ok (.iload 5, 2) := by decide +kernel
theorem dM_divide_41 : decode cM_divide 41 = .ok (.iconst 4, 1) := by decide +kernel
theorem dM_divide_42 : decode cM_divide 42 = .ok (.if_icmp .ge 32, 3) := by decide +kernel
theorem dM_divide_45 : decode cM_divide 45 = .ok (.aload_n 0, 1) := by decide +kernel
theorem dM_divide_46 : decode cM_divide 46 = .ok (.getfield 13, 3) := by decide +kernel
theorem dM_divide_49 : decode cM_divide 49 = .ok (.iconst 4, 1) := by decide +kernel
theorem dM_divide_50 : decode cM_divide 50 = .ok (.iload_n 1, 1) := by decide +kernel
theorem dM_divide_51 : decode cM_divide 51 = .ok (.imul, 1) := by decide +kernel
theorem dM_divide_52 : decode cM_divide 52 = .ok (.iload 5, 2) := by decide +kernel
theorem dM_divide_54 : decode cM_divide 54 = .ok (.iadd, 1) := by decide +kernel
theorem dM_divide_55 : decode cM_divide 55 = .ok (.dup2, 1) := by decide +kernel
theorem dM_divide_56 : decode cM_divide 56 = .ok (.laload, 1) := by decide +kernel
theorem dM_divide_57 : decode cM_divide 57 = .ok (.lload_n 3, 1) := by decide +kernel
theorem dM_divide_58 : decode cM_divide 58 = .ok (.aload_n 0, 1) := by decide +kernel
theorem dM_divide_59 : decode cM_divide 59 = .ok (.getfield 20, 3) := by decide +kernel
theorem dM_divide_62 : decode cM_divide 62 = .ok (.iload 5, 2) := by decide +kernel
theorem dM_divide_64 : decode cM_divide 64 = .ok (.laload, 1) := by decide +kernel
theorem dM_divide_65 : decode cM_divide 65 = .ok (.lmul, 1) := by decide +kernel
theorem dM_divide_66 : decode cM_divide 66 = .ok (.lsub, 1) := by decide +kernel
theorem dM_divide_67 : decode cM_divide 67 = .ok (.lastore, 1) := by decide +kernel
theorem dM_divide_68 : decode cM_divide 68 = .ok (.iinc 5 1, 3) := by decide +kernel
theorem dM_divide_71 : decode cM_divide 71 = .ok (.goto (-32), 3) := by decide +kernel
theorem dM_divide_74 : decode cM_divide 74 = .ok (.aload_n 0, 1) := by decide +kernel
theorem dM_divide_75 : decode cM_divide 75 = .ok (.iload_n 1, 1) := by decide +kernel
theorem dM_divide_76 : decode cM_divide 76 = .ok (.invokevirtual 85, 3) := by decide +kernel
theorem dM_divide_79 : decode cM_divide 79 = .ok (.aload_n 0, 1) := by decide +kernel
theorem dM_divide_80 : decode cM_divide 80 = .ok (.iload_n 2, 1) := by decide +kernel
theorem dM_divide_81 : decode cM_divide 81 = .ok (.invokevirtual 89, 3) := by decide +kernel
theorem dM_divide_84 : decode cM_divide 84 = .ok (.aload_n 0, 1) := by decide +kernel
theorem dM_divide_85 : decode cM_divide 85 = .ok (.iload_n 1, 1) := by decide +kernel
theorem dM_divide_86 : decode cM_divide 86 = .ok (.invokevirtual 85, 3) := by decide +kernel
theorem dM_divide_89 : decode cM_divide 89 = .ok (.aload_n 0, 1) := by decide +kernel
theorem dM_divide_90 : decode cM_divide 90 = .ok (.iload_n 2, 1) := by decide +kernel
theorem dM_divide_91 : decode cM_divide 91 = .ok (.invokevirtual 89, 3) := by decide +kernel
theorem dM_divide_94 : decode cM_divide 94 = .ok (.aload_n 0, 1) := by decide +kernel
theorem dM_divide_95 : decode cM_divide 95 = .ok (.iload_n 1, 1) := by decide +kernel
theorem dM_divide_96 : decode cM_divide 96 = .ok (.invokevirtual 85, 3) := by decide +kernel
theorem dM_divide_99 : decode cM_divide 99 = .ok (.goto (-92), 3) := by decide +kernel
theorem dM_divide_102 : decode cM_divide 102 = .ok (.aload_n 0, 1) := by decide +kernel
theorem dM_divide_103 : decode cM_divide 103 = .ok (.getfield 13, 3) := by decide +kernel
theorem dM_divide_106 : decode cM_divide 106 = .ok (.iconst 4, 1) := by decide +kernel
theorem dM_divide_107 : decode cM_divide 107 = .ok (.iload_n 1, 1) := by decide +kernel
theorem dM_divide_108 : decode cM_divide 108 = .ok (.imul, 1) := by decide +kernel
theorem dM_divide_109 : decode cM_divide 109 = .ok (.iload_n 2, 1) := by decide +kernel
theorem dM_divide_110 : decode cM_divide 110 = .ok (.iadd, 1) := by decide +kernel
theorem dM_divide_111 : decode cM_divide 111 = .ok (.laload, 1) := by decide +kernel
theorem dM_divide_112 : decode cM_divide 112 = .ok (.lconst 0, 1) := by decide +kernel
theorem dM_divide_113 : decode cM_divide 113 = .ok (.lcmp, 1) := by decide +kernel
theorem dM_divide_114 : decode cM_divide 114 = .ok (.ifCond .ge 44, 3) := by decide +kernel
theorem dM_divide_117 : decode cM_divide 117 = .ok (.aload_n 0, 1) := by decide +kernel
theorem dM_divide_118 : decode cM_divide 118 = .ok (.iload_n 1, 1) := by decide +kernel
theorem dM_divide_119 : decode cM_divide 119 = .ok (.invokevirtual 85, 3) := by decide +kernel
theorem dM_divide_122 : decode cM_divide 122 = .ok (.iconst 0, 1) := by decide +kernel
theorem dM_divide_123 : decode cM_divide 123 = .ok (.istore_n 3, 1) := by decide +kernel
theorem dM_divide_124 : decode cM_divide 124 = .ok (.iload_n 3, 1) := by decide +kernel
theorem dM_divide_125 : decode cM_divide 125 = .ok (.iconst 4, 1) := by decide +kernel
theorem dM_divide_126 : decode cM_divide 126 = .ok (.if_icmp .ge 22, 3) := by decide +kernel
theorem dM_divide_129 : decode cM_divide 129 = .ok (.aload_n 0, 1) := by decide +kernel
theorem dM_divide_130 : decode cM_divide 130 = .ok (.getfield 20, 3) := by decide +kernel
theorem dM_divide_133 : decode cM_divide 133 = .ok (.iload_n 3, 1) := by decide +kernel
theorem dM_divide_134 : decode cM_divide 134 = .ok (.aload_n 0, 1) := by decide +kernel
theorem dM_divide_135 : decode cM_divide 135 = .ok (.getfield 20, 3) := by decide +kernel
theorem dM_divide_138 : decode cM_divide 138 = .ok (.iload_n 3, 1) := by decide +kernel
theorem dM_divide_139 : decode cM_divide 139 = .ok (.laload, 1) := by decide +kernel
theorem dM_divide_140 : decode cM_divide 140 = .ok (.lneg, 1) := by decide +kernel
theorem dM_divide_141 : decode cM_divide 141 = .ok (.lastore, 1) := by decide +kernel
theorem dM_divide_142 : decode cM_divide 142 = .ok (.iinc 3 1, 3) := by decide +kernel
theorem dM_divide_145 : decode cM_divide 145 = .ok (.goto (-21), 3) := by decide +kernel
theorem dM_divide_148 : decode cM_divide 148 = .ok (.aload_n 0, 1) := by decide +kernel
theorem dM_divide_149 : decode cM_divide 149 = .ok (.iload_n 2, 1) := by decide +kernel
theorem dM_divide_150 : decode cM_divide 150 = .ok (.invokevirtual 89, 3) := by decide +kernel
theorem dM_divide_153 : decode cM_divide 153 = .ok (.aload_n 0, 1) := by decide +kernel
theorem dM_divide_154 : decode cM_divide 154 = .ok (.iload_n 1, 1) := by decide +kernel
theorem dM_divide_155 : decode cM_divide 155 = .ok (.invokevirtual 85, 3) := by decide +kernel
theorem dM_divide_158 : decode cM_divide 158 = .ok (.return_, 1) := by decide +kernel
theorem cb_M_swap_M_divide : CB yM_swap cM_swap 5 none rm_M_swap rm_M_divide 1 := ⟨wd625, wd8, by decide +kernel, rfl, rfl, by decide⟩
theorem cb_M_tidy_M_divide : CB yM_tidy cM_tidy 7 none rm_M_tidy rm_M_divide 1 := ⟨wd610, wd8, by decide +kernel, rfl, rfl, by decide⟩
noncomputable def lM_divide_39 (F : Nat) (x_fresh : Nat → Int64) (v1 : Int32) (v2 : Int32) (v3 : Int64) : Nat → Int32 → (Nat → Int64) → Option ((Nat → Int64))
  | 0, _, _ => none
  | n + 1, v5, x_row => if (4 : Int32) ≤ v5 then some (x_row) else gd (vp_in (((4 : Int32) * v1) + v5) 16) (gd (vp_in v5 4) (gd (vp_in (((4 : Int32) * v1) + v5) 16) (lM_divide_39 F x_fresh v1 v2 v3 n (v5 + 1) (vp_updL x_row (((4 : Int32) * v1) + v5).toNatClampNeg ((x_row (((4 : Int32) * v1) + v5).toNatClampNeg) - (v3 * (x_fresh v5.toNatClampNeg)))))))
set_option maxHeartbeats 8000000 in
set_option maxRecDepth 100000 in
theorem lM_divide_39_ok {g : Gm} {κ : ctx} (G : OK g κ RM cM_divide 6 none rm_M_divide) (X : Nat → va_E) (F : Nat) {x_many : Int32} {x_generator : Nat → Int32} {x_known : Int32} {x_without : Int32} {x_rows : Int32} {x_pivot : Nat → Int32} {x_fresh : Nat → Int64} {x_multiple : Nat → Int64} {x_last : Nat → Int64} {x_made : Nat → Int64} {x_settled : Nat → Int64} {x_point : Nat → Int64} {x_limit : Int64} {x_mode : Int32} {x_counted : Int32} {x_listed : Int32} {x_held : Int32} {x_first : Nat → Int64} {x_squares : Nat → Int64} {x_wanted : Int32} {x_spanned : Int32} {x_span : Nat → Int64} {x_minima : Nat → Int32} {x_measured : Int32} {x_found : Nat → Int64} {x_any : Int32} (v1 : Int32) (v2 : Int32) (v3 : Int64) : ∀ (n : Nat) (v5 : Int32) (x_row : Nat → Int64) (out : (Nat → Int64)), lM_divide_39 F x_fresh v1 v2 v3 n v5 x_row = some out → (J g κ 6 74 [(0, .ref (κ.1 0)), (1, .int v1), (2, .int v2)] [] (LM κ (x_many, x_generator, x_known, x_without, x_rows, out, x_pivot, x_fresh, x_multiple, x_last, x_made, x_settled, x_point, x_limit, x_mode, x_counted, x_listed, x_held, x_first, x_squares, x_wanted, x_spanned, x_span, x_minima, x_measured, x_found, x_any) X)) → J g κ 6 39 [(0, .ref (κ.1 0)), (1, .int v1), (2, .int v2), (3, .long v3), (5, .int v5)] [] (LM κ (x_many, x_generator, x_known, x_without, x_rows, x_row, x_pivot, x_fresh, x_multiple, x_last, x_made, x_settled, x_point, x_limit, x_mode, x_counted, x_listed, x_held, x_first, x_squares, x_wanted, x_spanned, x_span, x_minima, x_measured, x_found, x_any) X) := by
  intro n
  induction n with
  | zero =>
    intro v5 x_row
    intro out h
    rw [lM_divide_39] at h
    cases h
  | succ n ih =>
    intro v5 x_row out h K
    rw [lM_divide_39] at h
    refine w_iload (pc := 39) (q := 4) G dM_divide_39 rfl ?_
    refine w_iconst (pc := 41) (v := (4 : Int32)) G dM_divide_41 (by decide) ?_
    refine w_icmp_ge (pc := 42) (tgt := 74) G dM_divide_42 (by decide) (fun c42 => ?_) (fun c42 => ?_)
    · have h := if_t c42 h
      obtain rfl := Option.some.inj h
      refine w_sub (lv' := [(0, .ref (κ.1 0)), (1, .int v1), (2, .int v2)]) [0, 1, 2] rfl ?_
      exact K
    · have h := if_f c42 h
      refine w_aload_n (pc := 45) (q := 0) G dM_divide_45 rfl rfl ?_
      refine w_get (pc := 46) (v := .ref (κ.1 2)) (fs := fl_M κ (x_many, x_generator, x_known, x_without, x_rows, x_row, x_pivot, x_fresh, x_multiple, x_last, x_made, x_settled, x_point, x_limit, x_mode, x_counted, x_listed, x_held, x_first, x_squares, x_wanted, x_spanned, x_span, x_minima, x_measured, x_found, x_any)) G 0 (by decide) lb_M rfl wsM_ok 5 (by decide) wd495 gf_M_5 dM_divide_46 ?_
      refine w_iconst (pc := 49) (v := (4 : Int32)) G dM_divide_49 (by decide) ?_
      refine w_iload_n (pc := 50) (q := 1) G dM_divide_50 rfl rfl ?_
      refine w_imul (pc := 51) G dM_divide_51 ?_
      refine w_iload (pc := 52) (q := 4) G dM_divide_52 rfl ?_
      refine w_iadd (pc := 54) G dM_divide_54 ?_
      refine w_dup2_11 (pc := 55) G dM_divide_55 rfl rfl ?_
      obtain ⟨i56, h⟩ := gd_some h
      refine w_lald (pc := 56) (n := 16) (f := x_row) G 2 (by decide) lk_row i56 dM_divide_56 ?_
      refine w_lload_n (pc := 57) (q := 3) G dM_divide_57 rfl rfl ?_
      refine w_aload_n (pc := 58) (q := 0) G dM_divide_58 rfl rfl ?_
      refine w_get (pc := 59) (v := .ref (κ.1 4)) (fs := fl_M κ (x_many, x_generator, x_known, x_without, x_rows, x_row, x_pivot, x_fresh, x_multiple, x_last, x_made, x_settled, x_point, x_limit, x_mode, x_counted, x_listed, x_held, x_first, x_squares, x_wanted, x_spanned, x_span, x_minima, x_measured, x_found, x_any)) G 0 (by decide) lb_M rfl wsM_ok 7 (by decide) wd497 gf_M_7 dM_divide_59 ?_
      refine w_iload (pc := 62) (q := 4) G dM_divide_62 rfl ?_
      obtain ⟨i64, h⟩ := gd_some h
      refine w_lald (pc := 64) (n := 4) (f := x_fresh) G 4 (by decide) lk_fresh i64 dM_divide_64 ?_
      refine w_lmul (pc := 65) G dM_divide_65 ?_
      refine w_lsub (pc := 66) G dM_divide_66 ?_
      obtain ⟨i67, h⟩ := gd_some h
      refine w_last (pc := 67) (n := 16) (f := x_row) (L1 := (LM κ (x_many, x_generator, x_known, x_without, x_rows, vp_updL x_row (((4 : Int32) * v1) + v5).toNatClampNeg ((x_row (((4 : Int32) * v1) + v5).toNatClampNeg) - (v3 * (x_fresh v5.toNatClampNeg))), x_pivot, x_fresh, x_multiple, x_last, x_made, x_settled, x_point, x_limit, x_mode, x_counted, x_listed, x_held, x_first, x_squares, x_wanted, x_spanned, x_span, x_minima, x_measured, x_found, x_any) X)) G 2 (by decide) lk_row i67 dM_divide_67 up_row ?_
      refine w_iinc (pc := 68) (q0 := 4) (v := (v5 + 1)) (lv' := [(5, .int (v5 + 1)), (0, .ref (κ.1 0)), (1, .int v1), (2, .int v2), (3, .long v3)]) G dM_divide_68 rfl rfl (by decide) rfl ?_
      refine w_goto (pc := 71) (tgt := 39) G dM_divide_71 (by decide) ?_
      refine w_sub (lv' := [(0, .ref (κ.1 0)), (1, .int v1), (2, .int v2), (3, .long v3), (5, .int (v5 + 1))]) [1, 2, 3, 4, 0] rfl ?_
      exact ih (v5 + 1) (vp_updL x_row (((4 : Int32) * v1) + v5).toNatClampNeg ((x_row (((4 : Int32) * v1) + v5).toNatClampNeg) - (v3 * (x_fresh v5.toNatClampNeg)))) out h K
noncomputable def lM_divide_7 (F : Nat) (x_rows : Int32) (x_pivot : Nat → Int32) (v1 : Int32) (v2 : Int32) : Nat → (Nat → Int64) → (Nat → Int64) → Option ((Nat → Int64) × (Nat → Int64))
  | 0, _, _ => none
  | n + 1, x_row, x_fresh => gd (vp_in v2 4) (if (x_fresh v2.toNatClampNeg) = (0 : Int64) then some (x_row, x_fresh) else gd (vp_in (((4 : Int32) * v1) + v2) 16) (gd (vp_in v2 4) (gd (¬ (x_fresh v2.toNatClampNeg) = 0) ((lM_divide_39 F x_fresh v1 v2 ((x_row (((4 : Int32) * v1) + v2).toNatClampNeg) / (x_fresh v2.toNatClampNeg)) F v2 x_row).bind (fun o39_16 => (M_swap F o39_16 x_fresh v1).bind (fun r76 => (M_tidy F x_rows r76.1 x_pivot r76.2 v2).bind (fun r81 => (M_swap F r76.1 r81 v1).bind (fun r86 => (M_tidy F x_rows r86.1 x_pivot r86.2 v2).bind (fun r91 => (M_swap F r86.1 r91 v1).bind (fun r96 => lM_divide_7 F x_rows x_pivot v1 v2 n r96.1 r96.2))))))))))
set_option maxHeartbeats 8000000 in
set_option maxRecDepth 100000 in
theorem lM_divide_7_ok {g : Gm} {κ : ctx} (G : OK g κ RM cM_divide 6 none rm_M_divide) (X : Nat → va_E) (F : Nat) {x_many : Int32} {x_generator : Nat → Int32} {x_known : Int32} {x_without : Int32} {x_rows : Int32} {x_pivot : Nat → Int32} {x_multiple : Nat → Int64} {x_last : Nat → Int64} {x_made : Nat → Int64} {x_settled : Nat → Int64} {x_point : Nat → Int64} {x_limit : Int64} {x_mode : Int32} {x_counted : Int32} {x_listed : Int32} {x_held : Int32} {x_first : Nat → Int64} {x_squares : Nat → Int64} {x_wanted : Int32} {x_spanned : Int32} {x_span : Nat → Int64} {x_minima : Nat → Int32} {x_measured : Int32} {x_found : Nat → Int64} {x_any : Int32} (v1 : Int32) (v2 : Int32) : ∀ (n : Nat) (x_row : Nat → Int64) (x_fresh : Nat → Int64) (out : (Nat → Int64) × (Nat → Int64)), lM_divide_7 F x_rows x_pivot v1 v2 n x_row x_fresh = some out → (J g κ 6 102 [(0, .ref (κ.1 0)), (1, .int v1), (2, .int v2)] [] (LM κ (x_many, x_generator, x_known, x_without, x_rows, out.1, x_pivot, out.2, x_multiple, x_last, x_made, x_settled, x_point, x_limit, x_mode, x_counted, x_listed, x_held, x_first, x_squares, x_wanted, x_spanned, x_span, x_minima, x_measured, x_found, x_any) X)) → J g κ 6 7 [(0, .ref (κ.1 0)), (1, .int v1), (2, .int v2)] [] (LM κ (x_many, x_generator, x_known, x_without, x_rows, x_row, x_pivot, x_fresh, x_multiple, x_last, x_made, x_settled, x_point, x_limit, x_mode, x_counted, x_listed, x_held, x_first, x_squares, x_wanted, x_spanned, x_span, x_minima, x_measured, x_found, x_any) X) := by
  intro n
  induction n with
  | zero =>
    intro x_row x_fresh
    intro out h
    rw [lM_divide_7] at h
    cases h
  | succ n ih =>
    intro x_row x_fresh out h K
    rw [lM_divide_7] at h
    refine w_aload_n (pc := 7) (q := 0) G dM_divide_7 rfl rfl ?_
    refine w_get (pc := 8) (v := .ref (κ.1 4)) (fs := fl_M κ (x_many, x_generator, x_known, x_without, x_rows, x_row, x_pivot, x_fresh, x_multiple, x_last, x_made, x_settled, x_point, x_limit, x_mode, x_counted, x_listed, x_held, x_first, x_squares, x_wanted, x_spanned, x_span, x_minima, x_measured, x_found, x_any)) G 0 (by decide) lb_M rfl wsM_ok 7 (by decide) wd497 gf_M_7 dM_divide_8 ?_
    refine w_iload_n (pc := 11) (q := 2) G dM_divide_11 rfl rfl ?_
    obtain ⟨i12, h⟩ := gd_some h
    refine w_lald (pc := 12) (n := 4) (f := x_fresh) G 4 (by decide) lk_fresh i12 dM_divide_12 ?_
    refine w_lconst (pc := 13) (v := (0 : Int64)) G dM_divide_13 (by decide) ?_
    refine w_lc_eq (pc := 14) (tgt := 102) G dM_divide_14 dM_divide_15 (by decide) (fun c14 => ?_) (fun c14 => ?_)
    · have h := if_t c14 h
      obtain rfl := Option.some.inj h
      refine w_sub (lv' := [(0, .ref (κ.1 0)), (1, .int v1), (2, .int v2)]) [0, 1, 2] rfl ?_
      exact K
    · have h := if_f c14 h
      refine w_aload_n (pc := 18) (q := 0) G dM_divide_18 rfl rfl ?_
      refine w_get (pc := 19) (v := .ref (κ.1 2)) (fs := fl_M κ (x_many, x_generator, x_known, x_without, x_rows, x_row, x_pivot, x_fresh, x_multiple, x_last, x_made, x_settled, x_point, x_limit, x_mode, x_counted, x_listed, x_held, x_first, x_squares, x_wanted, x_spanned, x_span, x_minima, x_measured, x_found, x_any)) G 0 (by decide) lb_M rfl wsM_ok 5 (by decide) wd495 gf_M_5 dM_divide_19 ?_
      refine w_iconst (pc := 22) (v := (4 : Int32)) G dM_divide_22 (by decide) ?_
      refine w_iload_n (pc := 23) (q := 1) G dM_divide_23 rfl rfl ?_
      refine w_imul (pc := 24) G dM_divide_24 ?_
      refine w_iload_n (pc := 25) (q := 2) G dM_divide_25 rfl rfl ?_
      refine w_iadd (pc := 26) G dM_divide_26 ?_
      obtain ⟨i27, h⟩ := gd_some h
      refine w_lald (pc := 27) (n := 16) (f := x_row) G 2 (by decide) lk_row i27 dM_divide_27 ?_
      refine w_aload_n (pc := 28) (q := 0) G dM_divide_28 rfl rfl ?_
      refine w_get (pc := 29) (v := .ref (κ.1 4)) (fs := fl_M κ (x_many, x_generator, x_known, x_without, x_rows, x_row, x_pivot, x_fresh, x_multiple, x_last, x_made, x_settled, x_point, x_limit, x_mode, x_counted, x_listed, x_held, x_first, x_squares, x_wanted, x_spanned, x_span, x_minima, x_measured, x_found, x_any)) G 0 (by decide) lb_M rfl wsM_ok 7 (by decide) wd497 gf_M_7 dM_divide_29 ?_
      refine w_iload_n (pc := 32) (q := 2) G dM_divide_32 rfl rfl ?_
      obtain ⟨i33, h⟩ := gd_some h
      refine w_lald (pc := 33) (n := 4) (f := x_fresh) G 4 (by decide) lk_fresh i33 dM_divide_33 ?_
      obtain ⟨z34, h⟩ := gd_some h
      refine w_ldiv (pc := 34) G dM_divide_34 z34 ?_
      refine w_lstore_n (pc := 35) (lv' := [(3, .long ((x_row (((4 : Int32) * v1) + v2).toNatClampNeg) / (x_fresh v2.toNatClampNeg))), (0, .ref (κ.1 0)), (1, .int v1), (2, .int v2)]) G dM_divide_35 rfl (by decide) rfl ?_
      refine w_iload_n (pc := 36) (q := 3) G dM_divide_36 rfl rfl ?_
      refine w_istore (pc := 37) (lv' := [(5, .int v2), (3, .long ((x_row (((4 : Int32) * v1) + v2).toNatClampNeg) / (x_fresh v2.toNatClampNeg))), (0, .ref (κ.1 0)), (1, .int v1), (2, .int v2)]) G dM_divide_37 (by decide) rfl ?_
      refine w_sub (lv' := [(0, .ref (κ.1 0)), (1, .int v1), (2, .int v2), (3, .long ((x_row (((4 : Int32) * v1) + v2).toNatClampNeg) / (x_fresh v2.toNatClampNeg))), (5, .int v2)]) [2, 3, 4, 1, 0] rfl ?_
      obtain ⟨o39_16, eo39_16, h⟩ := bd h
      refine lM_divide_39_ok G X F v1 v2 ((x_row (((4 : Int32) * v1) + v2).toNatClampNeg) / (x_fresh v2.toNatClampNeg)) F v2 x_row o39_16 eo39_16 ?_
      refine w_aload_n (pc := 74) (q := 0) G dM_divide_74 rfl rfl ?_
      refine w_iload_n (pc := 75) (q := 1) G dM_divide_75 rfl rfl ?_
      obtain ⟨r76, e76, h⟩ := bd h
      refine w_callV (pc := 76) (av := [.int v1]) (rest := []) (v := none) (L' := (LM κ (x_many, x_generator, x_known, x_without, x_rows, r76.1, x_pivot, r76.2, x_multiple, x_last, x_made, x_settled, x_point, x_limit, x_mode, x_counted, x_listed, x_held, x_first, x_squares, x_wanted, x_spanned, x_span, x_minima, x_measured, x_found, x_any) X)) (T := TM) (fs := fl_M κ (x_many, x_generator, x_known, x_without, x_rows, o39_16, x_pivot, x_fresh, x_multiple, x_last, x_made, x_settled, x_point, x_limit, x_mode, x_counted, x_listed, x_held, x_first, x_squares, x_wanted, x_spanned, x_span, x_minima, x_measured, x_found, x_any)) G 0 0 27 (by decide) lb_M rfl cb_M_swap_M_divide wd624 ws26 wd622 (met_M_swap κ X F v1  e76) rfl rfl rfl (Nat.le_of_ble_eq_true rfl) dM_divide_76 ?_
      refine w_aload_n (pc := 79) (q := 0) G dM_divide_79 rfl rfl ?_
      refine w_iload_n (pc := 80) (q := 2) G dM_divide_80 rfl rfl ?_
      obtain ⟨r81, e81, h⟩ := bd h
      refine w_callV (pc := 81) (av := [.int v2]) (rest := []) (v := none) (L' := (LM κ (x_many, x_generator, x_known, x_without, x_rows, r76.1, x_pivot, r81, x_multiple, x_last, x_made, x_settled, x_point, x_limit, x_mode, x_counted, x_listed, x_held, x_first, x_squares, x_wanted, x_spanned, x_span, x_minima, x_measured, x_found, x_any) X)) (T := TM) (fs := fl_M κ (x_many, x_generator, x_known, x_without, x_rows, r76.1, x_pivot, r76.2, x_multiple, x_last, x_made, x_settled, x_point, x_limit, x_mode, x_counted, x_listed, x_held, x_first, x_squares, x_wanted, x_spanned, x_span, x_minima, x_measured, x_found, x_any)) G 0 0 27 (by decide) lb_M rfl cb_M_tidy_M_divide wd609 ws23 wd607 (met_M_tidy κ X F v2  e81) rfl rfl rfl (Nat.le_of_ble_eq_true rfl) dM_divide_81 ?_
      refine w_aload_n (pc := 84) (q := 0) G dM_divide_84 rfl rfl ?_
      refine w_iload_n (pc := 85) (q := 1) G dM_divide_85 rfl rfl ?_
      obtain ⟨r86, e86, h⟩ := bd h
      refine w_callV (pc := 86) (av := [.int v1]) (rest := []) (v := none) (L' := (LM κ (x_many, x_generator, x_known, x_without, x_rows, r86.1, x_pivot, r86.2, x_multiple, x_last, x_made, x_settled, x_point, x_limit, x_mode, x_counted, x_listed, x_held, x_first, x_squares, x_wanted, x_spanned, x_span, x_minima, x_measured, x_found, x_any) X)) (T := TM) (fs := fl_M κ (x_many, x_generator, x_known, x_without, x_rows, r76.1, x_pivot, r81, x_multiple, x_last, x_made, x_settled, x_point, x_limit, x_mode, x_counted, x_listed, x_held, x_first, x_squares, x_wanted, x_spanned, x_span, x_minima, x_measured, x_found, x_any)) G 0 0 27 (by decide) lb_M rfl cb_M_swap_M_divide wd624 ws26 wd622 (met_M_swap κ X F v1  e86) rfl rfl rfl (Nat.le_of_ble_eq_true rfl) dM_divide_86 ?_
      refine w_aload_n (pc := 89) (q := 0) G dM_divide_89 rfl rfl ?_
      refine w_iload_n (pc := 90) (q := 2) G dM_divide_90 rfl rfl ?_
      obtain ⟨r91, e91, h⟩ := bd h
      refine w_callV (pc := 91) (av := [.int v2]) (rest := []) (v := none) (L' := (LM κ (x_many, x_generator, x_known, x_without, x_rows, r86.1, x_pivot, r91, x_multiple, x_last, x_made, x_settled, x_point, x_limit, x_mode, x_counted, x_listed, x_held, x_first, x_squares, x_wanted, x_spanned, x_span, x_minima, x_measured, x_found, x_any) X)) (T := TM) (fs := fl_M κ (x_many, x_generator, x_known, x_without, x_rows, r86.1, x_pivot, r86.2, x_multiple, x_last, x_made, x_settled, x_point, x_limit, x_mode, x_counted, x_listed, x_held, x_first, x_squares, x_wanted, x_spanned, x_span, x_minima, x_measured, x_found, x_any)) G 0 0 27 (by decide) lb_M rfl cb_M_tidy_M_divide wd609 ws23 wd607 (met_M_tidy κ X F v2  e91) rfl rfl rfl (Nat.le_of_ble_eq_true rfl) dM_divide_91 ?_
      refine w_aload_n (pc := 94) (q := 0) G dM_divide_94 rfl rfl ?_
      refine w_iload_n (pc := 95) (q := 1) G dM_divide_95 rfl rfl ?_
      obtain ⟨r96, e96, h⟩ := bd h
      refine w_callV (pc := 96) (av := [.int v1]) (rest := []) (v := none) (L' := (LM κ (x_many, x_generator, x_known, x_without, x_rows, r96.1, x_pivot, r96.2, x_multiple, x_last, x_made, x_settled, x_point, x_limit, x_mode, x_counted, x_listed, x_held, x_first, x_squares, x_wanted, x_spanned, x_span, x_minima, x_measured, x_found, x_any) X)) (T := TM) (fs := fl_M κ (x_many, x_generator, x_known, x_without, x_rows, r86.1, x_pivot, r91, x_multiple, x_last, x_made, x_settled, x_point, x_limit, x_mode, x_counted, x_listed, x_held, x_first, x_squares, x_wanted, x_spanned, x_span, x_minima, x_measured, x_found, x_any)) G 0 0 27 (by decide) lb_M rfl cb_M_swap_M_divide wd624 ws26 wd622 (met_M_swap κ X F v1  e96) rfl rfl rfl (Nat.le_of_ble_eq_true rfl) dM_divide_96 ?_
      refine w_goto (pc := 99) (tgt := 7) G dM_divide_99 (by decide) ?_
      refine w_sub (lv' := [(0, .ref (κ.1 0)), (1, .int v1), (2, .int v2)]) [0, 1, 2] rfl ?_
      exact ih r96.1 r96.2 out h K
noncomputable def lM_divide_124 (F : Nat) (v1 : Int32) (v2 : Int32) : Nat → Int32 → (Nat → Int64) → Option ((Nat → Int64))
  | 0, _, _ => none
  | n + 1, v3, x_fresh => if (4 : Int32) ≤ v3 then some (x_fresh) else gd (vp_in v3 4) (gd (vp_in v3 4) (lM_divide_124 F v1 v2 n (v3 + 1) (vp_updL x_fresh v3.toNatClampNeg (-(x_fresh v3.toNatClampNeg)))))
set_option maxHeartbeats 8000000 in
set_option maxRecDepth 100000 in
theorem lM_divide_124_ok {g : Gm} {κ : ctx} (G : OK g κ RM cM_divide 6 none rm_M_divide) (X : Nat → va_E) (F : Nat) {x_many : Int32} {x_generator : Nat → Int32} {x_known : Int32} {x_without : Int32} {x_rows : Int32} {x_row : Nat → Int64} {x_pivot : Nat → Int32} {x_multiple : Nat → Int64} {x_last : Nat → Int64} {x_made : Nat → Int64} {x_settled : Nat → Int64} {x_point : Nat → Int64} {x_limit : Int64} {x_mode : Int32} {x_counted : Int32} {x_listed : Int32} {x_held : Int32} {x_first : Nat → Int64} {x_squares : Nat → Int64} {x_wanted : Int32} {x_spanned : Int32} {x_span : Nat → Int64} {x_minima : Nat → Int32} {x_measured : Int32} {x_found : Nat → Int64} {x_any : Int32} (v1 : Int32) (v2 : Int32) : ∀ (n : Nat) (v3 : Int32) (x_fresh : Nat → Int64) (out : (Nat → Int64)), lM_divide_124 F  v1 v2 n v3 x_fresh = some out → (J g κ 6 148 [(0, .ref (κ.1 0)), (1, .int v1), (2, .int v2)] [] (LM κ (x_many, x_generator, x_known, x_without, x_rows, x_row, x_pivot, out, x_multiple, x_last, x_made, x_settled, x_point, x_limit, x_mode, x_counted, x_listed, x_held, x_first, x_squares, x_wanted, x_spanned, x_span, x_minima, x_measured, x_found, x_any) X)) → J g κ 6 124 [(0, .ref (κ.1 0)), (1, .int v1), (2, .int v2), (3, .int v3)] [] (LM κ (x_many, x_generator, x_known, x_without, x_rows, x_row, x_pivot, x_fresh, x_multiple, x_last, x_made, x_settled, x_point, x_limit, x_mode, x_counted, x_listed, x_held, x_first, x_squares, x_wanted, x_spanned, x_span, x_minima, x_measured, x_found, x_any) X) := by
  intro n
  induction n with
  | zero =>
    intro v3 x_fresh
    intro out h
    rw [lM_divide_124] at h
    cases h
  | succ n ih =>
    intro v3 x_fresh out h K
    rw [lM_divide_124] at h
    refine w_iload_n (pc := 124) (q := 3) G dM_divide_124 rfl rfl ?_
    refine w_iconst (pc := 125) (v := (4 : Int32)) G dM_divide_125 (by decide) ?_
    refine w_icmp_ge (pc := 126) (tgt := 148) G dM_divide_126 (by decide) (fun c126 => ?_) (fun c126 => ?_)
    · have h := if_t c126 h
      obtain rfl := Option.some.inj h
      refine w_sub (lv' := [(0, .ref (κ.1 0)), (1, .int v1), (2, .int v2)]) [0, 1, 2] rfl ?_
      exact K
    · have h := if_f c126 h
      refine w_aload_n (pc := 129) (q := 0) G dM_divide_129 rfl rfl ?_
      refine w_get (pc := 130) (v := .ref (κ.1 4)) (fs := fl_M κ (x_many, x_generator, x_known, x_without, x_rows, x_row, x_pivot, x_fresh, x_multiple, x_last, x_made, x_settled, x_point, x_limit, x_mode, x_counted, x_listed, x_held, x_first, x_squares, x_wanted, x_spanned, x_span, x_minima, x_measured, x_found, x_any)) G 0 (by decide) lb_M rfl wsM_ok 7 (by decide) wd497 gf_M_7 dM_divide_130 ?_
      refine w_iload_n (pc := 133) (q := 3) G dM_divide_133 rfl rfl ?_
      refine w_aload_n (pc := 134) (q := 0) G dM_divide_134 rfl rfl ?_
      refine w_get (pc := 135) (v := .ref (κ.1 4)) (fs := fl_M κ (x_many, x_generator, x_known, x_without, x_rows, x_row, x_pivot, x_fresh, x_multiple, x_last, x_made, x_settled, x_point, x_limit, x_mode, x_counted, x_listed, x_held, x_first, x_squares, x_wanted, x_spanned, x_span, x_minima, x_measured, x_found, x_any)) G 0 (by decide) lb_M rfl wsM_ok 7 (by decide) wd497 gf_M_7 dM_divide_135 ?_
      refine w_iload_n (pc := 138) (q := 3) G dM_divide_138 rfl rfl ?_
      obtain ⟨i139, h⟩ := gd_some h
      refine w_lald (pc := 139) (n := 4) (f := x_fresh) G 4 (by decide) lk_fresh i139 dM_divide_139 ?_
      refine w_lneg (pc := 140) G dM_divide_140 ?_
      obtain ⟨i141, h⟩ := gd_some h
      refine w_last (pc := 141) (n := 4) (f := x_fresh) (L1 := (LM κ (x_many, x_generator, x_known, x_without, x_rows, x_row, x_pivot, vp_updL x_fresh v3.toNatClampNeg (-(x_fresh v3.toNatClampNeg)), x_multiple, x_last, x_made, x_settled, x_point, x_limit, x_mode, x_counted, x_listed, x_held, x_first, x_squares, x_wanted, x_spanned, x_span, x_minima, x_measured, x_found, x_any) X)) G 4 (by decide) lk_fresh i141 dM_divide_141 up_fresh ?_
      refine w_iinc (pc := 142) (q0 := 3) (v := (v3 + 1)) (lv' := [(3, .int (v3 + 1)), (0, .ref (κ.1 0)), (1, .int v1), (2, .int v2)]) G dM_divide_142 rfl rfl (by decide) rfl ?_
      refine w_goto (pc := 145) (tgt := 124) G dM_divide_145 (by decide) ?_
      refine w_sub (lv' := [(0, .ref (κ.1 0)), (1, .int v1), (2, .int v2), (3, .int (v3 + 1))]) [1, 2, 3, 0] rfl ?_
      exact ih (v3 + 1) (vp_updL x_fresh v3.toNatClampNeg (-(x_fresh v3.toNatClampNeg))) out h K
noncomputable def M_divide (F : Nat) (x_rows : Int32) (x_row : Nat → Int64) (x_pivot : Nat → Int32) (x_fresh : Nat → Int64) (v1 : Int32) : Option ((Nat → Int64) × (Nat → Int64)) := gd (vp_in v1 5) ((lM_divide_7 F x_rows x_pivot v1 (x_pivot v1.toNatClampNeg) F x_row x_fresh).bind (fun o7_16 => gd (vp_in (((4 : Int32) * v1) + (x_pivot v1.toNatClampNeg)) 16) (if (0 : Int64) ≤ (o7_16.1 (((4 : Int32) * v1) + (x_pivot v1.toNatClampNeg)).toNatClampNeg) then some (o7_16.1, o7_16.2) else (M_swap F o7_16.1 o7_16.2 v1).bind (fun r119 => (lM_divide_124 F v1 (x_pivot v1.toNatClampNeg) F (0 : Int32) r119.2).bind (fun o124_24 => (M_tidy F x_rows r119.1 x_pivot o124_24 (x_pivot v1.toNatClampNeg)).bind (fun r150 => (M_swap F r119.1 r150 v1).bind (fun r155 => some (r155.1, r155.2))))))))
set_option maxHeartbeats 8000000 in
set_option maxRecDepth 100000 in
theorem met_M_divide (κ : ctx) (X : Nat → va_E) (F : Nat) {x_many : Int32} {x_generator : Nat → Int32} {x_known : Int32} {x_without : Int32} {x_rows : Int32} {x_row : Nat → Int64} {x_pivot : Nat → Int32} {x_fresh : Nat → Int64} {x_multiple : Nat → Int64} {x_last : Nat → Int64} {x_made : Nat → Int64} {x_settled : Nat → Int64} {x_point : Nat → Int64} {x_limit : Int64} {x_mode : Int32} {x_counted : Int32} {x_listed : Int32} {x_held : Int32} {x_first : Nat → Int64} {x_squares : Nat → Int64} {x_wanted : Int32} {x_spanned : Int32} {x_span : Nat → Int64} {x_minima : Nat → Int32} {x_measured : Int32} {x_found : Nat → Int64} {x_any : Int32} (v1 : Int32) {out : (Nat → Int64) × (Nat → Int64)} (h : M_divide F x_rows x_row x_pivot x_fresh v1 = some out) : Mt yM_divide cM_divide 6 none rm_M_divide κ [.ref (κ.1 0), .int v1] (LM κ (x_many, x_generator, x_known, x_without, x_rows, x_row, x_pivot, x_fresh, x_multiple, x_last, x_made, x_settled, x_point, x_limit, x_mode, x_counted, x_listed, x_held, x_first, x_squares, x_wanted, x_spanned, x_span, x_minima, x_measured, x_found, x_any) X) none (LM κ (x_many, x_generator, x_known, x_without, x_rows, out.1, x_pivot, out.2, x_multiple, x_last, x_made, x_settled, x_point, x_limit, x_mode, x_counted, x_listed, x_held, x_first, x_squares, x_wanted, x_spanned, x_span, x_minima, x_measured, x_found, x_any) X) := by
  refine Mt.of (by decide) (Nat.le_of_ble_eq_true rfl) ?_
  intro g G Fh
  unfold M_divide at h
  show J g κ 6 0 [(0, .ref (κ.1 0)), (1, .int v1)] [] (LM κ (x_many, x_generator, x_known, x_without, x_rows, x_row, x_pivot, x_fresh, x_multiple, x_last, x_made, x_settled, x_point, x_limit, x_mode, x_counted, x_listed, x_held, x_first, x_squares, x_wanted, x_spanned, x_span, x_minima, x_measured, x_found, x_any) X)
  refine w_aload_n (pc := 0) (q := 0) G dM_divide_0 rfl rfl ?_
  refine w_get (pc := 1) (v := .ref (κ.1 3)) (fs := fl_M κ (x_many, x_generator, x_known, x_without, x_rows, x_row, x_pivot, x_fresh, x_multiple, x_last, x_made, x_settled, x_point, x_limit, x_mode, x_counted, x_listed, x_held, x_first, x_squares, x_wanted, x_spanned, x_span, x_minima, x_measured, x_found, x_any)) G 0 (by decide) lb_M rfl wsM_ok 6 (by decide) wd496 gf_M_6 dM_divide_1 ?_
  refine w_iload_n (pc := 4) (q := 1) G dM_divide_4 rfl rfl ?_
  obtain ⟨i5, h⟩ := gd_some h
  refine w_iald (pc := 5) (n := 5) (f := x_pivot) G 3 (by decide) lk_pivot i5 dM_divide_5 ?_
  refine w_istore_n (pc := 6) (lv' := [(2, .int (x_pivot v1.toNatClampNeg)), (0, .ref (κ.1 0)), (1, .int v1)]) G dM_divide_6 rfl (by decide) rfl ?_
  refine w_sub (lv' := [(0, .ref (κ.1 0)), (1, .int v1), (2, .int (x_pivot v1.toNatClampNeg))]) [1, 2, 0] rfl ?_
  obtain ⟨o7_16, eo7_16, h⟩ := bd h
  refine lM_divide_7_ok G X F v1 (x_pivot v1.toNatClampNeg) F x_row x_fresh o7_16 eo7_16 ?_
  refine w_aload_n (pc := 102) (q := 0) G dM_divide_102 rfl rfl ?_
  refine w_get (pc := 103) (v := .ref (κ.1 2)) (fs := fl_M κ (x_many, x_generator, x_known, x_without, x_rows, o7_16.1, x_pivot, o7_16.2, x_multiple, x_last, x_made, x_settled, x_point, x_limit, x_mode, x_counted, x_listed, x_held, x_first, x_squares, x_wanted, x_spanned, x_span, x_minima, x_measured, x_found, x_any)) G 0 (by decide) lb_M rfl wsM_ok 5 (by decide) wd495 gf_M_5 dM_divide_103 ?_
  refine w_iconst (pc := 106) (v := (4 : Int32)) G dM_divide_106 (by decide) ?_
  refine w_iload_n (pc := 107) (q := 1) G dM_divide_107 rfl rfl ?_
  refine w_imul (pc := 108) G dM_divide_108 ?_
  refine w_iload_n (pc := 109) (q := 2) G dM_divide_109 rfl rfl ?_
  refine w_iadd (pc := 110) G dM_divide_110 ?_
  obtain ⟨i111, h⟩ := gd_some h
  refine w_lald (pc := 111) (n := 16) (f := o7_16.1) G 2 (by decide) lk_row i111 dM_divide_111 ?_
  refine w_lconst (pc := 112) (v := (0 : Int64)) G dM_divide_112 (by decide) ?_
  refine w_lc_ge (pc := 113) (tgt := 158) G dM_divide_113 dM_divide_114 (by decide) (fun c113 => ?_) (fun c113 => ?_)
  · have h := if_t c113 h
    obtain rfl := Option.some.inj h
    exact w_vret (pc := 158) G dM_divide_158 Fh
  · have h := if_f c113 h
    refine w_aload_n (pc := 117) (q := 0) G dM_divide_117 rfl rfl ?_
    refine w_iload_n (pc := 118) (q := 1) G dM_divide_118 rfl rfl ?_
    obtain ⟨r119, e119, h⟩ := bd h
    refine w_callV (pc := 119) (av := [.int v1]) (rest := []) (v := none) (L' := (LM κ (x_many, x_generator, x_known, x_without, x_rows, r119.1, x_pivot, r119.2, x_multiple, x_last, x_made, x_settled, x_point, x_limit, x_mode, x_counted, x_listed, x_held, x_first, x_squares, x_wanted, x_spanned, x_span, x_minima, x_measured, x_found, x_any) X)) (T := TM) (fs := fl_M κ (x_many, x_generator, x_known, x_without, x_rows, o7_16.1, x_pivot, o7_16.2, x_multiple, x_last, x_made, x_settled, x_point, x_limit, x_mode, x_counted, x_listed, x_held, x_first, x_squares, x_wanted, x_spanned, x_span, x_minima, x_measured, x_found, x_any)) G 0 0 27 (by decide) lb_M rfl cb_M_swap_M_divide wd624 ws26 wd622 (met_M_swap κ X F v1  e119) rfl rfl rfl (Nat.le_of_ble_eq_true rfl) dM_divide_119 ?_
    refine w_iconst (pc := 122) (v := (0 : Int32)) G dM_divide_122 (by decide) ?_
    refine w_istore_n (pc := 123) (lv' := [(3, .int (0 : Int32)), (0, .ref (κ.1 0)), (1, .int v1), (2, .int (x_pivot v1.toNatClampNeg))]) G dM_divide_123 rfl (by decide) rfl ?_
    refine w_sub (lv' := [(0, .ref (κ.1 0)), (1, .int v1), (2, .int (x_pivot v1.toNatClampNeg)), (3, .int (0 : Int32))]) [1, 2, 3, 0] rfl ?_
    obtain ⟨o124_24, eo124_24, h⟩ := bd h
    refine lM_divide_124_ok G X F v1 (x_pivot v1.toNatClampNeg) F (0 : Int32) r119.2 o124_24 eo124_24 ?_
    refine w_aload_n (pc := 148) (q := 0) G dM_divide_148 rfl rfl ?_
    refine w_iload_n (pc := 149) (q := 2) G dM_divide_149 rfl rfl ?_
    obtain ⟨r150, e150, h⟩ := bd h
    refine w_callV (pc := 150) (av := [.int (x_pivot v1.toNatClampNeg)]) (rest := []) (v := none) (L' := (LM κ (x_many, x_generator, x_known, x_without, x_rows, r119.1, x_pivot, r150, x_multiple, x_last, x_made, x_settled, x_point, x_limit, x_mode, x_counted, x_listed, x_held, x_first, x_squares, x_wanted, x_spanned, x_span, x_minima, x_measured, x_found, x_any) X)) (T := TM) (fs := fl_M κ (x_many, x_generator, x_known, x_without, x_rows, r119.1, x_pivot, o124_24, x_multiple, x_last, x_made, x_settled, x_point, x_limit, x_mode, x_counted, x_listed, x_held, x_first, x_squares, x_wanted, x_spanned, x_span, x_minima, x_measured, x_found, x_any)) G 0 0 27 (by decide) lb_M rfl cb_M_tidy_M_divide wd609 ws23 wd607 (met_M_tidy κ X F (x_pivot v1.toNatClampNeg)  e150) rfl rfl rfl (Nat.le_of_ble_eq_true rfl) dM_divide_150 ?_
    refine w_aload_n (pc := 153) (q := 0) G dM_divide_153 rfl rfl ?_
    refine w_iload_n (pc := 154) (q := 1) G dM_divide_154 rfl rfl ?_
    obtain ⟨r155, e155, h⟩ := bd h
    refine w_callV (pc := 155) (av := [.int v1]) (rest := []) (v := none) (L' := (LM κ (x_many, x_generator, x_known, x_without, x_rows, r155.1, x_pivot, r155.2, x_multiple, x_last, x_made, x_settled, x_point, x_limit, x_mode, x_counted, x_listed, x_held, x_first, x_squares, x_wanted, x_spanned, x_span, x_minima, x_measured, x_found, x_any) X)) (T := TM) (fs := fl_M κ (x_many, x_generator, x_known, x_without, x_rows, r119.1, x_pivot, r150, x_multiple, x_last, x_made, x_settled, x_point, x_limit, x_mode, x_counted, x_listed, x_held, x_first, x_squares, x_wanted, x_spanned, x_span, x_minima, x_measured, x_found, x_any)) G 0 0 27 (by decide) lb_M rfl cb_M_swap_M_divide wd624 ws26 wd622 (met_M_swap κ X F v1  e155) rfl rfl rfl (Nat.le_of_ble_eq_true rfl) dM_divide_155 ?_
    obtain rfl := Option.some.inj h
    exact w_vret (pc := 158) G dM_divide_158 Fh
def rm_M_enter : Room := { frames := 3, cells := 0, slots := 0, locals := 76 }
theorem dM_enter_0 : decode cM_enter 0 = .ok (.iconst 0, 1) := by decide +kernel
theorem dM_enter_1 : decode cM_enter 1 = .ok (.istore_n 1, 1) := by decide +kernel
theorem dM_enter_2 : decode cM_enter 2 = .ok (.iload_n 1, 1) := by decide +kernel
theorem dM_enter_3 : decode cM_enter 3 = .ok (.iconst 4, 1) := by decide +kernel
theorem dM_enter_4 : decode cM_enter 4 = .ok (.if_icmp .ge 46, 3) := by decide +kernel
theorem dM_enter_7 : decode cM_enter 7 = .ok (.aload_n 0, 1) := by decide +kernel
theorem dM_enter_8 : decode cM_enter 8 = .ok (.getfield 20, 3) := by decide +kernel
theorem dM_enter_11 : decode cM_enter 11 = .ok (.iload_n 1, 1) := by decide +kernel
theorem dM_enter_12 : decode cM_enter 12 = .ok (.laload, 1) := by decide +kernel
theorem dM_enter_13 : decode cM_enter 13 = .ok (.lconst 0, 1) := by decide +kernel
theorem dM_enter_14 : decode cM_enter 14 = .ok (.lcmp, 1) := by decide +kernel
theorem dM_enter_15 : decode cM_enter 15 = .ok (.ifCond .eq 29, 3) := by decide +kernel
theorem dM_enter_18 : decode cM_enter 18 = .ok (.aload_n 0, 1) := by decide +kernel
theorem dM_enter_19 : decode cM_enter 19 = .ok (.iload_n 1, 1) := by decide +kernel
theorem dM_enter_20 : decode cM_enter 20 = .ok (.invokevirtual 77, 3) := by decide +kernel
theorem dM_enter_23 : decode cM_enter 23 = .ok (.istore_n 2, 1) := by decide +kernel
theorem dM_enter_24 : decode cM_enter 24 = .ok (.iload_n 2, 1) := by decide +kernel
theorem dM_enter_25 : decode cM_enter 25 = .ok (.ifCond .ge 14, 3) := by decide +kernel
theorem dM_enter_28 : decode cM_enter 28 = .ok (.aload_n 0, 1) := by decide +kernel
theorem dM_enter_29 : decode cM_enter 29 = .ok (.iload_n 1, 1) := by decide +kernel
theorem dM_enter_30 : decode cM_enter 30 = .ok (.invokevirtual 89, 3) := by decide +kernel
theorem dM_enter_33 : decode cM_enter 33 = .ok (.aload_n 0, 1) := by decide +kernel
theorem dM_enter_34 : decode cM_enter 34 = .ok (.iload_n 1, 1) := by decide +kernel
theorem dM_enter_35 : decode cM_enter 35 = .ok (.invokevirtual 92, 3) := by decide +kernel
theorem dM_enter_38 : decode cM_enter 38 = .ok (.return_, 1) := by decide +kernel
theorem dM_enter_39 : decode cM_enter 39 = .ok (.aload_n 0, 1) := by decide +kernel
theorem dM_enter_40 : decode cM_enter 40 = .ok (.iload_n 2, 1) := by decide +kernel
theorem dM_enter_41 : decode cM_enter 41 = .ok (.invokevirtual 95, 3) := by decide +kernel
theorem dM_enter_44 : decode cM_enter 44 = .ok (.iinc 1 1, 3) := by decide +kernel
theorem dM_enter_47 : decode cM_enter 47 = .ok (.goto (-45), 3) := by decide +kernel
theorem dM_enter_50 : decode cM_enter 50 = .ok (.return_, 1) := by decide +kernel
theorem cb_M_divide_M_enter : CB yM_divide cM_divide 6 none rm_M_divide rm_M_enter 1 := ⟨wd621, wd8, by decide +kernel, rfl, rfl, by decide⟩
theorem cb_M_insert_M_enter : CB yM_insert cM_insert 4 none rm_M_insert rm_M_enter 1 := ⟨wd617, wd8, by decide +kernel, rfl, rfl, by decide⟩
theorem cb_M_rowAt_M_enter : CB yM_rowAt cM_rowAt 4 (some .int) rm_M_rowAt rm_M_enter 1 := ⟨wd606, wd8, by decide +kernel, rfl, rfl, by decide⟩
theorem cb_M_tidy_M_enter : CB yM_tidy cM_tidy 7 none rm_M_tidy rm_M_enter 1 := ⟨wd610, wd8, by decide +kernel, rfl, rfl, by decide⟩
noncomputable def lM_enter_2 (F : Nat) : Nat → Int32 → Int32 → (Nat → Int64) → (Nat → Int32) → (Nat → Int64) → Option ((Int32 × (Nat → Int64) × (Nat → Int32) × (Nat → Int64)) ⊕ (Int32 × (Nat → Int64) × (Nat → Int32) × (Nat → Int64)))
  | 0, _, _, _, _, _ => none
  | n + 1, v1, x_rows, x_row, x_pivot, x_fresh => if (4 : Int32) ≤ v1 then some (.inl (x_rows, x_row, x_pivot, x_fresh)) else gd (vp_in v1 4) (if (x_fresh v1.toNatClampNeg) = (0 : Int64) then lM_enter_2 F  n (v1 + 1) x_rows x_row x_pivot x_fresh else (M_rowAt F x_rows x_pivot v1).bind (fun r20 => if 0 ≤ r20 then (M_divide F x_rows x_row x_pivot x_fresh r20).bind (fun r41 => lM_enter_2 F  n (v1 + 1) x_rows r41.1 x_pivot r41.2) else (M_tidy F x_rows x_row x_pivot x_fresh v1).bind (fun r30 => (M_insert F x_rows x_row x_pivot r30 v1).bind (fun r35 => some (.inr (r35.1, r35.2.1, r35.2.2, r30))))))
set_option maxHeartbeats 8000000 in
set_option maxRecDepth 100000 in
theorem lM_enter_2_ok {g : Gm} {κ : ctx} (G : OK g κ RM cM_enter 3 none rm_M_enter) (X : Nat → va_E) (F : Nat) {x_many : Int32} {x_generator : Nat → Int32} {x_known : Int32} {x_without : Int32} {x_multiple : Nat → Int64} {x_last : Nat → Int64} {x_made : Nat → Int64} {x_settled : Nat → Int64} {x_point : Nat → Int64} {x_limit : Int64} {x_mode : Int32} {x_counted : Int32} {x_listed : Int32} {x_held : Int32} {x_first : Nat → Int64} {x_squares : Nat → Int64} {x_wanted : Int32} {x_spanned : Int32} {x_span : Nat → Int64} {x_minima : Nat → Int32} {x_measured : Int32} {x_found : Nat → Int64} {x_any : Int32} : ∀ (n : Nat) (v1 : Int32) (x_rows : Int32) (x_row : Nat → Int64) (x_pivot : Nat → Int32) (x_fresh : Nat → Int64) (out : (Int32 × (Nat → Int64) × (Nat → Int32) × (Nat → Int64)) ⊕ (Int32 × (Nat → Int64) × (Nat → Int32) × (Nat → Int64))), lM_enter_2 F   n v1 x_rows x_row x_pivot x_fresh = some out → (∀ e, out = .inl e → (J g κ 3 50 [] [] (LM κ (x_many, x_generator, x_known, x_without, e.1, e.2.1, e.2.2.1, e.2.2.2, x_multiple, x_last, x_made, x_settled, x_point, x_limit, x_mode, x_counted, x_listed, x_held, x_first, x_squares, x_wanted, x_spanned, x_span, x_minima, x_measured, x_found, x_any) X))) → (∀ r, out = .inr r → Fn g κ none (LM κ (x_many, x_generator, x_known, x_without, r.1, r.2.1, r.2.2.1, r.2.2.2, x_multiple, x_last, x_made, x_settled, x_point, x_limit, x_mode, x_counted, x_listed, x_held, x_first, x_squares, x_wanted, x_spanned, x_span, x_minima, x_measured, x_found, x_any) X)) → J g κ 3 2 [(0, .ref (κ.1 0)), (1, .int v1)] [] (LM κ (x_many, x_generator, x_known, x_without, x_rows, x_row, x_pivot, x_fresh, x_multiple, x_last, x_made, x_settled, x_point, x_limit, x_mode, x_counted, x_listed, x_held, x_first, x_squares, x_wanted, x_spanned, x_span, x_minima, x_measured, x_found, x_any) X) := by
  intro n
  induction n with
  | zero =>
    intro v1 x_rows x_row x_pivot x_fresh
    intro out h
    rw [lM_enter_2] at h
    cases h
  | succ n ih =>
    intro v1 x_rows x_row x_pivot x_fresh out h K K2
    rw [lM_enter_2] at h
    refine w_iload_n (pc := 2) (q := 1) G dM_enter_2 rfl rfl ?_
    refine w_iconst (pc := 3) (v := (4 : Int32)) G dM_enter_3 (by decide) ?_
    refine w_icmp_ge (pc := 4) (tgt := 50) G dM_enter_4 (by decide) (fun c4 => ?_) (fun c4 => ?_)
    · have h := if_t c4 h
      obtain rfl := Option.some.inj h
      refine w_sub (lv' := []) [] rfl ?_
      have K9 := K _ rfl
      exact K9
    · have h := if_f c4 h
      refine w_aload_n (pc := 7) (q := 0) G dM_enter_7 rfl rfl ?_
      refine w_get (pc := 8) (v := .ref (κ.1 4)) (fs := fl_M κ (x_many, x_generator, x_known, x_without, x_rows, x_row, x_pivot, x_fresh, x_multiple, x_last, x_made, x_settled, x_point, x_limit, x_mode, x_counted, x_listed, x_held, x_first, x_squares, x_wanted, x_spanned, x_span, x_minima, x_measured, x_found, x_any)) G 0 (by decide) lb_M rfl wsM_ok 7 (by decide) wd497 gf_M_7 dM_enter_8 ?_
      refine w_iload_n (pc := 11) (q := 1) G dM_enter_11 rfl rfl ?_
      obtain ⟨i12, h⟩ := gd_some h
      refine w_lald (pc := 12) (n := 4) (f := x_fresh) G 4 (by decide) lk_fresh i12 dM_enter_12 ?_
      refine w_lconst (pc := 13) (v := (0 : Int64)) G dM_enter_13 (by decide) ?_
      refine w_lc_eq (pc := 14) (tgt := 44) G dM_enter_14 dM_enter_15 (by decide) (fun c14 => ?_) (fun c14 => ?_)
      · have h := if_t c14 h
        refine w_iinc (pc := 44) (q0 := 1) (v := (v1 + 1)) (lv' := [(1, .int (v1 + 1)), (0, .ref (κ.1 0))]) G dM_enter_44 rfl rfl (by decide) rfl ?_
        refine w_goto (pc := 47) (tgt := 2) G dM_enter_47 (by decide) ?_
        refine w_sub (lv' := [(0, .ref (κ.1 0)), (1, .int (v1 + 1))]) [1, 0] rfl ?_
        exact ih (v1 + 1) x_rows x_row x_pivot x_fresh out h K K2
      · have h := if_f c14 h
        refine w_aload_n (pc := 18) (q := 0) G dM_enter_18 rfl rfl ?_
        refine w_iload_n (pc := 19) (q := 1) G dM_enter_19 rfl rfl ?_
        obtain ⟨r20, e20, h⟩ := bd h
        refine w_callV (pc := 20) (av := [.int v1]) (rest := []) (v := some (.int r20)) (L' := (LM κ (x_many, x_generator, x_known, x_without, x_rows, x_row, x_pivot, x_fresh, x_multiple, x_last, x_made, x_settled, x_point, x_limit, x_mode, x_counted, x_listed, x_held, x_first, x_squares, x_wanted, x_spanned, x_span, x_minima, x_measured, x_found, x_any) X)) (T := TM) (fs := fl_M κ (x_many, x_generator, x_known, x_without, x_rows, x_row, x_pivot, x_fresh, x_multiple, x_last, x_made, x_settled, x_point, x_limit, x_mode, x_counted, x_listed, x_held, x_first, x_squares, x_wanted, x_spanned, x_span, x_minima, x_measured, x_found, x_any)) G 0 0 27 (by decide) lb_M rfl cb_M_rowAt_M_enter wd605 ws22 wd603 (met_M_rowAt κ X F v1  e20) rfl rfl rfl (Nat.le_of_ble_eq_true rfl) dM_enter_20 ?_
        refine w_istore_n (pc := 23) (lv' := [(2, .int r20), (0, .ref (κ.1 0)), (1, .int v1)]) G dM_enter_23 rfl (by decide) rfl ?_
        refine w_iload_n (pc := 24) (q := 0) G dM_enter_24 rfl rfl ?_
        refine w_if_ge (pc := 25) (tgt := 39) G dM_enter_25 (by decide) (fun c25 => ?_) (fun c25 => ?_)
        · have h := if_t c25 h
          refine w_aload_n (pc := 39) (q := 1) G dM_enter_39 rfl rfl ?_
          refine w_iload_n (pc := 40) (q := 0) G dM_enter_40 rfl rfl ?_
          obtain ⟨r41, e41, h⟩ := bd h
          refine w_callV (pc := 41) (av := [.int r20]) (rest := []) (v := none) (L' := (LM κ (x_many, x_generator, x_known, x_without, x_rows, r41.1, x_pivot, r41.2, x_multiple, x_last, x_made, x_settled, x_point, x_limit, x_mode, x_counted, x_listed, x_held, x_first, x_squares, x_wanted, x_spanned, x_span, x_minima, x_measured, x_found, x_any) X)) (T := TM) (fs := fl_M κ (x_many, x_generator, x_known, x_without, x_rows, x_row, x_pivot, x_fresh, x_multiple, x_last, x_made, x_settled, x_point, x_limit, x_mode, x_counted, x_listed, x_held, x_first, x_squares, x_wanted, x_spanned, x_span, x_minima, x_measured, x_found, x_any)) G 0 0 27 (by decide) lb_M rfl cb_M_divide_M_enter wd620 ws25 wd618 (met_M_divide κ X F r20  e41) rfl rfl rfl (Nat.le_of_ble_eq_true rfl) dM_enter_41 ?_
          refine w_iinc (pc := 44) (q0 := 2) (v := (v1 + 1)) (lv' := [(1, .int (v1 + 1)), (2, .int r20), (0, .ref (κ.1 0))]) G dM_enter_44 rfl rfl (by decide) rfl ?_
          refine w_goto (pc := 47) (tgt := 2) G dM_enter_47 (by decide) ?_
          refine w_sub (lv' := [(0, .ref (κ.1 0)), (1, .int (v1 + 1))]) [2, 0] rfl ?_
          exact ih (v1 + 1) x_rows r41.1 x_pivot r41.2 out h K K2
        · have h := if_f c25 h
          refine w_aload_n (pc := 28) (q := 1) G dM_enter_28 rfl rfl ?_
          refine w_iload_n (pc := 29) (q := 2) G dM_enter_29 rfl rfl ?_
          obtain ⟨r30, e30, h⟩ := bd h
          refine w_callV (pc := 30) (av := [.int v1]) (rest := []) (v := none) (L' := (LM κ (x_many, x_generator, x_known, x_without, x_rows, x_row, x_pivot, r30, x_multiple, x_last, x_made, x_settled, x_point, x_limit, x_mode, x_counted, x_listed, x_held, x_first, x_squares, x_wanted, x_spanned, x_span, x_minima, x_measured, x_found, x_any) X)) (T := TM) (fs := fl_M κ (x_many, x_generator, x_known, x_without, x_rows, x_row, x_pivot, x_fresh, x_multiple, x_last, x_made, x_settled, x_point, x_limit, x_mode, x_counted, x_listed, x_held, x_first, x_squares, x_wanted, x_spanned, x_span, x_minima, x_measured, x_found, x_any)) G 0 0 27 (by decide) lb_M rfl cb_M_tidy_M_enter wd609 ws23 wd607 (met_M_tidy κ X F v1  e30) rfl rfl rfl (Nat.le_of_ble_eq_true rfl) dM_enter_30 ?_
          refine w_aload_n (pc := 33) (q := 1) G dM_enter_33 rfl rfl ?_
          refine w_iload_n (pc := 34) (q := 2) G dM_enter_34 rfl rfl ?_
          obtain ⟨r35, e35, h⟩ := bd h
          refine w_callV (pc := 35) (av := [.int v1]) (rest := []) (v := none) (L' := (LM κ (x_many, x_generator, x_known, x_without, r35.1, r35.2.1, r35.2.2, r30, x_multiple, x_last, x_made, x_settled, x_point, x_limit, x_mode, x_counted, x_listed, x_held, x_first, x_squares, x_wanted, x_spanned, x_span, x_minima, x_measured, x_found, x_any) X)) (T := TM) (fs := fl_M κ (x_many, x_generator, x_known, x_without, x_rows, x_row, x_pivot, r30, x_multiple, x_last, x_made, x_settled, x_point, x_limit, x_mode, x_counted, x_listed, x_held, x_first, x_squares, x_wanted, x_spanned, x_span, x_minima, x_measured, x_found, x_any)) G 0 0 27 (by decide) lb_M rfl cb_M_insert_M_enter wd616 ws24 wd614 (met_M_insert κ X F v1  e35) rfl rfl rfl (Nat.le_of_ble_eq_true rfl) dM_enter_35 ?_
          obtain rfl := Option.some.inj h
          have K9 := K2 _ rfl
          exact w_vret (pc := 38) G dM_enter_38 K9
noncomputable def M_enter (F : Nat) (x_rows : Int32) (x_row : Nat → Int64) (x_pivot : Nat → Int32) (x_fresh : Nat → Int64)  : Option (Int32 × (Nat → Int64) × (Nat → Int32) × (Nat → Int64)) := (lM_enter_2 F  F (0 : Int32) x_rows x_row x_pivot x_fresh).bind (fun o2_15 => match o2_15 with | .inl o2_15 => some (o2_15.1, o2_15.2.1, o2_15.2.2.1, o2_15.2.2.2) | .inr o2_15 => some o2_15)
set_option maxHeartbeats 8000000 in
set_option maxRecDepth 100000 in
theorem met_M_enter (κ : ctx) (X : Nat → va_E) (F : Nat) {x_many : Int32} {x_generator : Nat → Int32} {x_known : Int32} {x_without : Int32} {x_rows : Int32} {x_row : Nat → Int64} {x_pivot : Nat → Int32} {x_fresh : Nat → Int64} {x_multiple : Nat → Int64} {x_last : Nat → Int64} {x_made : Nat → Int64} {x_settled : Nat → Int64} {x_point : Nat → Int64} {x_limit : Int64} {x_mode : Int32} {x_counted : Int32} {x_listed : Int32} {x_held : Int32} {x_first : Nat → Int64} {x_squares : Nat → Int64} {x_wanted : Int32} {x_spanned : Int32} {x_span : Nat → Int64} {x_minima : Nat → Int32} {x_measured : Int32} {x_found : Nat → Int64} {x_any : Int32}  {out : Int32 × (Nat → Int64) × (Nat → Int32) × (Nat → Int64)} (h : M_enter F x_rows x_row x_pivot x_fresh  = some out) : Mt yM_enter cM_enter 3 none rm_M_enter κ [.ref (κ.1 0)] (LM κ (x_many, x_generator, x_known, x_without, x_rows, x_row, x_pivot, x_fresh, x_multiple, x_last, x_made, x_settled, x_point, x_limit, x_mode, x_counted, x_listed, x_held, x_first, x_squares, x_wanted, x_spanned, x_span, x_minima, x_measured, x_found, x_any) X) none (LM κ (x_many, x_generator, x_known, x_without, out.1, out.2.1, out.2.2.1, out.2.2.2, x_multiple, x_last, x_made, x_settled, x_point, x_limit, x_mode, x_counted, x_listed, x_held, x_first, x_squares, x_wanted, x_spanned, x_span, x_minima, x_measured, x_found, x_any) X) := by
  refine Mt.of (by decide) (Nat.le_of_ble_eq_true rfl) ?_
  intro g G Fh
  unfold M_enter at h
  show J g κ 3 0 [(0, .ref (κ.1 0))] [] (LM κ (x_many, x_generator, x_known, x_without, x_rows, x_row, x_pivot, x_fresh, x_multiple, x_last, x_made, x_settled, x_point, x_limit, x_mode, x_counted, x_listed, x_held, x_first, x_squares, x_wanted, x_spanned, x_span, x_minima, x_measured, x_found, x_any) X)
  refine w_iconst (pc := 0) (v := (0 : Int32)) G dM_enter_0 (by decide) ?_
  refine w_istore_n (pc := 1) (lv' := [(1, .int (0 : Int32)), (0, .ref (κ.1 0))]) G dM_enter_1 rfl (by decide) rfl ?_
  refine w_sub (lv' := [(0, .ref (κ.1 0)), (1, .int (0 : Int32))]) [1, 0] rfl ?_
  obtain ⟨o2_15, eo2_15, h⟩ := bd h
  rcases o2_15 with o2_15 | o2_15
  · refine lM_enter_2_ok G X F F (0 : Int32) x_rows x_row x_pivot x_fresh (.inl o2_15) eo2_15 (fun e he => ?_) (fun r he => by cases he)
    cases he
    dsimp only at h
    obtain rfl := Option.some.inj h
    exact w_vret (pc := 50) G dM_enter_50 Fh
  · refine lM_enter_2_ok G X F F (0 : Int32) x_rows x_row x_pivot x_fresh (.inr o2_15) eo2_15 (fun e he => by cases he) (fun r he => ?_)
    cases he
    dsimp only at h
    obtain rfl := Option.some.inj h
    exact Fh
def rm_M_look : Room := { frames := 4, cells := 0, slots := 0, locals := 98 }
theorem dM_look_0 : decode cM_look 0 = .ok (.aload_n 0, 1) := by decide +kernel
theorem dM_look_1 : decode cM_look 1 = .ok (.getfield 53, 3) := by decide +kernel
theorem dM_look_4 : decode cM_look 4 = .ok (.ifCond .eq 12, 3) := by decide +kernel
theorem dM_look_7 : decode cM_look 7 = .ok (.aload_n 0, 1) := by decide +kernel
theorem dM_look_8 : decode cM_look 8 = .ok (.getfield 98, 3) := by decide +kernel
theorem dM_look_11 : decode cM_look 11 = .ok (.iload_n 1, 1) := by decide +kernel
theorem dM_look_12 : decode cM_look 12 = .ok (.if_icmp .ne 4, 3) := by decide +kernel
theorem dM_look_15 : decode cM_look 15 = .ok (.return_, 1) := by decide +kernel
theorem dM_look_16 : decode cM_look 16 = .ok (.aload_n 0, 1) := by decide +kernel
theorem dM_look_17 : decode cM_look 17 = .ok (.iconst 1, 1) := by decide +kernel
theorem dM_look_18 : decode cM_look 18 = .ok (.putfield 53, 3) := by decide +kernel
theorem dM_look_21 : decode cM_look 21 = .ok (.aload_n 0, 1) := by decide +kernel
theorem dM_look_22 : decode cM_look 22 = .ok (.iload_n 1, 1) := by decide +kernel
theorem dM_look_23 : decode cM_look 23 = .ok (.putfield 98, 3) := by decide +kernel
theorem dM_look_26 : decode cM_look 26 = .ok (.aload_n 0, 1) := by decide +kernel
theorem dM_look_27 : decode cM_look 27 = .ok (.iconst 0, 1) := by decide +kernel
theorem dM_look_28 : decode cM_look 28 = .ok (.putfield 74, 3) := by decide +kernel
theorem dM_look_31 : decode cM_look 31 = .ok (.iconst 0, 1) := by decide +kernel
theorem dM_look_32 : decode cM_look 32 = .ok (.istore_n 2, 1) := by decide +kernel
theorem dM_look_33 : decode cM_look 33 = .ok (.iload_n 2, 1) := by decide +kernel
theorem dM_look_34 : decode cM_look 34 = .ok (.aload_n 0, 1) := by decide +kernel
theorem dM_look_35 : decode cM_look 35 = .ok (.getfield 67, 3) := by decide +kernel
theorem dM_look_38 : decode cM_look 38 = .ok (.if_icmp .ge 48, 3) := by decide +kernel
theorem dM_look_41 : decode cM_look 41 = .ok (.iload_n 2, 1) := by decide +kernel
theorem dM_look_42 : decode cM_look 42 = .ok (.iload_n 1, 1) := by decide +kernel
theorem dM_look_43 : decode cM_look 43 = .ok (.if_icmp .eq 37, 3) := by decide +kernel
theorem dM_look_46 : decode cM_look 46 = .ok (.iconst 0, 1) := by decide +kernel
theorem dM_look_47 : decode cM_look 47 = .ok (.istore_n 3, 1) := by decide +kernel
theorem dM_look_48 : decode cM_look 48 = .ok (.iload_n 3, 1) := by decide +kernel
theorem dM_look_49 : decode cM_look 49 = .ok (.iconst 4, 1) := by decide +kernel
theorem dM_look_50 : decode cM_look 50 = .ok (.if_icmp .ge 26, 3) := by decide +kernel
theorem dM_look_53 : decode cM_look 53 = .ok (.aload_n 0, 1) := by decide +kernel
theorem dM_look_54 : decode cM_look 54 = .ok (.getfield 20, 3) := by decide +kernel
theorem dM_look_57 : decode cM_look 57 = .ok (.iload_n 3, 1) := by decide +kernel
theorem dM_look_58 : decode cM_look 58 = .ok (.aload_n 0, 1) := by decide +kernel
theorem dM_look_59 : decode cM_look 59 = .ok (.getfield 7, 3) := by decide +kernel
theorem dM_look_62 : decode cM_look 62 = .ok (.iconst 4, 1) := by decide +kernel
theorem dM_look_63 : decode cM_look 63 = .ok (.iload_n 2, 1) := by decide +kernel
theorem dM_look_64 : decode cM_look 64 = .ok (.imul, 1) := by decide +kernel
theorem dM_look_65 : decode cM_look 65 = .ok (.iload_n 3, 1) := by decide +kernel
theorem dM_look_66 : decode cM_look 66 = .ok (.iadd, 1) := by decide +kernel
theorem dM_look_67 : decode cM_look 67 = .ok (.iaload, 1) := by decide +kernel
theorem dM_look_68 : decode cM_look 68 = .ok (.i2l, 1) := by decide +kernel
theorem dM_look_69 : decode cM_look 69 = .ok (.lastore, 1) := by decide +kernel
theorem dM_look_70 : decode cM_look 70 = .ok (.iinc 3 1, 3) := by decide +kernel
theorem dM_look_73 : decode cM_look 73 = .ok (.goto (-25), 3) := by decide +kernel
theorem dM_look_76 : decode cM_look 76 = .ok (.aload_n 0, 1) := by decide +kernel
theorem dM_look_77 : decode cM_look 77 = .ok (.invokevirtual 101, 3) := by decide +kernel
theorem dM_look_80 : decode cM_look 80 = .ok (.iinc 2 1, 3) := by decide +kernel
theorem dM_look_83 : decode cM_look 83 = .ok (.goto (-50), 3) := by decide +kernel
theorem dM_look_86 : decode cM_look 86 = .ok (.return_, 1) := by decide +kernel
theorem cb_M_enter_M_look : CB yM_enter cM_enter 3 none rm_M_enter rm_M_look 0 := ⟨wd602, wd8, by decide +kernel, rfl, rfl, by decide⟩
noncomputable def lM_look_48 (F : Nat) (x_generator : Nat → Int32) (v1 : Int32) (v2 : Int32) : Nat → Int32 → (Nat → Int64) → Option ((Nat → Int64))
  | 0, _, _ => none
  | n + 1, v3, x_fresh => if (4 : Int32) ≤ v3 then some (x_fresh) else gd (vp_in (((4 : Int32) * v2) + v3) 24) (gd (vp_in v3 4) (lM_look_48 F x_generator v1 v2 n (v3 + 1) (vp_updL x_fresh v3.toNatClampNeg ((x_generator (((4 : Int32) * v2) + v3).toNatClampNeg).toInt64))))
set_option maxHeartbeats 8000000 in
set_option maxRecDepth 100000 in
theorem lM_look_48_ok {g : Gm} {κ : ctx} (G : OK g κ RM cM_look 4 none rm_M_look) (X : Nat → va_E) (F : Nat) {x_many : Int32} {x_generator : Nat → Int32} {x_known : Int32} {x_without : Int32} {x_rows : Int32} {x_row : Nat → Int64} {x_pivot : Nat → Int32} {x_multiple : Nat → Int64} {x_last : Nat → Int64} {x_made : Nat → Int64} {x_settled : Nat → Int64} {x_point : Nat → Int64} {x_limit : Int64} {x_mode : Int32} {x_counted : Int32} {x_listed : Int32} {x_held : Int32} {x_first : Nat → Int64} {x_squares : Nat → Int64} {x_wanted : Int32} {x_spanned : Int32} {x_span : Nat → Int64} {x_minima : Nat → Int32} {x_measured : Int32} {x_found : Nat → Int64} {x_any : Int32} (v1 : Int32) (v2 : Int32) : ∀ (n : Nat) (v3 : Int32) (x_fresh : Nat → Int64) (out : (Nat → Int64)), lM_look_48 F x_generator v1 v2 n v3 x_fresh = some out → (J g κ 4 76 [(0, .ref (κ.1 0)), (1, .int v1), (2, .int v2)] [] (LM κ (x_many, x_generator, x_known, x_without, x_rows, x_row, x_pivot, out, x_multiple, x_last, x_made, x_settled, x_point, x_limit, x_mode, x_counted, x_listed, x_held, x_first, x_squares, x_wanted, x_spanned, x_span, x_minima, x_measured, x_found, x_any) X)) → J g κ 4 48 [(0, .ref (κ.1 0)), (1, .int v1), (2, .int v2), (3, .int v3)] [] (LM κ (x_many, x_generator, x_known, x_without, x_rows, x_row, x_pivot, x_fresh, x_multiple, x_last, x_made, x_settled, x_point, x_limit, x_mode, x_counted, x_listed, x_held, x_first, x_squares, x_wanted, x_spanned, x_span, x_minima, x_measured, x_found, x_any) X) := by
  intro n
  induction n with
  | zero =>
    intro v3 x_fresh
    intro out h
    rw [lM_look_48] at h
    cases h
  | succ n ih =>
    intro v3 x_fresh out h K
    rw [lM_look_48] at h
    refine w_iload_n (pc := 48) (q := 3) G dM_look_48 rfl rfl ?_
    refine w_iconst (pc := 49) (v := (4 : Int32)) G dM_look_49 (by decide) ?_
    refine w_icmp_ge (pc := 50) (tgt := 76) G dM_look_50 (by decide) (fun c50 => ?_) (fun c50 => ?_)
    · have h := if_t c50 h
      obtain rfl := Option.some.inj h
      refine w_sub (lv' := [(0, .ref (κ.1 0)), (1, .int v1), (2, .int v2)]) [0, 1, 2] rfl ?_
      exact K
    · have h := if_f c50 h
      refine w_aload_n (pc := 53) (q := 0) G dM_look_53 rfl rfl ?_
      refine w_get (pc := 54) (v := .ref (κ.1 4)) (fs := fl_M κ (x_many, x_generator, x_known, x_without, x_rows, x_row, x_pivot, x_fresh, x_multiple, x_last, x_made, x_settled, x_point, x_limit, x_mode, x_counted, x_listed, x_held, x_first, x_squares, x_wanted, x_spanned, x_span, x_minima, x_measured, x_found, x_any)) G 0 (by decide) lb_M rfl wsM_ok 7 (by decide) wd497 gf_M_7 dM_look_54 ?_
      refine w_iload_n (pc := 57) (q := 3) G dM_look_57 rfl rfl ?_
      refine w_aload_n (pc := 58) (q := 0) G dM_look_58 rfl rfl ?_
      refine w_get (pc := 59) (v := .ref (κ.1 1)) (fs := fl_M κ (x_many, x_generator, x_known, x_without, x_rows, x_row, x_pivot, x_fresh, x_multiple, x_last, x_made, x_settled, x_point, x_limit, x_mode, x_counted, x_listed, x_held, x_first, x_squares, x_wanted, x_spanned, x_span, x_minima, x_measured, x_found, x_any)) G 0 (by decide) lb_M rfl wsM_ok 1 (by decide) wd491 gf_M_1 dM_look_59 ?_
      refine w_iconst (pc := 62) (v := (4 : Int32)) G dM_look_62 (by decide) ?_
      refine w_iload_n (pc := 63) (q := 2) G dM_look_63 rfl rfl ?_
      refine w_imul (pc := 64) G dM_look_64 ?_
      refine w_iload_n (pc := 65) (q := 3) G dM_look_65 rfl rfl ?_
      refine w_iadd (pc := 66) G dM_look_66 ?_
      obtain ⟨i67, h⟩ := gd_some h
      refine w_iald (pc := 67) (n := 24) (f := x_generator) G 1 (by decide) lk_generator i67 dM_look_67 ?_
      refine w_i2l (pc := 68) G dM_look_68 ?_
      obtain ⟨i69, h⟩ := gd_some h
      refine w_last (pc := 69) (n := 4) (f := x_fresh) (L1 := (LM κ (x_many, x_generator, x_known, x_without, x_rows, x_row, x_pivot, vp_updL x_fresh v3.toNatClampNeg ((x_generator (((4 : Int32) * v2) + v3).toNatClampNeg).toInt64), x_multiple, x_last, x_made, x_settled, x_point, x_limit, x_mode, x_counted, x_listed, x_held, x_first, x_squares, x_wanted, x_spanned, x_span, x_minima, x_measured, x_found, x_any) X)) G 4 (by decide) lk_fresh i69 dM_look_69 up_fresh ?_
      refine w_iinc (pc := 70) (q0 := 3) (v := (v3 + 1)) (lv' := [(3, .int (v3 + 1)), (0, .ref (κ.1 0)), (1, .int v1), (2, .int v2)]) G dM_look_70 rfl rfl (by decide) rfl ?_
      refine w_goto (pc := 73) (tgt := 48) G dM_look_73 (by decide) ?_
      refine w_sub (lv' := [(0, .ref (κ.1 0)), (1, .int v1), (2, .int v2), (3, .int (v3 + 1))]) [1, 2, 3, 0] rfl ?_
      exact ih (v3 + 1) (vp_updL x_fresh v3.toNatClampNeg ((x_generator (((4 : Int32) * v2) + v3).toNatClampNeg).toInt64)) out h K
noncomputable def lM_look_33 (F : Nat) (x_many : Int32) (x_generator : Nat → Int32) (v1 : Int32) : Nat → Int32 → Int32 → (Nat → Int64) → (Nat → Int32) → (Nat → Int64) → Option (Int32 × (Nat → Int64) × (Nat → Int32) × (Nat → Int64))
  | 0, _, _, _, _, _ => none
  | n + 1, v2, x_rows, x_row, x_pivot, x_fresh => if x_many ≤ v2 then some (x_rows, x_row, x_pivot, x_fresh) else if v2 = v1 then lM_look_33 F x_many x_generator v1 n (v2 + 1) x_rows x_row x_pivot x_fresh else (lM_look_48 F x_generator v1 v2 F (0 : Int32) x_fresh).bind (fun o48_21 => (M_enter F x_rows x_row x_pivot o48_21 ).bind (fun r77 => lM_look_33 F x_many x_generator v1 n (v2 + 1) r77.1 r77.2.1 r77.2.2.1 r77.2.2.2))
set_option maxHeartbeats 8000000 in
set_option maxRecDepth 100000 in
theorem lM_look_33_ok {g : Gm} {κ : ctx} (G : OK g κ RM cM_look 4 none rm_M_look) (X : Nat → va_E) (F : Nat) {x_many : Int32} {x_generator : Nat → Int32} {x_known : Int32} {x_without : Int32} {x_multiple : Nat → Int64} {x_last : Nat → Int64} {x_made : Nat → Int64} {x_settled : Nat → Int64} {x_point : Nat → Int64} {x_limit : Int64} {x_mode : Int32} {x_counted : Int32} {x_listed : Int32} {x_held : Int32} {x_first : Nat → Int64} {x_squares : Nat → Int64} {x_wanted : Int32} {x_spanned : Int32} {x_span : Nat → Int64} {x_minima : Nat → Int32} {x_measured : Int32} {x_found : Nat → Int64} {x_any : Int32} (v1 : Int32) : ∀ (n : Nat) (v2 : Int32) (x_rows : Int32) (x_row : Nat → Int64) (x_pivot : Nat → Int32) (x_fresh : Nat → Int64) (out : Int32 × (Nat → Int64) × (Nat → Int32) × (Nat → Int64)), lM_look_33 F x_many x_generator v1 n v2 x_rows x_row x_pivot x_fresh = some out → (J g κ 4 86 [] [] (LM κ (x_many, x_generator, x_known, x_without, out.1, out.2.1, out.2.2.1, out.2.2.2, x_multiple, x_last, x_made, x_settled, x_point, x_limit, x_mode, x_counted, x_listed, x_held, x_first, x_squares, x_wanted, x_spanned, x_span, x_minima, x_measured, x_found, x_any) X)) → J g κ 4 33 [(0, .ref (κ.1 0)), (1, .int v1), (2, .int v2)] [] (LM κ (x_many, x_generator, x_known, x_without, x_rows, x_row, x_pivot, x_fresh, x_multiple, x_last, x_made, x_settled, x_point, x_limit, x_mode, x_counted, x_listed, x_held, x_first, x_squares, x_wanted, x_spanned, x_span, x_minima, x_measured, x_found, x_any) X) := by
  intro n
  induction n with
  | zero =>
    intro v2 x_rows x_row x_pivot x_fresh
    intro out h
    rw [lM_look_33] at h
    cases h
  | succ n ih =>
    intro v2 x_rows x_row x_pivot x_fresh out h K
    rw [lM_look_33] at h
    refine w_iload_n (pc := 33) (q := 2) G dM_look_33 rfl rfl ?_
    refine w_aload_n (pc := 34) (q := 0) G dM_look_34 rfl rfl ?_
    refine w_get (pc := 35) (v := .int x_many) (fs := fl_M κ (x_many, x_generator, x_known, x_without, x_rows, x_row, x_pivot, x_fresh, x_multiple, x_last, x_made, x_settled, x_point, x_limit, x_mode, x_counted, x_listed, x_held, x_first, x_squares, x_wanted, x_spanned, x_span, x_minima, x_measured, x_found, x_any)) G 0 (by decide) lb_M rfl wsM_ok 0 (by decide) wd490 gf_M_0 dM_look_35 ?_
    refine w_icmp_ge (pc := 38) (tgt := 86) G dM_look_38 (by decide) (fun c38 => ?_) (fun c38 => ?_)
    · have h := if_t c38 h
      obtain rfl := Option.some.inj h
      refine w_sub (lv' := []) [] rfl ?_
      exact K
    · have h := if_f c38 h
      refine w_iload_n (pc := 41) (q := 2) G dM_look_41 rfl rfl ?_
      refine w_iload_n (pc := 42) (q := 1) G dM_look_42 rfl rfl ?_
      refine w_icmp_eq (pc := 43) (tgt := 80) G dM_look_43 (by decide) (fun c43 => ?_) (fun c43 => ?_)
      · have h := if_t c43 h
        refine w_iinc (pc := 80) (q0 := 2) (v := (v2 + 1)) (lv' := [(2, .int (v2 + 1)), (0, .ref (κ.1 0)), (1, .int v1)]) G dM_look_80 rfl rfl (by decide) rfl ?_
        refine w_goto (pc := 83) (tgt := 33) G dM_look_83 (by decide) ?_
        refine w_sub (lv' := [(0, .ref (κ.1 0)), (1, .int v1), (2, .int (v2 + 1))]) [1, 2, 0] rfl ?_
        exact ih (v2 + 1) x_rows x_row x_pivot x_fresh out h K
      · have h := if_f c43 h
        refine w_iconst (pc := 46) (v := (0 : Int32)) G dM_look_46 (by decide) ?_
        refine w_istore_n (pc := 47) (lv' := [(3, .int (0 : Int32)), (0, .ref (κ.1 0)), (1, .int v1), (2, .int v2)]) G dM_look_47 rfl (by decide) rfl ?_
        refine w_sub (lv' := [(0, .ref (κ.1 0)), (1, .int v1), (2, .int v2), (3, .int (0 : Int32))]) [1, 2, 3, 0] rfl ?_
        obtain ⟨o48_21, eo48_21, h⟩ := bd h
        refine lM_look_48_ok G X F v1 v2 F (0 : Int32) x_fresh o48_21 eo48_21 ?_
        refine w_aload_n (pc := 76) (q := 0) G dM_look_76 rfl rfl ?_
        obtain ⟨r77, e77, h⟩ := bd h
        refine w_callV (pc := 77) (av := []) (rest := []) (v := none) (L' := (LM κ (x_many, x_generator, x_known, x_without, r77.1, r77.2.1, r77.2.2.1, r77.2.2.2, x_multiple, x_last, x_made, x_settled, x_point, x_limit, x_mode, x_counted, x_listed, x_held, x_first, x_squares, x_wanted, x_spanned, x_span, x_minima, x_measured, x_found, x_any) X)) (T := TM) (fs := fl_M κ (x_many, x_generator, x_known, x_without, x_rows, x_row, x_pivot, o48_21, x_multiple, x_last, x_made, x_settled, x_point, x_limit, x_mode, x_counted, x_listed, x_held, x_first, x_squares, x_wanted, x_spanned, x_span, x_minima, x_measured, x_found, x_any)) G 0 0 27 (by decide) lb_M rfl cb_M_enter_M_look wd601 ws21 wd599 (met_M_enter κ X F   e77) rfl rfl rfl (Nat.le_of_ble_eq_true rfl) dM_look_77 ?_
        refine w_iinc (pc := 80) (q0 := 2) (v := (v2 + 1)) (lv' := [(2, .int (v2 + 1)), (0, .ref (κ.1 0)), (1, .int v1)]) G dM_look_80 rfl rfl (by decide) rfl ?_
        refine w_goto (pc := 83) (tgt := 33) G dM_look_83 (by decide) ?_
        refine w_sub (lv' := [(0, .ref (κ.1 0)), (1, .int v1), (2, .int (v2 + 1))]) [1, 2, 0] rfl ?_
        exact ih (v2 + 1) r77.1 r77.2.1 r77.2.2.1 r77.2.2.2 out h K
noncomputable def M_look (F : Nat) (x_many : Int32) (x_generator : Nat → Int32) (x_known : Int32) (x_without : Int32) (x_rows : Int32) (x_row : Nat → Int64) (x_pivot : Nat → Int32) (x_fresh : Nat → Int64) (v1 : Int32) : Option (Int32 × Int32 × Int32 × (Nat → Int64) × (Nat → Int32) × (Nat → Int64)) := if x_known = 0 then (lM_look_33 F x_many x_generator v1 F (0 : Int32) (0 : Int32) x_row x_pivot x_fresh).bind (fun o33_21 => some ((1 : Int32), v1, o33_21.1, o33_21.2.1, o33_21.2.2.1, o33_21.2.2.2)) else if x_without = v1 then some (x_known, x_without, x_rows, x_row, x_pivot, x_fresh) else (lM_look_33 F x_many x_generator v1 F (0 : Int32) (0 : Int32) x_row x_pivot x_fresh).bind (fun o33_24 => some ((1 : Int32), v1, o33_24.1, o33_24.2.1, o33_24.2.2.1, o33_24.2.2.2))
set_option maxHeartbeats 8000000 in
set_option maxRecDepth 100000 in
theorem met_M_look (κ : ctx) (X : Nat → va_E) (F : Nat) {x_many : Int32} {x_generator : Nat → Int32} {x_known : Int32} {x_without : Int32} {x_rows : Int32} {x_row : Nat → Int64} {x_pivot : Nat → Int32} {x_fresh : Nat → Int64} {x_multiple : Nat → Int64} {x_last : Nat → Int64} {x_made : Nat → Int64} {x_settled : Nat → Int64} {x_point : Nat → Int64} {x_limit : Int64} {x_mode : Int32} {x_counted : Int32} {x_listed : Int32} {x_held : Int32} {x_first : Nat → Int64} {x_squares : Nat → Int64} {x_wanted : Int32} {x_spanned : Int32} {x_span : Nat → Int64} {x_minima : Nat → Int32} {x_measured : Int32} {x_found : Nat → Int64} {x_any : Int32} (v1 : Int32) {out : Int32 × Int32 × Int32 × (Nat → Int64) × (Nat → Int32) × (Nat → Int64)} (h : M_look F x_many x_generator x_known x_without x_rows x_row x_pivot x_fresh v1 = some out) : Mt yM_look cM_look 4 none rm_M_look κ [.ref (κ.1 0), .int v1] (LM κ (x_many, x_generator, x_known, x_without, x_rows, x_row, x_pivot, x_fresh, x_multiple, x_last, x_made, x_settled, x_point, x_limit, x_mode, x_counted, x_listed, x_held, x_first, x_squares, x_wanted, x_spanned, x_span, x_minima, x_measured, x_found, x_any) X) none (LM κ (x_many, x_generator, out.1, out.2.1, out.2.2.1, out.2.2.2.1, out.2.2.2.2.1, out.2.2.2.2.2, x_multiple, x_last, x_made, x_settled, x_point, x_limit, x_mode, x_counted, x_listed, x_held, x_first, x_squares, x_wanted, x_spanned, x_span, x_minima, x_measured, x_found, x_any) X) := by
  refine Mt.of (by decide) (Nat.le_of_ble_eq_true rfl) ?_
  intro g G Fh
  unfold M_look at h
  show J g κ 4 0 [(0, .ref (κ.1 0)), (1, .int v1)] [] (LM κ (x_many, x_generator, x_known, x_without, x_rows, x_row, x_pivot, x_fresh, x_multiple, x_last, x_made, x_settled, x_point, x_limit, x_mode, x_counted, x_listed, x_held, x_first, x_squares, x_wanted, x_spanned, x_span, x_minima, x_measured, x_found, x_any) X)
  refine w_aload_n (pc := 0) (q := 0) G dM_look_0 rfl rfl ?_
  refine w_get (pc := 1) (v := .int x_known) (fs := fl_M κ (x_many, x_generator, x_known, x_without, x_rows, x_row, x_pivot, x_fresh, x_multiple, x_last, x_made, x_settled, x_point, x_limit, x_mode, x_counted, x_listed, x_held, x_first, x_squares, x_wanted, x_spanned, x_span, x_minima, x_measured, x_found, x_any)) G 0 (by decide) lb_M rfl wsM_ok 2 (by decide) wd492 gf_M_2 dM_look_1 ?_
  refine w_if_eq (pc := 4) (tgt := 16) G dM_look_4 (by decide) (fun c4 => ?_) (fun c4 => ?_)
  · have h := if_t c4 h
    refine w_aload_n (pc := 16) (q := 0) G dM_look_16 rfl rfl ?_
    refine w_iconst (pc := 17) (v := (1 : Int32)) G dM_look_17 (by decide) ?_
    refine w_put (pc := 18) (fs := fl_M κ (x_many, x_generator, x_known, x_without, x_rows, x_row, x_pivot, x_fresh, x_multiple, x_last, x_made, x_settled, x_point, x_limit, x_mode, x_counted, x_listed, x_held, x_first, x_squares, x_wanted, x_spanned, x_span, x_minima, x_measured, x_found, x_any)) (L1 := (LM κ (x_many, x_generator, (1 : Int32), x_without, x_rows, x_row, x_pivot, x_fresh, x_multiple, x_last, x_made, x_settled, x_point, x_limit, x_mode, x_counted, x_listed, x_held, x_first, x_squares, x_wanted, x_spanned, x_span, x_minima, x_measured, x_found, x_any) X)) G 0 (by decide) lb_M rfl wsM_ok tyM tyM_ok nmM 2 (by decide) wd492 rfl rfl rfl (Nat.le_of_ble_eq_true rfl) dM_look_18 upf_known ?_
    refine w_aload_n (pc := 21) (q := 0) G dM_look_21 rfl rfl ?_
    refine w_iload_n (pc := 22) (q := 1) G dM_look_22 rfl rfl ?_
    refine w_put (pc := 23) (fs := fl_M κ (x_many, x_generator, (1 : Int32), x_without, x_rows, x_row, x_pivot, x_fresh, x_multiple, x_last, x_made, x_settled, x_point, x_limit, x_mode, x_counted, x_listed, x_held, x_first, x_squares, x_wanted, x_spanned, x_span, x_minima, x_measured, x_found, x_any)) (L1 := (LM κ (x_many, x_generator, (1 : Int32), v1, x_rows, x_row, x_pivot, x_fresh, x_multiple, x_last, x_made, x_settled, x_point, x_limit, x_mode, x_counted, x_listed, x_held, x_first, x_squares, x_wanted, x_spanned, x_span, x_minima, x_measured, x_found, x_any) X)) G 0 (by decide) lb_M rfl wsM_ok tyM tyM_ok nmM 3 (by decide) wd493 rfl rfl rfl (Nat.le_of_ble_eq_true rfl) dM_look_23 upf_without ?_
    refine w_aload_n (pc := 26) (q := 0) G dM_look_26 rfl rfl ?_
    refine w_iconst (pc := 27) (v := (0 : Int32)) G dM_look_27 (by decide) ?_
    refine w_put (pc := 28) (fs := fl_M κ (x_many, x_generator, (1 : Int32), v1, x_rows, x_row, x_pivot, x_fresh, x_multiple, x_last, x_made, x_settled, x_point, x_limit, x_mode, x_counted, x_listed, x_held, x_first, x_squares, x_wanted, x_spanned, x_span, x_minima, x_measured, x_found, x_any)) (L1 := (LM κ (x_many, x_generator, (1 : Int32), v1, (0 : Int32), x_row, x_pivot, x_fresh, x_multiple, x_last, x_made, x_settled, x_point, x_limit, x_mode, x_counted, x_listed, x_held, x_first, x_squares, x_wanted, x_spanned, x_span, x_minima, x_measured, x_found, x_any) X)) G 0 (by decide) lb_M rfl wsM_ok tyM tyM_ok nmM 4 (by decide) wd494 rfl rfl rfl (Nat.le_of_ble_eq_true rfl) dM_look_28 upf_rows ?_
    refine w_iconst (pc := 31) (v := (0 : Int32)) G dM_look_31 (by decide) ?_
    refine w_istore_n (pc := 32) (lv' := [(2, .int (0 : Int32)), (0, .ref (κ.1 0)), (1, .int v1)]) G dM_look_32 rfl (by decide) rfl ?_
    refine w_sub (lv' := [(0, .ref (κ.1 0)), (1, .int v1), (2, .int (0 : Int32))]) [1, 2, 0] rfl ?_
    obtain ⟨o33_21, eo33_21, h⟩ := bd h
    refine lM_look_33_ok G X F v1 F (0 : Int32) (0 : Int32) x_row x_pivot x_fresh o33_21 eo33_21 ?_
    obtain rfl := Option.some.inj h
    exact w_vret (pc := 86) G dM_look_86 Fh
  · have h := if_f c4 h
    refine w_aload_n (pc := 7) (q := 0) G dM_look_7 rfl rfl ?_
    refine w_get (pc := 8) (v := .int x_without) (fs := fl_M κ (x_many, x_generator, x_known, x_without, x_rows, x_row, x_pivot, x_fresh, x_multiple, x_last, x_made, x_settled, x_point, x_limit, x_mode, x_counted, x_listed, x_held, x_first, x_squares, x_wanted, x_spanned, x_span, x_minima, x_measured, x_found, x_any)) G 0 (by decide) lb_M rfl wsM_ok 3 (by decide) wd493 gf_M_3 dM_look_8 ?_
    refine w_iload_n (pc := 11) (q := 1) G dM_look_11 rfl rfl ?_
    refine w_icmp_ne (pc := 12) (tgt := 16) G dM_look_12 (by decide) (fun c12 => ?_) (fun c12 => ?_)
    · have h := if_t c12 h
      obtain rfl := Option.some.inj h
      exact w_vret (pc := 15) G dM_look_15 Fh
    · have h := if_f c12 h
      refine w_aload_n (pc := 16) (q := 0) G dM_look_16 rfl rfl ?_
      refine w_iconst (pc := 17) (v := (1 : Int32)) G dM_look_17 (by decide) ?_
      refine w_put (pc := 18) (fs := fl_M κ (x_many, x_generator, x_known, x_without, x_rows, x_row, x_pivot, x_fresh, x_multiple, x_last, x_made, x_settled, x_point, x_limit, x_mode, x_counted, x_listed, x_held, x_first, x_squares, x_wanted, x_spanned, x_span, x_minima, x_measured, x_found, x_any)) (L1 := (LM κ (x_many, x_generator, (1 : Int32), x_without, x_rows, x_row, x_pivot, x_fresh, x_multiple, x_last, x_made, x_settled, x_point, x_limit, x_mode, x_counted, x_listed, x_held, x_first, x_squares, x_wanted, x_spanned, x_span, x_minima, x_measured, x_found, x_any) X)) G 0 (by decide) lb_M rfl wsM_ok tyM tyM_ok nmM 2 (by decide) wd492 rfl rfl rfl (Nat.le_of_ble_eq_true rfl) dM_look_18 upf_known ?_
      refine w_aload_n (pc := 21) (q := 0) G dM_look_21 rfl rfl ?_
      refine w_iload_n (pc := 22) (q := 1) G dM_look_22 rfl rfl ?_
      refine w_put (pc := 23) (fs := fl_M κ (x_many, x_generator, (1 : Int32), x_without, x_rows, x_row, x_pivot, x_fresh, x_multiple, x_last, x_made, x_settled, x_point, x_limit, x_mode, x_counted, x_listed, x_held, x_first, x_squares, x_wanted, x_spanned, x_span, x_minima, x_measured, x_found, x_any)) (L1 := (LM κ (x_many, x_generator, (1 : Int32), v1, x_rows, x_row, x_pivot, x_fresh, x_multiple, x_last, x_made, x_settled, x_point, x_limit, x_mode, x_counted, x_listed, x_held, x_first, x_squares, x_wanted, x_spanned, x_span, x_minima, x_measured, x_found, x_any) X)) G 0 (by decide) lb_M rfl wsM_ok tyM tyM_ok nmM 3 (by decide) wd493 rfl rfl rfl (Nat.le_of_ble_eq_true rfl) dM_look_23 upf_without ?_
      refine w_aload_n (pc := 26) (q := 0) G dM_look_26 rfl rfl ?_
      refine w_iconst (pc := 27) (v := (0 : Int32)) G dM_look_27 (by decide) ?_
      refine w_put (pc := 28) (fs := fl_M κ (x_many, x_generator, (1 : Int32), v1, x_rows, x_row, x_pivot, x_fresh, x_multiple, x_last, x_made, x_settled, x_point, x_limit, x_mode, x_counted, x_listed, x_held, x_first, x_squares, x_wanted, x_spanned, x_span, x_minima, x_measured, x_found, x_any)) (L1 := (LM κ (x_many, x_generator, (1 : Int32), v1, (0 : Int32), x_row, x_pivot, x_fresh, x_multiple, x_last, x_made, x_settled, x_point, x_limit, x_mode, x_counted, x_listed, x_held, x_first, x_squares, x_wanted, x_spanned, x_span, x_minima, x_measured, x_found, x_any) X)) G 0 (by decide) lb_M rfl wsM_ok tyM tyM_ok nmM 4 (by decide) wd494 rfl rfl rfl (Nat.le_of_ble_eq_true rfl) dM_look_28 upf_rows ?_
      refine w_iconst (pc := 31) (v := (0 : Int32)) G dM_look_31 (by decide) ?_
      refine w_istore_n (pc := 32) (lv' := [(2, .int (0 : Int32)), (0, .ref (κ.1 0)), (1, .int v1)]) G dM_look_32 rfl (by decide) rfl ?_
      refine w_sub (lv' := [(0, .ref (κ.1 0)), (1, .int v1), (2, .int (0 : Int32))]) [1, 2, 0] rfl ?_
      obtain ⟨o33_24, eo33_24, h⟩ := bd h
      refine lM_look_33_ok G X F v1 F (0 : Int32) (0 : Int32) x_row x_pivot x_fresh o33_24 eo33_24 ?_
      obtain rfl := Option.some.inj h
      exact w_vret (pc := 86) G dM_look_86 Fh
def rm_M_rank : Room := { frames := 5, cells := 0, slots := 0, locals := 121 }
theorem dM_rank_0 : decode cM_rank 0 = .ok (.aload_n 0, 1) := by decide +kernel
theorem dM_rank_1 : decode cM_rank 1 = .ok (.iconst (-1), 1) := by decide +kernel
theorem dM_rank_2 : decode cM_rank 2 = .ok (.invokevirtual 107, 3) := by decide +kernel
theorem dM_rank_5 : decode cM_rank 5 = .ok (.aload_n 0, 1) := by decide +kernel
theorem dM_rank_6 : decode cM_rank 6 = .ok (.getfield 74, 3) := by decide +kernel
theorem dM_rank_9 : decode cM_rank 9 = .ok (.ireturn, 1) := by decide +kernel
theorem cb_M_look_M_rank : CB yM_look cM_look 4 none rm_M_look rm_M_rank 1 := ⟨wd598, wd8, by decide +kernel, rfl, rfl, by decide⟩
noncomputable def M_rank (F : Nat) (x_many : Int32) (x_generator : Nat → Int32) (x_known : Int32) (x_without : Int32) (x_rows : Int32) (x_row : Nat → Int64) (x_pivot : Nat → Int32) (x_fresh : Nat → Int64)  : Option (Int32 × Int32 × Int32 × Int32 × (Nat → Int64) × (Nat → Int32) × (Nat → Int64)) := (M_look F x_many x_generator x_known x_without x_rows x_row x_pivot x_fresh (-1 : Int32)).bind (fun r2 => some (r2.2.2.1, r2.1, r2.2.1, r2.2.2.1, r2.2.2.2.1, r2.2.2.2.2.1, r2.2.2.2.2.2))
set_option maxHeartbeats 8000000 in
set_option maxRecDepth 100000 in
theorem met_M_rank (κ : ctx) (X : Nat → va_E) (F : Nat) {x_many : Int32} {x_generator : Nat → Int32} {x_known : Int32} {x_without : Int32} {x_rows : Int32} {x_row : Nat → Int64} {x_pivot : Nat → Int32} {x_fresh : Nat → Int64} {x_multiple : Nat → Int64} {x_last : Nat → Int64} {x_made : Nat → Int64} {x_settled : Nat → Int64} {x_point : Nat → Int64} {x_limit : Int64} {x_mode : Int32} {x_counted : Int32} {x_listed : Int32} {x_held : Int32} {x_first : Nat → Int64} {x_squares : Nat → Int64} {x_wanted : Int32} {x_spanned : Int32} {x_span : Nat → Int64} {x_minima : Nat → Int32} {x_measured : Int32} {x_found : Nat → Int64} {x_any : Int32}  {out : Int32 × Int32 × Int32 × Int32 × (Nat → Int64) × (Nat → Int32) × (Nat → Int64)} (h : M_rank F x_many x_generator x_known x_without x_rows x_row x_pivot x_fresh  = some out) : Mt yM_rank cM_rank 1 (some .int) rm_M_rank κ [.ref (κ.1 0)] (LM κ (x_many, x_generator, x_known, x_without, x_rows, x_row, x_pivot, x_fresh, x_multiple, x_last, x_made, x_settled, x_point, x_limit, x_mode, x_counted, x_listed, x_held, x_first, x_squares, x_wanted, x_spanned, x_span, x_minima, x_measured, x_found, x_any) X) (some (.int out.1)) (LM κ (x_many, x_generator, out.2.1, out.2.2.1, out.2.2.2.1, out.2.2.2.2.1, out.2.2.2.2.2.1, out.2.2.2.2.2.2, x_multiple, x_last, x_made, x_settled, x_point, x_limit, x_mode, x_counted, x_listed, x_held, x_first, x_squares, x_wanted, x_spanned, x_span, x_minima, x_measured, x_found, x_any) X) := by
  refine Mt.of (by decide) (Nat.le_of_ble_eq_true rfl) ?_
  intro g G Fh
  unfold M_rank at h
  show J g κ 1 0 [(0, .ref (κ.1 0))] [] (LM κ (x_many, x_generator, x_known, x_without, x_rows, x_row, x_pivot, x_fresh, x_multiple, x_last, x_made, x_settled, x_point, x_limit, x_mode, x_counted, x_listed, x_held, x_first, x_squares, x_wanted, x_spanned, x_span, x_minima, x_measured, x_found, x_any) X)
  refine w_aload_n (pc := 0) (q := 0) G dM_rank_0 rfl rfl ?_
  refine w_iconst (pc := 1) (v := (-1 : Int32)) G dM_rank_1 (by decide) ?_
  obtain ⟨r2, e2, h⟩ := bd h
  refine w_callV (pc := 2) (av := [.int (-1 : Int32)]) (rest := []) (v := none) (L' := (LM κ (x_many, x_generator, r2.1, r2.2.1, r2.2.2.1, r2.2.2.2.1, r2.2.2.2.2.1, r2.2.2.2.2.2, x_multiple, x_last, x_made, x_settled, x_point, x_limit, x_mode, x_counted, x_listed, x_held, x_first, x_squares, x_wanted, x_spanned, x_span, x_minima, x_measured, x_found, x_any) X)) (T := TM) (fs := fl_M κ (x_many, x_generator, x_known, x_without, x_rows, x_row, x_pivot, x_fresh, x_multiple, x_last, x_made, x_settled, x_point, x_limit, x_mode, x_counted, x_listed, x_held, x_first, x_squares, x_wanted, x_spanned, x_span, x_minima, x_measured, x_found, x_any)) G 0 0 27 (by decide) lb_M rfl cb_M_look_M_rank wd597 ws20 wd595 (met_M_look κ X F (-1 : Int32)  e2) rfl rfl rfl (Nat.le_of_ble_eq_true rfl) dM_rank_2 ?_
  refine w_aload_n (pc := 5) (q := 0) G dM_rank_5 rfl rfl ?_
  refine w_get (pc := 6) (v := .int r2.2.2.1) (fs := fl_M κ (x_many, x_generator, r2.1, r2.2.1, r2.2.2.1, r2.2.2.2.1, r2.2.2.2.2.1, r2.2.2.2.2.2, x_multiple, x_last, x_made, x_settled, x_point, x_limit, x_mode, x_counted, x_listed, x_held, x_first, x_squares, x_wanted, x_spanned, x_span, x_minima, x_measured, x_found, x_any)) G 0 (by decide) lb_M rfl wsM_ok 4 (by decide) wd494 gf_M_4 dM_rank_6 ?_
  obtain rfl := Option.some.inj h
  exact w_iret (pc := 9) G dM_rank_9 Fh
