def rm_M_under : Room := { frames := 0, cells := 0, slots := 0, locals := 0 }
theorem dM_under_0 : decode cM_under 0 = .ok (.lload_n 0, 1) := by decide +kernel
theorem dM_under_1 : decode cM_under 1 = .ok (.lload_n 2, 1) := by decide +kernel
theorem dM_under_2 : decode cM_under 2 = .ok (.ldiv, 1) := by decide +kernel
theorem dM_under_3 : decode cM_under 3 = .ok (.lstore 4, 2) := by decide +kernel
theorem dM_under_5 : decode cM_under 5 = .ok (.lload_n 0, 1) := by decide +kernel
theorem dM_under_6 : decode cM_under 6 = .ok (.lload_n 2, 1) := by decide +kernel
theorem dM_under_7 : decode cM_under 7 = .ok (.lrem, 1) := by decide +kernel
theorem dM_under_8 : decode cM_under 8 = .ok (.lconst 0, 1) := by decide +kernel
theorem dM_under_9 : decode cM_under 9 = .ok (.lcmp, 1) := by decide +kernel
theorem dM_under_10 : decode cM_under 10 = .ok (.ifCond .eq 35, 3) := by decide +kernel
theorem dM_under_13 : decode cM_under 13 = .ok (.lload_n 0, 1) := by decide +kernel
theorem dM_under_14 : decode cM_under 14 = .ok (.lconst 0, 1) := by decide +kernel
theorem dM_under_15 : decode cM_under 15 = .ok (.lcmp, 1) := by decide +kernel
theorem dM_under_16 : decode cM_under 16 = .ok (.ifCond .ge 7, 3) := by decide +kernel
theorem dM_under_19 : decode cM_under 19 = .ok (.iconst 1, 1) := by decide +kernel
theorem dM_under_20 : decode cM_under 20 = .ok (.goto 4, 3) := by decide +kernel
theorem dM_under_23 : decode cM_under 23 = .ok (.iconst 0, 1) := by decide +kernel
theorem dM_under_24 : decode cM_under 24 = .ok (.lload_n 2, 1) := by decide +kernel
theorem dM_under_25 : decode cM_under 25 = .ok (.lconst 0, 1) := by decide +kernel
theorem dM_under_26 : decode cM_under 26 = .ok (.lcmp, 1) := by decide +kernel
theorem dM_under_27 : decode cM_under 27 = .ok (.ifCond .ge 7, 3) := by decide +kernel
theorem dM_under_30 : decode cM_under 30 = .ok (.iconst 1, 1) := by decide +kernel
theorem dM_under_31 : decode cM_under 31 = .ok (.goto 4, 3) := by decide +kernel
theorem dM_under_34 : decode cM_under 34 = .ok (.iconst 0, 1) := by decide +kernel
theorem dM_under_35 : decode cM_under 35 = .ok (.if_icmp .eq 10, 3) := by decide +kernel
theorem dM_under_38 : decode cM_under 38 = .ok (.lload 4, 2) := by decide +kernel
theorem dM_under_40 : decode cM_under 40 = .ok (.lconst 1, 1) := by decide +kernel
theorem dM_under_41 : decode cM_under 41 = .ok (.lsub, 1) := by decide +kernel
theorem dM_under_42 : decode cM_under 42 = .ok (.goto 5, 3) := by decide +kernel
theorem dM_under_45 : decode cM_under 45 = .ok (.lload 4, 2) := by decide +kernel
theorem dM_under_47 : decode cM_under 47 = .ok (.lreturn, 1) := by decide +kernel
noncomputable def M_under (F : Nat) (v0 : Int64) (v2 : Int64) : Option (Int64) := gd (¬ v2 = 0) (gd (¬ v2 = 0) (if (v0 - v0 / v2 * v2) = (0 : Int64) then some (v0 / v2) else if (0 : Int64) ≤ v0 then if (0 : Int64) ≤ v2 then some (v0 / v2) else some ((v0 / v2) - (1 : Int64)) else if (0 : Int64) ≤ v2 then some ((v0 / v2) - (1 : Int64)) else some (v0 / v2)))
set_option maxHeartbeats 4000000 in
set_option maxRecDepth 100000 in
theorem met_M_under (κ : ctx) (L : Nat → va_E) (F : Nat) (v0 : Int64) (v2 : Int64) {out : Int64} (h : M_under F v0 v2 = some out) : Mt yM_under cM_under 6 (some .long) rm_M_under κ [.long v0, .long v2] L (some (.long out)) L := by
  refine Mt.of (by decide) (Nat.le_of_ble_eq_true rfl) ?_
  intro g G Fh
  unfold M_under at h
  show J g κ 6 0 [(0, .long v0), (2, .long v2)] [] L
  refine w_lload_n (pc := 0) (q := 0) G dM_under_0 rfl rfl ?_
  refine w_lload_n (pc := 1) (q := 1) G dM_under_1 rfl rfl ?_
  obtain ⟨z2, h⟩ := gd_some h
  refine w_ldiv (pc := 2) G dM_under_2 z2 ?_
  refine w_lstore (pc := 3) (lv' := [(4, .long (v0 / v2)), (0, .long v0), (2, .long v2)]) G dM_under_3 (by decide) rfl ?_
  refine w_lload_n (pc := 5) (q := 1) G dM_under_5 rfl rfl ?_
  refine w_lload_n (pc := 6) (q := 2) G dM_under_6 rfl rfl ?_
  obtain ⟨z7, h⟩ := gd_some h
  refine w_lrem (pc := 7) G dM_under_7 z7 ?_
  refine w_lconst (pc := 8) (v := (0 : Int64)) G dM_under_8 (by decide) ?_
  refine w_lc_eq (pc := 9) (tgt := 45) G dM_under_9 dM_under_10 (by decide) (fun c9 => ?_) (fun c9 => ?_)
  · have h := if_t c9 h
    refine w_lload (pc := 45) (q := 0) G dM_under_45 rfl ?_
    obtain rfl := Option.some.inj h
    exact w_lret (pc := 47) G dM_under_47 Fh
  · have h := if_f c9 h
    refine w_lload_n (pc := 13) (q := 1) G dM_under_13 rfl rfl ?_
    refine w_lconst (pc := 14) (v := (0 : Int64)) G dM_under_14 (by decide) ?_
    refine w_lc_ge (pc := 15) (tgt := 23) G dM_under_15 dM_under_16 (by decide) (fun c15 => ?_) (fun c15 => ?_)
    · have h := if_t c15 h
      refine w_iconst (pc := 23) (v := (0 : Int32)) G dM_under_23 (by decide) ?_
      refine w_lload_n (pc := 24) (q := 2) G dM_under_24 rfl rfl ?_
      refine w_lconst (pc := 25) (v := (0 : Int64)) G dM_under_25 (by decide) ?_
      refine w_lc_ge (pc := 26) (tgt := 34) G dM_under_26 dM_under_27 (by decide) (fun c26 => ?_) (fun c26 => ?_)
      · have h := if_t c26 h
        refine w_iconst (pc := 34) (v := (0 : Int32)) G dM_under_34 (by decide) ?_
        refine w_icmp_eq (pc := 35) (tgt := 45) G dM_under_35 (by decide) (fun _ => ?_) (fun c => absurd (by decide) c)
        refine w_lload (pc := 45) (q := 0) G dM_under_45 rfl ?_
        obtain rfl := Option.some.inj h
        exact w_lret (pc := 47) G dM_under_47 Fh
      · have h := if_f c26 h
        refine w_iconst (pc := 30) (v := (1 : Int32)) G dM_under_30 (by decide) ?_
        refine w_goto (pc := 31) (tgt := 35) G dM_under_31 (by decide) ?_
        refine w_icmp_eq (pc := 35) (tgt := 45) G dM_under_35 (by decide) (fun c => absurd c (by decide)) (fun _ => ?_)
        refine w_lload (pc := 38) (q := 0) G dM_under_38 rfl ?_
        refine w_lconst (pc := 40) (v := (1 : Int64)) G dM_under_40 (by decide) ?_
        refine w_lsub (pc := 41) G dM_under_41 ?_
        refine w_goto (pc := 42) (tgt := 47) G dM_under_42 (by decide) ?_
        obtain rfl := Option.some.inj h
        exact w_lret (pc := 47) G dM_under_47 Fh
    · have h := if_f c15 h
      refine w_iconst (pc := 19) (v := (1 : Int32)) G dM_under_19 (by decide) ?_
      refine w_goto (pc := 20) (tgt := 24) G dM_under_20 (by decide) ?_
      refine w_lload_n (pc := 24) (q := 2) G dM_under_24 rfl rfl ?_
      refine w_lconst (pc := 25) (v := (0 : Int64)) G dM_under_25 (by decide) ?_
      refine w_lc_ge (pc := 26) (tgt := 34) G dM_under_26 dM_under_27 (by decide) (fun c26 => ?_) (fun c26 => ?_)
      · have h := if_t c26 h
        refine w_iconst (pc := 34) (v := (0 : Int32)) G dM_under_34 (by decide) ?_
        refine w_icmp_eq (pc := 35) (tgt := 45) G dM_under_35 (by decide) (fun c => absurd c (by decide)) (fun _ => ?_)
        refine w_lload (pc := 38) (q := 0) G dM_under_38 rfl ?_
        refine w_lconst (pc := 40) (v := (1 : Int64)) G dM_under_40 (by decide) ?_
        refine w_lsub (pc := 41) G dM_under_41 ?_
        refine w_goto (pc := 42) (tgt := 47) G dM_under_42 (by decide) ?_
        obtain rfl := Option.some.inj h
        exact w_lret (pc := 47) G dM_under_47 Fh
      · have h := if_f c26 h
        refine w_iconst (pc := 30) (v := (1 : Int32)) G dM_under_30 (by decide) ?_
        refine w_goto (pc := 31) (tgt := 35) G dM_under_31 (by decide) ?_
        refine w_icmp_eq (pc := 35) (tgt := 45) G dM_under_35 (by decide) (fun _ => ?_) (fun c => absurd (by decide) c)
        refine w_lload (pc := 45) (q := 0) G dM_under_45 rfl ?_
        obtain rfl := Option.some.inj h
        exact w_lret (pc := 47) G dM_under_47 Fh
def rm_M_within : Room := { frames := 0, cells := 0, slots := 0, locals := 0 }
theorem dM_within_0 : decode cM_within 0 = .ok (.iload_n 0, 1) := by decide +kernel
theorem dM_within_1 : decode cM_within 1 = .ok (.iload 4, 2) := by decide +kernel
theorem dM_within_3 : decode cM_within 3 = .ok (.ineg, 1) := by decide +kernel
theorem dM_within_4 : decode cM_within 4 = .ok (.if_icmp .lt 52, 3) := by decide +kernel
theorem dM_within_7 : decode cM_within 7 = .ok (.iload_n 0, 1) := by decide +kernel
theorem dM_within_8 : decode cM_within 8 = .ok (.iload 4, 2) := by decide +kernel
theorem dM_within_10 : decode cM_within 10 = .ok (.if_icmp .gt 46, 3) := by decide +kernel
theorem dM_within_13 : decode cM_within 13 = .ok (.iload_n 1, 1) := by decide +kernel
theorem dM_within_14 : decode cM_within 14 = .ok (.iload 4, 2) := by decide +kernel
theorem dM_within_16 : decode cM_within 16 = .ok (.ineg, 1) := by decide +kernel
theorem dM_within_17 : decode cM_within 17 = .ok (.if_icmp .lt 39, 3) := by decide +kernel
theorem dM_within_20 : decode cM_within 20 = .ok (.iload_n 1, 1) := by decide +kernel
theorem dM_within_21 : decode cM_within 21 = .ok (.iload 4, 2) := by decide +kernel
theorem dM_within_23 : decode cM_within 23 = .ok (.if_icmp .gt 33, 3) := by decide +kernel
theorem dM_within_26 : decode cM_within 26 = .ok (.iload_n 2, 1) := by decide +kernel
theorem dM_within_27 : decode cM_within 27 = .ok (.iload 4, 2) := by decide +kernel
theorem dM_within_29 : decode cM_within 29 = .ok (.ineg, 1) := by decide +kernel
theorem dM_within_30 : decode cM_within 30 = .ok (.if_icmp .lt 26, 3) := by decide +kernel
theorem dM_within_33 : decode cM_within 33 = .ok (.iload_n 2, 1) := by decide +kernel
theorem dM_within_34 : decode cM_within 34 = .ok (.iload 4, 2) := by decide +kernel
theorem dM_within_36 : decode cM_within 36 = .ok (.if_icmp .gt 20, 3) := by decide +kernel
theorem dM_within_39 : decode cM_within 39 = .ok (.iload_n 3, 1) := by decide +kernel
theorem dM_within_40 : decode cM_within 40 = .ok (.iload 4, 2) := by decide +kernel
theorem dM_within_42 : decode cM_within 42 = .ok (.ineg, 1) := by decide +kernel
theorem dM_within_43 : decode cM_within 43 = .ok (.if_icmp .lt 13, 3) := by decide +kernel
theorem dM_within_46 : decode cM_within 46 = .ok (.iload_n 3, 1) := by decide +kernel
theorem dM_within_47 : decode cM_within 47 = .ok (.iload 4, 2) := by decide +kernel
theorem dM_within_49 : decode cM_within 49 = .ok (.if_icmp .gt 7, 3) := by decide +kernel
theorem dM_within_52 : decode cM_within 52 = .ok (.iconst 1, 1) := by decide +kernel
theorem dM_within_53 : decode cM_within 53 = .ok (.goto 4, 3) := by decide +kernel
theorem dM_within_56 : decode cM_within 56 = .ok (.iconst 0, 1) := by decide +kernel
theorem dM_within_57 : decode cM_within 57 = .ok (.ireturn, 1) := by decide +kernel
noncomputable def M_within (F : Nat) (v0 : Int32) (v1 : Int32) (v2 : Int32) (v3 : Int32) (v4 : Int32) : Option (Int32) := if v0 < (-v4) then some (0 : Int32) else if v4 < v0 then some (0 : Int32) else if v1 < (-v4) then some (0 : Int32) else if v4 < v1 then some (0 : Int32) else if v2 < (-v4) then some (0 : Int32) else if v4 < v2 then some (0 : Int32) else if v3 < (-v4) then some (0 : Int32) else if v4 < v3 then some (0 : Int32) else some (1 : Int32)
set_option maxHeartbeats 4000000 in
set_option maxRecDepth 100000 in
theorem met_M_within (κ : ctx) (L : Nat → va_E) (F : Nat) (v0 : Int32) (v1 : Int32) (v2 : Int32) (v3 : Int32) (v4 : Int32) {out : Int32} (h : M_within F v0 v1 v2 v3 v4 = some out) : Mt yM_within cM_within 5 (some .boolean) rm_M_within κ [.int v0, .int v1, .int v2, .int v3, .int v4] L (some (.int out)) L := by
  refine Mt.of (by decide) (Nat.le_of_ble_eq_true rfl) ?_
  intro g G Fh
  unfold M_within at h
  show J g κ 5 0 [(0, .int v0), (1, .int v1), (2, .int v2), (3, .int v3), (4, .int v4)] [] L
  refine w_iload_n (pc := 0) (q := 0) G dM_within_0 rfl rfl ?_
  refine w_iload (pc := 1) (q := 4) G dM_within_1 rfl ?_
  refine w_ineg (pc := 3) G dM_within_3 ?_
  refine w_icmp_lt (pc := 4) (tgt := 56) G dM_within_4 (by decide) (fun c4 => ?_) (fun c4 => ?_)
  · have h := if_t c4 h
    refine w_iconst (pc := 56) (v := (0 : Int32)) G dM_within_56 (by decide) ?_
    obtain rfl := Option.some.inj h
    exact w_zret (pc := 57) G rfl dM_within_57 Fh
  · have h := if_f c4 h
    refine w_iload_n (pc := 7) (q := 0) G dM_within_7 rfl rfl ?_
    refine w_iload (pc := 8) (q := 4) G dM_within_8 rfl ?_
    refine w_icmp_gt (pc := 10) (tgt := 56) G dM_within_10 (by decide) (fun c10 => ?_) (fun c10 => ?_)
    · have h := if_t c10 h
      refine w_iconst (pc := 56) (v := (0 : Int32)) G dM_within_56 (by decide) ?_
      obtain rfl := Option.some.inj h
      exact w_zret (pc := 57) G rfl dM_within_57 Fh
    · have h := if_f c10 h
      refine w_iload_n (pc := 13) (q := 1) G dM_within_13 rfl rfl ?_
      refine w_iload (pc := 14) (q := 4) G dM_within_14 rfl ?_
      refine w_ineg (pc := 16) G dM_within_16 ?_
      refine w_icmp_lt (pc := 17) (tgt := 56) G dM_within_17 (by decide) (fun c17 => ?_) (fun c17 => ?_)
      · have h := if_t c17 h
        refine w_iconst (pc := 56) (v := (0 : Int32)) G dM_within_56 (by decide) ?_
        obtain rfl := Option.some.inj h
        exact w_zret (pc := 57) G rfl dM_within_57 Fh
      · have h := if_f c17 h
        refine w_iload_n (pc := 20) (q := 1) G dM_within_20 rfl rfl ?_
        refine w_iload (pc := 21) (q := 4) G dM_within_21 rfl ?_
        refine w_icmp_gt (pc := 23) (tgt := 56) G dM_within_23 (by decide) (fun c23 => ?_) (fun c23 => ?_)
        · have h := if_t c23 h
          refine w_iconst (pc := 56) (v := (0 : Int32)) G dM_within_56 (by decide) ?_
          obtain rfl := Option.some.inj h
          exact w_zret (pc := 57) G rfl dM_within_57 Fh
        · have h := if_f c23 h
          refine w_iload_n (pc := 26) (q := 2) G dM_within_26 rfl rfl ?_
          refine w_iload (pc := 27) (q := 4) G dM_within_27 rfl ?_
          refine w_ineg (pc := 29) G dM_within_29 ?_
          refine w_icmp_lt (pc := 30) (tgt := 56) G dM_within_30 (by decide) (fun c30 => ?_) (fun c30 => ?_)
          · have h := if_t c30 h
            refine w_iconst (pc := 56) (v := (0 : Int32)) G dM_within_56 (by decide) ?_
            obtain rfl := Option.some.inj h
            exact w_zret (pc := 57) G rfl dM_within_57 Fh
          · have h := if_f c30 h
            refine w_iload_n (pc := 33) (q := 2) G dM_within_33 rfl rfl ?_
            refine w_iload (pc := 34) (q := 4) G dM_within_34 rfl ?_
            refine w_icmp_gt (pc := 36) (tgt := 56) G dM_within_36 (by decide) (fun c36 => ?_) (fun c36 => ?_)
            · have h := if_t c36 h
              refine w_iconst (pc := 56) (v := (0 : Int32)) G dM_within_56 (by decide) ?_
              obtain rfl := Option.some.inj h
              exact w_zret (pc := 57) G rfl dM_within_57 Fh
            · have h := if_f c36 h
              refine w_iload_n (pc := 39) (q := 3) G dM_within_39 rfl rfl ?_
              refine w_iload (pc := 40) (q := 4) G dM_within_40 rfl ?_
              refine w_ineg (pc := 42) G dM_within_42 ?_
              refine w_icmp_lt (pc := 43) (tgt := 56) G dM_within_43 (by decide) (fun c43 => ?_) (fun c43 => ?_)
              · have h := if_t c43 h
                refine w_iconst (pc := 56) (v := (0 : Int32)) G dM_within_56 (by decide) ?_
                obtain rfl := Option.some.inj h
                exact w_zret (pc := 57) G rfl dM_within_57 Fh
              · have h := if_f c43 h
                refine w_iload_n (pc := 46) (q := 3) G dM_within_46 rfl rfl ?_
                refine w_iload (pc := 47) (q := 4) G dM_within_47 rfl ?_
                refine w_icmp_gt (pc := 49) (tgt := 56) G dM_within_49 (by decide) (fun c49 => ?_) (fun c49 => ?_)
                · have h := if_t c49 h
                  refine w_iconst (pc := 56) (v := (0 : Int32)) G dM_within_56 (by decide) ?_
                  obtain rfl := Option.some.inj h
                  exact w_zret (pc := 57) G rfl dM_within_57 Fh
                · have h := if_f c49 h
                  refine w_iconst (pc := 52) (v := (1 : Int32)) G dM_within_52 (by decide) ?_
                  refine w_goto (pc := 53) (tgt := 57) G dM_within_53 (by decide) ?_
                  obtain rfl := Option.some.inj h
                  exact w_zret (pc := 57) G rfl dM_within_57 Fh
def rm_M_rowAt : Room := { frames := 0, cells := 0, slots := 0, locals := 0 }
theorem dM_rowAt_0 : decode cM_rowAt 0 = .ok (.iconst (-1), 1) := by decide +kernel
theorem dM_rowAt_1 : decode cM_rowAt 1 = .ok (.istore_n 2, 1) := by decide +kernel
theorem dM_rowAt_2 : decode cM_rowAt 2 = .ok (.iconst 0, 1) := by decide +kernel
theorem dM_rowAt_3 : decode cM_rowAt 3 = .ok (.istore_n 3, 1) := by decide +kernel
theorem dM_rowAt_4 : decode cM_rowAt 4 = .ok (.iload_n 3, 1) := by decide +kernel
theorem dM_rowAt_5 : decode cM_rowAt 5 = .ok (.aload_n 0, 1) := by decide +kernel
theorem dM_rowAt_6 : decode cM_rowAt 6 = .ok (.getfield 74, 3) := by decide +kernel
theorem dM_rowAt_9 : decode cM_rowAt 9 = .ok (.if_icmp .ge 25, 3) := by decide +kernel
theorem dM_rowAt_12 : decode cM_rowAt 12 = .ok (.aload_n 0, 1) := by decide +kernel
theorem dM_rowAt_13 : decode cM_rowAt 13 = .ok (.getfield 17, 3) := by decide +kernel
theorem dM_rowAt_16 : decode cM_rowAt 16 = .ok (.iload_n 3, 1) := by decide +kernel
theorem dM_rowAt_17 : decode cM_rowAt 17 = .ok (.iaload, 1) := by decide +kernel
theorem dM_rowAt_18 : decode cM_rowAt 18 = .ok (.iload_n 1, 1) := by decide +kernel
theorem dM_rowAt_19 : decode cM_rowAt 19 = .ok (.if_icmp .ne 7, 3) := by decide +kernel
theorem dM_rowAt_22 : decode cM_rowAt 22 = .ok (.iload_n 3, 1) := by decide +kernel
theorem dM_rowAt_23 : decode cM_rowAt 23 = .ok (.goto 4, 3) := by decide +kernel
theorem dM_rowAt_26 : decode cM_rowAt 26 = .ok (.iload_n 2, 1) := by decide +kernel
theorem dM_rowAt_27 : decode cM_rowAt 27 = .ok (.istore_n 2, 1) := by decide +kernel
theorem dM_rowAt_28 : decode cM_rowAt 28 = .ok (.iinc 3 1, 3) := by decide +kernel
theorem dM_rowAt_31 : decode cM_rowAt 31 = .ok (.goto (-27), 3) := by decide +kernel
theorem dM_rowAt_34 : decode cM_rowAt 34 = .ok (.iload_n 2, 1) := by decide +kernel
theorem dM_rowAt_35 : decode cM_rowAt 35 = .ok (.ireturn, 1) := by decide +kernel
noncomputable def lM_rowAt_4 (F : Nat) (τ : MS) (v1 : Int32) : Nat → Int32 → Int32 → Option (Int32)
  | 0, _, _ => none
  | n + 1, v2, v3 => if (m_rows τ) ≤ v3 then some (v2) else gd (vp_in v3 5) (if ((m_pivot τ) v3.toNatClampNeg) = v1 then lM_rowAt_4 F τ v1 n v3 (v3 + 1) else lM_rowAt_4 F τ v1 n v2 (v3 + 1))
set_option maxHeartbeats 4000000 in
set_option maxRecDepth 100000 in
theorem lM_rowAt_4_ok {g : Gm} {κ : ctx} (G : OK g κ RM cM_rowAt 4 (some .int) rm_M_rowAt) (X : Nat → va_E) (F : Nat) (τ : MS) (v1 : Int32) : ∀ (n : Nat) (v2 : Int32) (v3 : Int32) (out : Int32), lM_rowAt_4 F τ v1 n v2 v3 = some out → (J g κ 4 34 [(2, .int out)] [] (LM κ τ X)) → J g κ 4 4 [(0, .ref (κ.1 0)), (1, .int v1), (2, .int v2), (3, .int v3)] [] (LM κ τ X) := by
  intro n
  induction n with
  | zero =>
    intro v2 v3
    intro out h
    rw [lM_rowAt_4] at h
    cases h
  | succ n ih =>
    intro v2 v3 out h K
    rw [lM_rowAt_4] at h
    refine w_iload_n (pc := 4) (q := 3) G dM_rowAt_4 rfl rfl ?_
    refine w_aload_n (pc := 5) (q := 0) G dM_rowAt_5 rfl rfl ?_
    refine w_get (pc := 6) (v := .int (m_rows τ)) (fs := mfl κ τ) G 0 (by decide) rfl rfl wsM_ok 4 (by decide) wd494 rfl dM_rowAt_6 ?_
    refine w_icmp_ge (pc := 9) (tgt := 34) G dM_rowAt_9 (by decide) (fun c9 => ?_) (fun c9 => ?_)
    · have h := if_t c9 h
      obtain rfl := Option.some.inj h
      refine w_sub (lv' := [(2, .int v2)]) [2] rfl ?_
      exact K
    · have h := if_f c9 h
      refine w_aload_n (pc := 12) (q := 0) G dM_rowAt_12 rfl rfl ?_
      refine w_get (pc := 13) (v := .ref (κ.1 3)) (fs := mfl κ τ) G 0 (by decide) rfl rfl wsM_ok 6 (by decide) wd496 rfl dM_rowAt_13 ?_
      refine w_iload_n (pc := 16) (q := 3) G dM_rowAt_16 rfl rfl ?_
      obtain ⟨i17, h⟩ := gd_some h
      refine w_iald (pc := 17) (n := 5) (f := (m_pivot τ)) G 3 (by decide) rfl i17 dM_rowAt_17 ?_
      refine w_iload_n (pc := 18) (q := 1) G dM_rowAt_18 rfl rfl ?_
      refine w_icmp_ne (pc := 19) (tgt := 26) G dM_rowAt_19 (by decide) (fun c19 => ?_) (fun c19 => ?_)
      · have h := if_t c19 h
        refine w_iload_n (pc := 22) (q := 3) G dM_rowAt_22 rfl rfl ?_
        refine w_goto (pc := 23) (tgt := 27) G dM_rowAt_23 (by decide) ?_
        refine w_istore_n (pc := 27) (lv' := [(2, .int v3), (0, .ref (κ.1 0)), (1, .int v1), (3, .int v3)]) G dM_rowAt_27 rfl (by decide) rfl ?_
        refine w_iinc (pc := 28) (q0 := 3) (v := (v3 + 1)) (lv' := [(3, .int (v3 + 1)), (2, .int v3), (0, .ref (κ.1 0)), (1, .int v1)]) G dM_rowAt_28 rfl rfl (by decide) rfl ?_
        refine w_goto (pc := 31) (tgt := 4) G dM_rowAt_31 (by decide) ?_
        refine w_sub (lv' := [(0, .ref (κ.1 0)), (1, .int v1), (2, .int v3), (3, .int (v3 + 1))]) [2, 3, 1, 0] rfl ?_
        exact ih v3 (v3 + 1) out h K
      · have h := if_f c19 h
        refine w_iload_n (pc := 26) (q := 2) G dM_rowAt_26 rfl rfl ?_
        refine w_istore_n (pc := 27) (lv' := [(2, .int v2), (0, .ref (κ.1 0)), (1, .int v1), (3, .int v3)]) G dM_rowAt_27 rfl (by decide) rfl ?_
        refine w_iinc (pc := 28) (q0 := 3) (v := (v3 + 1)) (lv' := [(3, .int (v3 + 1)), (2, .int v2), (0, .ref (κ.1 0)), (1, .int v1)]) G dM_rowAt_28 rfl rfl (by decide) rfl ?_
        refine w_goto (pc := 31) (tgt := 4) G dM_rowAt_31 (by decide) ?_
        refine w_sub (lv' := [(0, .ref (κ.1 0)), (1, .int v1), (2, .int v2), (3, .int (v3 + 1))]) [2, 3, 1, 0] rfl ?_
        exact ih v2 (v3 + 1) out h K
noncomputable def M_rowAt (F : Nat) (τ : MS) (v1 : Int32) : Option (Int32) := (lM_rowAt_4 F τ v1 F (-1 : Int32) (0 : Int32)).bind (fun o4_6 => some o4_6)
set_option maxHeartbeats 4000000 in
set_option maxRecDepth 100000 in
theorem met_M_rowAt (κ : ctx) (X : Nat → va_E) (F : Nat) (τ : MS) (v1 : Int32) {out : Int32} (h : M_rowAt F τ v1 = some out) : Mt yM_rowAt cM_rowAt 4 (some .int) rm_M_rowAt κ [.ref (κ.1 0), .int v1] (LM κ τ X) (some (.int out)) (LM κ τ X) := by
  refine Mt.of (by decide) (Nat.le_of_ble_eq_true rfl) ?_
  intro g G Fh
  unfold M_rowAt at h
  show J g κ 4 0 [(0, .ref (κ.1 0)), (1, .int v1)] [] (LM κ τ X)
  refine w_iconst (pc := 0) (v := (-1 : Int32)) G dM_rowAt_0 (by decide) ?_
  refine w_istore_n (pc := 1) (lv' := [(2, .int (-1 : Int32)), (0, .ref (κ.1 0)), (1, .int v1)]) G dM_rowAt_1 rfl (by decide) rfl ?_
  refine w_iconst (pc := 2) (v := (0 : Int32)) G dM_rowAt_2 (by decide) ?_
  refine w_istore_n (pc := 3) (lv' := [(3, .int (0 : Int32)), (2, .int (-1 : Int32)), (0, .ref (κ.1 0)), (1, .int v1)]) G dM_rowAt_3 rfl (by decide) rfl ?_
  refine w_sub (lv' := [(0, .ref (κ.1 0)), (1, .int v1), (2, .int (-1 : Int32)), (3, .int (0 : Int32))]) [2, 3, 1, 0] rfl ?_
  obtain ⟨o4_6, eo4_6, h⟩ := bd h
  refine lM_rowAt_4_ok G X F τ v1 F (-1 : Int32) (0 : Int32) o4_6 eo4_6 ?_
  refine w_iload_n (pc := 34) (q := 0) G dM_rowAt_34 rfl rfl ?_
  obtain rfl := Option.some.inj h
  exact w_iret (pc := 35) G dM_rowAt_35 Fh
def rm_M_tidy : Room := { frames := 1, cells := 0, slots := 0, locals := 25 }
theorem dM_tidy_0 : decode cM_tidy 0 = .ok (.iload_n 1, 1) := by decide +kernel
theorem dM_tidy_1 : decode cM_tidy 1 = .ok (.iconst 1, 1) := by decide +kernel
theorem dM_tidy_2 : decode cM_tidy 2 = .ok (.iadd, 1) := by decide +kernel
theorem dM_tidy_3 : decode cM_tidy 3 = .ok (.istore_n 2, 1) := by decide +kernel
theorem dM_tidy_4 : decode cM_tidy 4 = .ok (.iload_n 2, 1) := by decide +kernel
theorem dM_tidy_5 : decode cM_tidy 5 = .ok (.iconst 4, 1) := by decide +kernel
theorem dM_tidy_6 : decode cM_tidy 6 = .ok (.if_icmp .ge 79, 3) := by decide +kernel
theorem dM_tidy_9 : decode cM_tidy 9 = .ok (.aload_n 0, 1) := by decide +kernel
theorem dM_tidy_10 : decode cM_tidy 10 = .ok (.iload_n 2, 1) := by decide +kernel
theorem dM_tidy_11 : decode cM_tidy 11 = .ok (.invokevirtual 77, 3) := by decide +kernel
theorem dM_tidy_14 : decode cM_tidy 14 = .ok (.istore_n 3, 1) := by decide +kernel
theorem dM_tidy_15 : decode cM_tidy 15 = .ok (.iload_n 3, 1) := by decide +kernel
theorem dM_tidy_16 : decode cM_tidy 16 = .ok (.ifCond .lt 63, 3) := by decide +kernel
theorem dM_tidy_19 : decode cM_tidy 19 = .ok (.aload_n 0, 1) := by decide +kernel
theorem dM_tidy_20 : decode cM_tidy 20 = .ok (.getfield 20, 3) := by decide +kernel
theorem dM_tidy_23 : decode cM_tidy 23 = .ok (.iload_n 2, 1) := by decide +kernel
theorem dM_tidy_24 : decode cM_tidy 24 = .ok (.laload, 1) := by decide +kernel
theorem dM_tidy_25 : decode cM_tidy 25 = .ok (.aload_n 0, 1) := by decide +kernel
theorem dM_tidy_26 : decode cM_tidy 26 = .ok (.getfield 13, 3) := by decide +kernel
theorem dM_tidy_29 : decode cM_tidy 29 = .ok (.iconst 4, 1) := by decide +kernel
theorem dM_tidy_30 : decode cM_tidy 30 = .ok (.iload_n 3, 1) := by decide +kernel
theorem dM_tidy_31 : decode cM_tidy 31 = .ok (.imul, 1) := by decide +kernel
theorem dM_tidy_32 : decode cM_tidy 32 = .ok (.iload_n 2, 1) := by decide +kernel
theorem dM_tidy_33 : decode cM_tidy 33 = .ok (.iadd, 1) := by decide +kernel
theorem dM_tidy_34 : decode cM_tidy 34 = .ok (.laload, 1) := by decide +kernel
theorem dM_tidy_35 : decode cM_tidy 35 = .ok (.invokestatic 81, 3) := by decide +kernel
theorem dM_tidy_38 : decode cM_tidy 38 = .ok (.lstore 4, 2) := by decide +kernel
theorem dM_tidy_40 : decode cM_tidy 40 = .ok (.iload_n 2, 1) := by decide +kernel
theorem dM_tidy_41 : decode cM_tidy 41 = .ok (.istore 6, 2) := by decide +kernel
theorem dM_tidy_43 : decode cM_tidy 43 = .ok (.iload 6, 2) := by decide +kernel
theorem dM_tidy_45 : decode cM_tidy 45 = .ok (.iconst 4, 1) := by decide +kernel
theorem dM_tidy_46 : decode cM_tidy 46 = .ok (.if_icmp .ge 33, 3) := by decide +kernel
theorem dM_tidy_49 : decode cM_tidy 49 = .ok (.aload_n 0, 1) := by decide +kernel
theorem dM_tidy_50 : decode cM_tidy 50 = .ok (.getfield 20, 3) := by decide +kernel
theorem dM_tidy_53 : decode cM_tidy 53 = .ok (.iload 6, 2) := by decide +kernel
theorem dM_tidy_55 : decode cM_tidy 55 = .ok (.dup2, 1) := by decide +kernel
theorem dM_tidy_56 : decode cM_tidy 56 = .ok (.laload, 1) := by decide +kernel
theorem dM_tidy_57 : decode cM_tidy 57 = .ok (.lload 4, 2) := by decide +kernel
theorem dM_tidy_59 : decode cM_tidy 59 = .ok (.aload_n 0, 1) := by decide +kernel
theorem dM_tidy_60 : decode cM_tidy 60 = .ok (.getfield 13, 3) := by decide +kernel
theorem dM_tidy_63 : decode cM_tidy 63 = .ok (.iconst 4, 1) := by decide +kernel
theorem dM_tidy_64 : decode cM_tidy 64 = .ok (.iload_n 3, 1) := by decide +kernel
theorem dM_tidy_65 : decode cM_tidy 65 = .ok (.imul, 1) := by decide +kernel
theorem dM_tidy_66 : decode cM_tidy 66 = .ok (.iload 6, 2) := by decide +kernel
theorem dM_tidy_68 : decode cM_tidy 68 = .ok (.iadd, 1) := by decide +kernel
theorem dM_tidy_69 : decode cM_tidy 69 = .ok (.laload, 1) := by decide +kernel
theorem dM_tidy_70 : decode cM_tidy 70 = .ok (.lmul, 1) := by decide +kernel
theorem dM_tidy_71 : decode cM_tidy 71 = .ok (.lsub, 1) := by decide +kernel
theorem dM_tidy_72 : decode cM_tidy 72 = .ok (.lastore, 1) := by decide +kernel
theorem dM_tidy_73 : decode cM_tidy 73 = .ok (.iinc 6 1, 3) := by decide +kernel
theorem dM_tidy_76 : decode cM_tidy 76 = .ok (.goto (-33), 3) := by decide +kernel
theorem dM_tidy_79 : decode cM_tidy 79 = .ok (.iinc 2 1, 3) := by decide +kernel
theorem dM_tidy_82 : decode cM_tidy 82 = .ok (.goto (-78), 3) := by decide +kernel
theorem dM_tidy_85 : decode cM_tidy 85 = .ok (.return_, 1) := by decide +kernel
theorem cb_M_rowAt_M_tidy : CB yM_rowAt cM_rowAt 4 (some .int) rm_M_rowAt rm_M_tidy 1 := ⟨wd606, wd8, by decide +kernel, rfl, rfl, by decide⟩
theorem cb_M_under_M_tidy : CB yM_under cM_under 6 (some .long) rm_M_under rm_M_tidy 2 := ⟨wd613, wd8, by decide +kernel, rfl, rfl, by decide⟩
noncomputable def lM_tidy_43 (F : Nat) (v2 : Int32) (v3 : Int32) (v4 : Int64) : Nat → Int32 → MS → Option (MS)
  | 0, _, _ => none
  | n + 1, v6, τ => if (4 : Int32) ≤ v6 then some (τ) else gd (vp_in v6 4) (gd (vp_in (((4 : Int32) * v3) + v6) 16) (gd (vp_in v6 4) (lM_tidy_43 F v2 v3 v4 n (v6 + 1) (s_fresh τ (vp_updL (m_fresh τ) v6.toNatClampNeg (((m_fresh τ) v6.toNatClampNeg) - (v4 * ((m_row τ) (((4 : Int32) * v3) + v6).toNatClampNeg))))))))
set_option maxHeartbeats 4000000 in
set_option maxRecDepth 100000 in
theorem lM_tidy_43_ok {g : Gm} {κ : ctx} (G : OK g κ RM cM_tidy 7 none rm_M_tidy) (X : Nat → va_E) (F : Nat) (v2 : Int32) (v3 : Int32) (v4 : Int64) : ∀ (n : Nat) (v6 : Int32) (τ : MS) (out : MS), lM_tidy_43 F v2 v3 v4 n v6 τ = some out → (J g κ 7 79 [(0, .ref (κ.1 0)), (2, .int v2)] [] (LM κ out X)) → J g κ 7 43 [(0, .ref (κ.1 0)), (2, .int v2), (3, .int v3), (4, .long v4), (6, .int v6)] [] (LM κ τ X) := by
  intro n
  induction n with
  | zero =>
    intro v6 τ
    intro out h
    rw [lM_tidy_43] at h
    cases h
  | succ n ih =>
    intro v6 τ out h K
    rw [lM_tidy_43] at h
    refine w_iload (pc := 43) (q := 4) G dM_tidy_43 rfl ?_
    refine w_iconst (pc := 45) (v := (4 : Int32)) G dM_tidy_45 (by decide) ?_
    refine w_icmp_ge (pc := 46) (tgt := 79) G dM_tidy_46 (by decide) (fun c46 => ?_) (fun c46 => ?_)
    · have h := if_t c46 h
      obtain rfl := Option.some.inj h
      refine w_sub (lv' := [(0, .ref (κ.1 0)), (2, .int v2)]) [0, 1] rfl ?_
      exact K
    · have h := if_f c46 h
      refine w_aload_n (pc := 49) (q := 0) G dM_tidy_49 rfl rfl ?_
      refine w_get (pc := 50) (v := .ref (κ.1 4)) (fs := mfl κ τ) G 0 (by decide) rfl rfl wsM_ok 7 (by decide) wd497 rfl dM_tidy_50 ?_
      refine w_iload (pc := 53) (q := 4) G dM_tidy_53 rfl ?_
      refine w_dup2_11 (pc := 55) G dM_tidy_55 rfl rfl ?_
      obtain ⟨i56, h⟩ := gd_some h
      refine w_lald (pc := 56) (n := 4) (f := (m_fresh τ)) G 4 (by decide) rfl i56 dM_tidy_56 ?_
      refine w_lload (pc := 57) (q := 3) G dM_tidy_57 rfl ?_
      refine w_aload_n (pc := 59) (q := 0) G dM_tidy_59 rfl rfl ?_
      refine w_get (pc := 60) (v := .ref (κ.1 2)) (fs := mfl κ τ) G 0 (by decide) rfl rfl wsM_ok 5 (by decide) wd495 rfl dM_tidy_60 ?_
      refine w_iconst (pc := 63) (v := (4 : Int32)) G dM_tidy_63 (by decide) ?_
      refine w_iload_n (pc := 64) (q := 2) G dM_tidy_64 rfl rfl ?_
      refine w_imul (pc := 65) G dM_tidy_65 ?_
      refine w_iload (pc := 66) (q := 4) G dM_tidy_66 rfl ?_
      refine w_iadd (pc := 68) G dM_tidy_68 ?_
      obtain ⟨i69, h⟩ := gd_some h
      refine w_lald (pc := 69) (n := 16) (f := (m_row τ)) G 2 (by decide) rfl i69 dM_tidy_69 ?_
      refine w_lmul (pc := 70) G dM_tidy_70 ?_
      refine w_lsub (pc := 71) G dM_tidy_71 ?_
      obtain ⟨i72, h⟩ := gd_some h
      refine w_last (pc := 72) (n := 4) (f := (m_fresh τ)) (L1 := (LM κ (s_fresh τ (vp_updL (m_fresh τ) v6.toNatClampNeg (((m_fresh τ) v6.toNatClampNeg) - (v4 * ((m_row τ) (((4 : Int32) * v3) + v6).toNatClampNeg))))) X)) G 4 (by decide) rfl i72 dM_tidy_72 (LM_fresh κ τ X _) ?_
      refine w_iinc (pc := 73) (q0 := 4) (v := (v6 + 1)) (lv' := [(6, .int (v6 + 1)), (0, .ref (κ.1 0)), (2, .int v2), (3, .int v3), (4, .long v4)]) G dM_tidy_73 rfl rfl (by decide) rfl ?_
      refine w_goto (pc := 76) (tgt := 43) G dM_tidy_76 (by decide) ?_
      refine w_sub (lv' := [(0, .ref (κ.1 0)), (2, .int v2), (3, .int v3), (4, .long v4), (6, .int (v6 + 1))]) [1, 2, 3, 4, 0] rfl ?_
      exact ih (v6 + 1) (s_fresh τ (vp_updL (m_fresh τ) v6.toNatClampNeg (((m_fresh τ) v6.toNatClampNeg) - (v4 * ((m_row τ) (((4 : Int32) * v3) + v6).toNatClampNeg))))) out h K
noncomputable def lM_tidy_4 (F : Nat)  : Nat → Int32 → MS → Option (MS)
  | 0, _, _ => none
  | n + 1, v2, τ => if (4 : Int32) ≤ v2 then some (τ) else (M_rowAt F τ v2).bind (fun r11 => if r11 < 0 then lM_tidy_4 F  n (v2 + 1) τ else gd (vp_in v2 4) (gd (vp_in (((4 : Int32) * r11) + v2) 16) ((M_under F ((m_fresh τ) v2.toNatClampNeg) ((m_row τ) (((4 : Int32) * r11) + v2).toNatClampNeg)).bind (fun r35 => (lM_tidy_43 F v2 r11 r35 F v2 τ).bind (fun o43_9 => lM_tidy_4 F  n (v2 + 1) o43_9)))))
set_option maxHeartbeats 4000000 in
set_option maxRecDepth 100000 in
theorem lM_tidy_4_ok {g : Gm} {κ : ctx} (G : OK g κ RM cM_tidy 7 none rm_M_tidy) (X : Nat → va_E) (F : Nat)  : ∀ (n : Nat) (v2 : Int32) (τ : MS) (out : MS), lM_tidy_4 F  n v2 τ = some out → (J g κ 7 85 [] [] (LM κ out X)) → J g κ 7 4 [(0, .ref (κ.1 0)), (2, .int v2)] [] (LM κ τ X) := by
  intro n
  induction n with
  | zero =>
    intro v2 τ
    intro out h
    rw [lM_tidy_4] at h
    cases h
  | succ n ih =>
    intro v2 τ out h K
    rw [lM_tidy_4] at h
    refine w_iload_n (pc := 4) (q := 1) G dM_tidy_4 rfl rfl ?_
    refine w_iconst (pc := 5) (v := (4 : Int32)) G dM_tidy_5 (by decide) ?_
    refine w_icmp_ge (pc := 6) (tgt := 85) G dM_tidy_6 (by decide) (fun c6 => ?_) (fun c6 => ?_)
    · have h := if_t c6 h
      obtain rfl := Option.some.inj h
      refine w_sub (lv' := []) [] rfl ?_
      exact K
    · have h := if_f c6 h
      refine w_aload_n (pc := 9) (q := 0) G dM_tidy_9 rfl rfl ?_
      refine w_iload_n (pc := 10) (q := 1) G dM_tidy_10 rfl rfl ?_
      obtain ⟨r11, e11, h⟩ := bd h
      refine w_callV (pc := 11) (av := [.int v2]) (rest := []) (v := some (.int r11)) (L' := (LM κ τ X)) (T := TM) (fs := mfl κ τ) G 0 0 27 (by decide) rfl rfl cb_M_rowAt_M_tidy wd605 ws22 wd603 (met_M_rowAt κ X F τ v2 e11) rfl rfl rfl (Nat.le_of_ble_eq_true rfl) dM_tidy_11 ?_
      refine w_istore_n (pc := 14) (lv' := [(3, .int r11), (0, .ref (κ.1 0)), (2, .int v2)]) G dM_tidy_14 rfl (by decide) rfl ?_
      refine w_iload_n (pc := 15) (q := 0) G dM_tidy_15 rfl rfl ?_
      refine w_if_lt (pc := 16) (tgt := 79) G dM_tidy_16 (by decide) (fun c16 => ?_) (fun c16 => ?_)
      · have h := if_t c16 h
        refine w_iinc (pc := 79) (q0 := 2) (v := (v2 + 1)) (lv' := [(2, .int (v2 + 1)), (3, .int r11), (0, .ref (κ.1 0))]) G dM_tidy_79 rfl rfl (by decide) rfl ?_
        refine w_goto (pc := 82) (tgt := 4) G dM_tidy_82 (by decide) ?_
        refine w_sub (lv' := [(0, .ref (κ.1 0)), (2, .int (v2 + 1))]) [2, 0] rfl ?_
        exact ih (v2 + 1) τ out h K
      · have h := if_f c16 h
        refine w_aload_n (pc := 19) (q := 1) G dM_tidy_19 rfl rfl ?_
        refine w_get (pc := 20) (v := .ref (κ.1 4)) (fs := mfl κ τ) G 0 (by decide) rfl rfl wsM_ok 7 (by decide) wd497 rfl dM_tidy_20 ?_
        refine w_iload_n (pc := 23) (q := 2) G dM_tidy_23 rfl rfl ?_
        obtain ⟨i24, h⟩ := gd_some h
        refine w_lald (pc := 24) (n := 4) (f := (m_fresh τ)) G 4 (by decide) rfl i24 dM_tidy_24 ?_
        refine w_aload_n (pc := 25) (q := 1) G dM_tidy_25 rfl rfl ?_
        refine w_get (pc := 26) (v := .ref (κ.1 2)) (fs := mfl κ τ) G 0 (by decide) rfl rfl wsM_ok 5 (by decide) wd495 rfl dM_tidy_26 ?_
        refine w_iconst (pc := 29) (v := (4 : Int32)) G dM_tidy_29 (by decide) ?_
        refine w_iload_n (pc := 30) (q := 0) G dM_tidy_30 rfl rfl ?_
        refine w_imul (pc := 31) G dM_tidy_31 ?_
        refine w_iload_n (pc := 32) (q := 2) G dM_tidy_32 rfl rfl ?_
        refine w_iadd (pc := 33) G dM_tidy_33 ?_
        obtain ⟨i34, h⟩ := gd_some h
        refine w_lald (pc := 34) (n := 16) (f := (m_row τ)) G 2 (by decide) rfl i34 dM_tidy_34 ?_
        obtain ⟨r35, e35, h⟩ := bd h
        refine w_callS (pc := 35) (av := [.long ((m_fresh τ) v2.toNatClampNeg), .long ((m_row τ) (((4 : Int32) * r11) + v2).toNatClampNeg)]) (rest := []) (v := some (.long r35)) (L' := (LM κ τ X)) G cb_M_under_M_tidy wd612 wd611 (met_M_under κ (LM κ τ X) F ((m_fresh τ) v2.toNatClampNeg) ((m_row τ) (((4 : Int32) * r11) + v2).toNatClampNeg) e35) rfl rfl rfl (Nat.le_of_ble_eq_true rfl) dM_tidy_35 ?_
        refine w_lstore (pc := 38) (lv' := [(4, .long r35), (3, .int r11), (0, .ref (κ.1 0)), (2, .int v2)]) G dM_tidy_38 (by decide) rfl ?_
        refine w_iload_n (pc := 40) (q := 3) G dM_tidy_40 rfl rfl ?_
        refine w_istore (pc := 41) (lv' := [(6, .int v2), (4, .long r35), (3, .int r11), (0, .ref (κ.1 0)), (2, .int v2)]) G dM_tidy_41 (by decide) rfl ?_
        refine w_sub (lv' := [(0, .ref (κ.1 0)), (2, .int v2), (3, .int r11), (4, .long r35), (6, .int v2)]) [3, 4, 2, 1, 0] rfl ?_
        obtain ⟨o43_9, eo43_9, h⟩ := bd h
        refine lM_tidy_43_ok G X F v2 r11 r35 F v2 τ o43_9 eo43_9 ?_
        refine w_iinc (pc := 79) (q0 := 1) (v := (v2 + 1)) (lv' := [(2, .int (v2 + 1)), (0, .ref (κ.1 0))]) G dM_tidy_79 rfl rfl (by decide) rfl ?_
        refine w_goto (pc := 82) (tgt := 4) G dM_tidy_82 (by decide) ?_
        refine w_sub (lv' := [(0, .ref (κ.1 0)), (2, .int (v2 + 1))]) [1, 0] rfl ?_
        exact ih (v2 + 1) o43_9 out h K
noncomputable def M_tidy (F : Nat) (τ : MS) (v1 : Int32) : Option (MS) := (lM_tidy_4 F  F (v1 + (1 : Int32)) τ).bind (fun o4_9 => some o4_9)
set_option maxHeartbeats 4000000 in
set_option maxRecDepth 100000 in
theorem met_M_tidy (κ : ctx) (X : Nat → va_E) (F : Nat) (τ : MS) (v1 : Int32) {out : MS} (h : M_tidy F τ v1 = some out) : Mt yM_tidy cM_tidy 7 none rm_M_tidy κ [.ref (κ.1 0), .int v1] (LM κ τ X) none (LM κ out X) := by
  refine Mt.of (by decide) (Nat.le_of_ble_eq_true rfl) ?_
  intro g G Fh
  unfold M_tidy at h
  show J g κ 7 0 [(0, .ref (κ.1 0)), (1, .int v1)] [] (LM κ τ X)
  refine w_iload_n (pc := 0) (q := 1) G dM_tidy_0 rfl rfl ?_
  refine w_iconst (pc := 1) (v := (1 : Int32)) G dM_tidy_1 (by decide) ?_
  refine w_iadd (pc := 2) G dM_tidy_2 ?_
  refine w_istore_n (pc := 3) (lv' := [(2, .int (v1 + (1 : Int32))), (0, .ref (κ.1 0)), (1, .int v1)]) G dM_tidy_3 rfl (by decide) rfl ?_
  refine w_sub (lv' := [(0, .ref (κ.1 0)), (2, .int (v1 + (1 : Int32)))]) [1, 0] rfl ?_
  obtain ⟨o4_9, eo4_9, h⟩ := bd h
  refine lM_tidy_4_ok G X F  F (v1 + (1 : Int32)) τ o4_9 eo4_9 ?_
  obtain rfl := Option.some.inj h
  exact w_vret (pc := 85) G dM_tidy_85 Fh
def rm_M_swap : Room := { frames := 0, cells := 0, slots := 0, locals := 0 }
theorem dM_swap_0 : decode cM_swap 0 = .ok (.iconst 0, 1) := by decide +kernel
theorem dM_swap_1 : decode cM_swap 1 = .ok (.istore_n 2, 1) := by decide +kernel
theorem dM_swap_2 : decode cM_swap 2 = .ok (.iload_n 2, 1) := by decide +kernel
theorem dM_swap_3 : decode cM_swap 3 = .ok (.iconst 4, 1) := by decide +kernel
theorem dM_swap_4 : decode cM_swap 4 = .ok (.if_icmp .ge 43, 3) := by decide +kernel
theorem dM_swap_7 : decode cM_swap 7 = .ok (.aload_n 0, 1) := by decide +kernel
theorem dM_swap_8 : decode cM_swap 8 = .ok (.getfield 20, 3) := by decide +kernel
theorem dM_swap_11 : decode cM_swap 11 = .ok (.iload_n 2, 1) := by decide +kernel
theorem dM_swap_12 : decode cM_swap 12 = .ok (.laload, 1) := by decide +kernel
theorem dM_swap_13 : decode cM_swap 13 = .ok (.lstore_n 3, 1) := by decide +kernel
theorem dM_swap_14 : decode cM_swap 14 = .ok (.aload_n 0, 1) := by decide +kernel
theorem dM_swap_15 : decode cM_swap 15 = .ok (.getfield 20, 3) := by decide +kernel
theorem dM_swap_18 : decode cM_swap 18 = .ok (.iload_n 2, 1) := by decide +kernel
theorem dM_swap_19 : decode cM_swap 19 = .ok (.aload_n 0, 1) := by decide +kernel
theorem dM_swap_20 : decode cM_swap 20 = .ok (.getfield 13, 3) := by decide +kernel
theorem dM_swap_23 : decode cM_swap 23 = .ok (.iconst 4, 1) := by decide +kernel
theorem dM_swap_24 : decode cM_swap 24 = .ok (.iload_n 1, 1) := by decide +kernel
theorem dM_swap_25 : decode cM_swap 25 = .ok (.imul, 1) := by decide +kernel
theorem dM_swap_26 : decode cM_swap 26 = .ok (.iload_n 2, 1) := by decide +kernel
theorem dM_swap_27 : decode cM_swap 27 = .ok (.iadd, 1) := by decide +kernel
theorem dM_swap_28 : decode cM_swap 28 = .ok (.laload, 1) := by decide +kernel
theorem dM_swap_29 : decode cM_swap 29 = .ok (.lastore, 1) := by decide +kernel
theorem dM_swap_30 : decode cM_swap 30 = .ok (.aload_n 0, 1) := by decide +kernel
theorem dM_swap_31 : decode cM_swap 31 = .ok (.getfield 13, 3) := by decide +kernel
theorem dM_swap_34 : decode cM_swap 34 = .ok (.iconst 4, 1) := by decide +kernel
theorem dM_swap_35 : decode cM_swap 35 = .ok (.iload_n 1, 1) := by decide +kernel
theorem dM_swap_36 : decode cM_swap 36 = .ok (.imul, 1) := by decide +kernel
theorem dM_swap_37 : decode cM_swap 37 = .ok (.iload_n 2, 1) := by decide +kernel
theorem dM_swap_38 : decode cM_swap 38 = .ok (.iadd, 1) := by decide +kernel
theorem dM_swap_39 : decode cM_swap 39 = .ok (.lload_n 3, 1) := by decide +kernel
theorem dM_swap_40 : decode cM_swap 40 = .ok (.lastore, 1) := by decide +kernel
theorem dM_swap_41 : decode cM_swap 41 = .ok (.iinc 2 1, 3) := by decide +kernel
theorem dM_swap_44 : decode cM_swap 44 = .ok (.goto (-42), 3) := by decide +kernel
theorem dM_swap_47 : decode cM_swap 47 = .ok (.return_, 1) := by decide +kernel
noncomputable def lM_swap_2 (F : Nat) (v1 : Int32) : Nat → Int32 → MS → Option (MS)
  | 0, _, _ => none
  | n + 1, v2, τ => if (4 : Int32) ≤ v2 then some (τ) else gd (vp_in v2 4) (gd (vp_in (((4 : Int32) * v1) + v2) 16) (gd (vp_in v2 4) (gd (vp_in (((4 : Int32) * v1) + v2) 16) (lM_swap_2 F v1 n (v2 + 1) (s_fresh (s_row τ (vp_updL (m_row τ) (((4 : Int32) * v1) + v2).toNatClampNeg ((m_fresh τ) v2.toNatClampNeg))) (vp_updL (m_fresh τ) v2.toNatClampNeg ((m_row τ) (((4 : Int32) * v1) + v2).toNatClampNeg)))))))
set_option maxHeartbeats 4000000 in
set_option maxRecDepth 100000 in
theorem lM_swap_2_ok {g : Gm} {κ : ctx} (G : OK g κ RM cM_swap 5 none rm_M_swap) (X : Nat → va_E) (F : Nat) (v1 : Int32) : ∀ (n : Nat) (v2 : Int32) (τ : MS) (out : MS), lM_swap_2 F v1 n v2 τ = some out → (J g κ 5 47 [] [] (LM κ out X)) → J g κ 5 2 [(0, .ref (κ.1 0)), (1, .int v1), (2, .int v2)] [] (LM κ τ X) := by
  intro n
  induction n with
  | zero =>
    intro v2 τ
    intro out h
    rw [lM_swap_2] at h
    cases h
  | succ n ih =>
    intro v2 τ out h K
    rw [lM_swap_2] at h
    refine w_iload_n (pc := 2) (q := 2) G dM_swap_2 rfl rfl ?_
    refine w_iconst (pc := 3) (v := (4 : Int32)) G dM_swap_3 (by decide) ?_
    refine w_icmp_ge (pc := 4) (tgt := 47) G dM_swap_4 (by decide) (fun c4 => ?_) (fun c4 => ?_)
    · have h := if_t c4 h
      obtain rfl := Option.some.inj h
      refine w_sub (lv' := []) [] rfl ?_
      exact K
    · have h := if_f c4 h
      refine w_aload_n (pc := 7) (q := 0) G dM_swap_7 rfl rfl ?_
      refine w_get (pc := 8) (v := .ref (κ.1 4)) (fs := mfl κ τ) G 0 (by decide) rfl rfl wsM_ok 7 (by decide) wd497 rfl dM_swap_8 ?_
      refine w_iload_n (pc := 11) (q := 2) G dM_swap_11 rfl rfl ?_
      obtain ⟨i12, h⟩ := gd_some h
      refine w_lald (pc := 12) (n := 4) (f := (m_fresh τ)) G 4 (by decide) rfl i12 dM_swap_12 ?_
      refine w_lstore_n (pc := 13) (lv' := [(3, .long ((m_fresh τ) v2.toNatClampNeg)), (0, .ref (κ.1 0)), (1, .int v1), (2, .int v2)]) G dM_swap_13 rfl (by decide) rfl ?_
      refine w_aload_n (pc := 14) (q := 1) G dM_swap_14 rfl rfl ?_
      refine w_get (pc := 15) (v := .ref (κ.1 4)) (fs := mfl κ τ) G 0 (by decide) rfl rfl wsM_ok 7 (by decide) wd497 rfl dM_swap_15 ?_
      refine w_iload_n (pc := 18) (q := 3) G dM_swap_18 rfl rfl ?_
      refine w_aload_n (pc := 19) (q := 1) G dM_swap_19 rfl rfl ?_
      refine w_get (pc := 20) (v := .ref (κ.1 2)) (fs := mfl κ τ) G 0 (by decide) rfl rfl wsM_ok 5 (by decide) wd495 rfl dM_swap_20 ?_
      refine w_iconst (pc := 23) (v := (4 : Int32)) G dM_swap_23 (by decide) ?_
      refine w_iload_n (pc := 24) (q := 2) G dM_swap_24 rfl rfl ?_
      refine w_imul (pc := 25) G dM_swap_25 ?_
      refine w_iload_n (pc := 26) (q := 3) G dM_swap_26 rfl rfl ?_
      refine w_iadd (pc := 27) G dM_swap_27 ?_
      obtain ⟨i28, h⟩ := gd_some h
      refine w_lald (pc := 28) (n := 16) (f := (m_row τ)) G 2 (by decide) rfl i28 dM_swap_28 ?_
      obtain ⟨i29, h⟩ := gd_some h
      refine w_last (pc := 29) (n := 4) (f := (m_fresh τ)) (L1 := (LM κ (s_fresh τ (vp_updL (m_fresh τ) v2.toNatClampNeg ((m_row τ) (((4 : Int32) * v1) + v2).toNatClampNeg))) X)) G 4 (by decide) rfl i29 dM_swap_29 (LM_fresh κ τ X _) ?_
      refine w_aload_n (pc := 30) (q := 1) G dM_swap_30 rfl rfl ?_
      refine w_get (pc := 31) (v := .ref (κ.1 2)) (fs := mfl κ (s_fresh τ (vp_updL (m_fresh τ) v2.toNatClampNeg ((m_row τ) (((4 : Int32) * v1) + v2).toNatClampNeg)))) G 0 (by decide) rfl rfl wsM_ok 5 (by decide) wd495 rfl dM_swap_31 ?_
      refine w_iconst (pc := 34) (v := (4 : Int32)) G dM_swap_34 (by decide) ?_
      refine w_iload_n (pc := 35) (q := 2) G dM_swap_35 rfl rfl ?_
      refine w_imul (pc := 36) G dM_swap_36 ?_
      refine w_iload_n (pc := 37) (q := 3) G dM_swap_37 rfl rfl ?_
      refine w_iadd (pc := 38) G dM_swap_38 ?_
      refine w_lload_n (pc := 39) (q := 0) G dM_swap_39 rfl rfl ?_
      obtain ⟨i40, h⟩ := gd_some h
      refine w_last (pc := 40) (n := 16) (f := (m_row τ)) (L1 := (LM κ (s_fresh (s_row τ (vp_updL (m_row τ) (((4 : Int32) * v1) + v2).toNatClampNeg ((m_fresh τ) v2.toNatClampNeg))) (vp_updL (m_fresh τ) v2.toNatClampNeg ((m_row τ) (((4 : Int32) * v1) + v2).toNatClampNeg))) X)) G 2 (by decide) rfl i40 dM_swap_40 (LM_row κ (s_fresh τ (vp_updL (m_fresh τ) v2.toNatClampNeg ((m_row τ) (((4 : Int32) * v1) + v2).toNatClampNeg))) X _) ?_
      refine w_iinc (pc := 41) (q0 := 3) (v := (v2 + 1)) (lv' := [(2, .int (v2 + 1)), (3, .long ((m_fresh τ) v2.toNatClampNeg)), (0, .ref (κ.1 0)), (1, .int v1)]) G dM_swap_41 rfl rfl (by decide) rfl ?_
      refine w_goto (pc := 44) (tgt := 2) G dM_swap_44 (by decide) ?_
      refine w_sub (lv' := [(0, .ref (κ.1 0)), (1, .int v1), (2, .int (v2 + 1))]) [2, 3, 0] rfl ?_
      exact ih (v2 + 1) (s_fresh (s_row τ (vp_updL (m_row τ) (((4 : Int32) * v1) + v2).toNatClampNeg ((m_fresh τ) v2.toNatClampNeg))) (vp_updL (m_fresh τ) v2.toNatClampNeg ((m_row τ) (((4 : Int32) * v1) + v2).toNatClampNeg))) out h K
noncomputable def M_swap (F : Nat) (τ : MS) (v1 : Int32) : Option (MS) := (lM_swap_2 F v1 F (0 : Int32) τ).bind (fun o2_4 => some o2_4)
set_option maxHeartbeats 4000000 in
set_option maxRecDepth 100000 in
theorem met_M_swap (κ : ctx) (X : Nat → va_E) (F : Nat) (τ : MS) (v1 : Int32) {out : MS} (h : M_swap F τ v1 = some out) : Mt yM_swap cM_swap 5 none rm_M_swap κ [.ref (κ.1 0), .int v1] (LM κ τ X) none (LM κ out X) := by
  refine Mt.of (by decide) (Nat.le_of_ble_eq_true rfl) ?_
  intro g G Fh
  unfold M_swap at h
  show J g κ 5 0 [(0, .ref (κ.1 0)), (1, .int v1)] [] (LM κ τ X)
  refine w_iconst (pc := 0) (v := (0 : Int32)) G dM_swap_0 (by decide) ?_
  refine w_istore_n (pc := 1) (lv' := [(2, .int (0 : Int32)), (0, .ref (κ.1 0)), (1, .int v1)]) G dM_swap_1 rfl (by decide) rfl ?_
  refine w_sub (lv' := [(0, .ref (κ.1 0)), (1, .int v1), (2, .int (0 : Int32))]) [1, 2, 0] rfl ?_
  obtain ⟨o2_4, eo2_4, h⟩ := bd h
  refine lM_swap_2_ok G X F v1 F (0 : Int32) τ o2_4 eo2_4 ?_
  obtain rfl := Option.some.inj h
  exact w_vret (pc := 47) G dM_swap_47 Fh
