/-! p1: the law's walk where one call at most is made: nothing is asked of the state behind it -/
def Tt {α : Type} (Inv : CS → MS → Prop) (n : Nat) (mk : α → Value) (ret : Option FieldType) (yV : MethodName) (bV : ByteArray) (nV : Nat) (rV : Room) (yM : MethodName) (bM : ByteArray) (nM : Nat) (rM : Room) : Prop :=
  ∀ (σ : CS) (τ : MS), Inv σ τ → ∀ is : List Int32, is.length = n → ∃ (v : α) (σ' : CS) (τ' : MS), True ∧ (∀ κ : ctx, Mt yV bV nV ret rV κ (.ref (κ.1 15) :: is.map .int) (LM κ τ (LC κ σ)) (some (mk v)) (LM κ τ (LC κ σ'))) ∧ (∀ κ : ctx, Mt yM bM nM ret rM κ (.ref (κ.1 0) :: is.map .int) (LM κ τ (LC κ σ')) (some (mk v)) (LM κ τ' (LC κ σ')))
def TtA (Inv : CS → MS → Prop) : Prop := Tt Inv 4 Value.int (some .int) yV_add cV_add 5 rm_V_add yM_add cM_add 5 rm_M_add ∧ Tt Inv 0 Value.int (some .boolean) yV_drop cV_drop 1 rm_V_drop yM_drop cM_drop 1 rm_M_drop ∧ Tt Inv 0 Value.int (some .int) yV_generators cV_generators 1 rm_V_generators yM_generators cM_generators 1 rm_M_generators ∧ Tt Inv 0 Value.int (some .int) yV_rank cV_rank 1 rm_V_rank yM_rank cM_rank 1 rm_M_rank ∧ Tt Inv 0 Value.long (some .long) yV_volume cV_volume 1 rm_V_volume yM_volume cM_volume 6 rm_M_volume ∧ Tt Inv 1 Value.int (some .boolean) yV_spare cV_spare 2 rm_V_spare yM_spare cM_spare 2 rm_M_spare ∧ Tt Inv 4 Value.int (some .boolean) yV_has cV_has 5 rm_V_has yM_has cM_has 5 rm_M_has ∧ Tt Inv 4 Value.long (some .long) yV_order cV_order 5 rm_V_order yM_order cM_order 5 rm_M_order ∧ Tt Inv 1 Value.int (some .int) yV_minimum cV_minimum 2 rm_V_minimum yM_minimum cM_minimum 2 rm_M_minimum ∧ Tt Inv 1 Value.int (some .int) yV_count cV_count 2 rm_V_count yM_count cM_count 2 rm_M_count ∧ Tt Inv 2 Value.int (some .int) yV_vector cV_vector 3 rm_V_vector yM_vector cM_vector 3 rm_M_vector ∧ Tt Inv 4 Value.int (some .int) yV_distance cV_distance 5 rm_V_distance yM_distance cM_distance 5 rm_M_distance ∧ Tt Inv 5 Value.int (some .int) yV_nearest cV_nearest 6 rm_V_nearest yM_nearest cM_nearest 6 rm_M_nearest
set_option maxHeartbeats 4000000 in
set_option maxRecDepth 100000 in
theorem lx_c0 {g : Gm} {κ : ctx} (G : OK g κ "ShortVectorsLaw" code 4 ret room_1) {b L i : Nat} {xs : Nat → Int32} (hX : ScrX g b L xs) (hi : i + 6 ≤ L) (hL : L ≤ 3072) {Inv : CS → MS → Prop} (hS : Tt Inv 4 Value.int (some .int) yV_add cV_add 5 rm_V_add yM_add cM_add 5 rm_M_add) {σ : CS} {τ : MS} (hI : Inv σ τ) (k : ∀ (σ' : CS) (τ' : MS), True → J g κ 4 531 [(0, .ref b), (1, .ref (κ.1 15)), (2, .ref (κ.1 0)), (3, .int (nI i))] [] (LM κ τ' (LC κ σ'))) : J g κ 4 100 [(0, .ref b), (1, .ref (κ.1 15)), (2, .ref (κ.1 0)), (3, .int (nI i))] [] (LM κ τ (LC κ σ)) := by
  obtain ⟨v, σ2, τ2, hI2, hV, hM⟩ := hS σ τ hI [xs (i + 1), xs (i + 2), xs (i + 3), xs (i + 4)] rfl
  have e1 : xs (nI i + 1).toNatClampNeg = xs (i + 1) := by rw [show nI i + 1 = nI (i + 1) from nI_add i 1, nI_clamp (by omega)]
  have i1 : vp_in (nI i + 1) L := by rw [show nI i + 1 = nI (i + 1) from nI_add i 1]; exact vp_in_nI (by omega) (by omega)
  have e2 : xs (nI i + 2).toNatClampNeg = xs (i + 2) := by rw [show nI i + 2 = nI (i + 2) from nI_add i 2, nI_clamp (by omega)]
  have i2 : vp_in (nI i + 2) L := by rw [show nI i + 2 = nI (i + 2) from nI_add i 2]; exact vp_in_nI (by omega) (by omega)
  have e3 : xs (nI i + 3).toNatClampNeg = xs (i + 3) := by rw [show nI i + 3 = nI (i + 3) from nI_add i 3, nI_clamp (by omega)]
  have i3 : vp_in (nI i + 3) L := by rw [show nI i + 3 = nI (i + 3) from nI_add i 3]; exact vp_in_nI (by omega) (by omega)
  have e4 : xs (nI i + 4).toNatClampNeg = xs (i + 4) := by rw [show nI i + 4 = nI (i + 4) from nI_add i 4, nI_clamp (by omega)]
  have i4 : vp_in (nI i + 4) L := by rw [show nI i + 4 = nI (i + 4) from nI_add i 4]; exact vp_in_nI (by omega) (by omega)
  refine w_aload_n (pc := 100) (q := 1) G dl_100 rfl rfl ?_
  refine w_aload_n (pc := 101) (q := 0) G dl_101 rfl rfl ?_
  refine w_iload_n (pc := 102) (q := 3) G dl_102 rfl rfl ?_
  refine w_iconst (pc := 103) (v := (1 : Int32)) G dl_103 (by decide) ?_
  refine w_iadd (pc := 104) G dl_104 ?_
  refine w_sld (pc := 105) G hX i1 dl_105 ?_
  rw [e1]
  refine w_aload_n (pc := 106) (q := 0) G dl_106 rfl rfl ?_
  refine w_iload_n (pc := 107) (q := 3) G dl_107 rfl rfl ?_
  refine w_iconst (pc := 108) (v := (2 : Int32)) G dl_108 (by decide) ?_
  refine w_iadd (pc := 109) G dl_109 ?_
  refine w_sld (pc := 110) G hX i2 dl_110 ?_
  rw [e2]
  refine w_aload_n (pc := 111) (q := 0) G dl_111 rfl rfl ?_
  refine w_iload_n (pc := 112) (q := 3) G dl_112 rfl rfl ?_
  refine w_iconst (pc := 113) (v := (3 : Int32)) G dl_113 (by decide) ?_
  refine w_iadd (pc := 114) G dl_114 ?_
  refine w_sld (pc := 115) G hX i3 dl_115 ?_
  rw [e3]
  refine w_aload_n (pc := 116) (q := 0) G dl_116 rfl rfl ?_
  refine w_iload_n (pc := 117) (q := 3) G dl_117 rfl rfl ?_
  refine w_iconst (pc := 118) (v := (4 : Int32)) G dl_118 (by decide) ?_
  refine w_iadd (pc := 119) G dl_119 ?_
  refine w_sld (pc := 120) G hX i4 dl_120 ?_
  rw [e4]
  refine w_callV (pc := 121) (av := [.int (xs (i + 1)), .int (xs (i + 2)), .int (xs (i + 3)), .int (xs (i + 4))]) (rest := []) (v := some (.int v)) (L' := LM κ τ (LC κ σ2)) (T := TV) (fs := fl_V κ σ) G 15 1 12 (by decide) lb15 rfl cb_V_add_law wd161 wd162 wd160 (hV κ) rfl rfl rfl (Nat.le_of_ble_eq_true rfl) dl_121 ?_
  refine w_aload_n (pc := 124) (q := 2) G dl_124 rfl rfl ?_
  refine w_aload_n (pc := 125) (q := 0) G dl_125 rfl rfl ?_
  refine w_iload_n (pc := 126) (q := 3) G dl_126 rfl rfl ?_
  refine w_iconst (pc := 127) (v := (1 : Int32)) G dl_127 (by decide) ?_
  refine w_iadd (pc := 128) G dl_128 ?_
  refine w_sld (pc := 129) G hX i1 dl_129 ?_
  rw [e1]
  refine w_aload_n (pc := 130) (q := 0) G dl_130 rfl rfl ?_
  refine w_iload_n (pc := 131) (q := 3) G dl_131 rfl rfl ?_
  refine w_iconst (pc := 132) (v := (2 : Int32)) G dl_132 (by decide) ?_
  refine w_iadd (pc := 133) G dl_133 ?_
  refine w_sld (pc := 134) G hX i2 dl_134 ?_
  rw [e2]
  refine w_aload_n (pc := 135) (q := 0) G dl_135 rfl rfl ?_
  refine w_iload_n (pc := 136) (q := 3) G dl_136 rfl rfl ?_
  refine w_iconst (pc := 137) (v := (3 : Int32)) G dl_137 (by decide) ?_
  refine w_iadd (pc := 138) G dl_138 ?_
  refine w_sld (pc := 139) G hX i3 dl_139 ?_
  rw [e3]
  refine w_aload_n (pc := 140) (q := 0) G dl_140 rfl rfl ?_
  refine w_iload_n (pc := 141) (q := 3) G dl_141 rfl rfl ?_
  refine w_iconst (pc := 142) (v := (4 : Int32)) G dl_142 (by decide) ?_
  refine w_iadd (pc := 143) G dl_143 ?_
  refine w_sld (pc := 144) G hX i4 dl_144 ?_
  rw [e4]
  refine w_callV (pc := 145) (av := [.int (xs (i + 1)), .int (xs (i + 2)), .int (xs (i + 3)), .int (xs (i + 4))]) (rest := [.int v]) (v := some (.int v)) (L' := LM κ τ2 (LC κ σ2)) (T := TM) (fs := fl_M κ τ) G 0 0 27 (by decide) lb0 rfl cb_M_add_law wd573 wd574 wd572 (hM κ) rfl rfl rfl (Nat.le_of_ble_eq_true rfl) dl_145 ?_
  refine w_icmp_eq (pc := 148) (tgt := 531) G dl_148 (by decide) (fun _ => ?_) (fun c9 => absurd rfl c9)
  exact k σ2 τ2 hI2
set_option maxHeartbeats 4000000 in
set_option maxRecDepth 100000 in
theorem lx_c1 {g : Gm} {κ : ctx} (G : OK g κ "ShortVectorsLaw" code 4 ret room_1) {b L i : Nat} {xs : Nat → Int32} (hX : ScrX g b L xs) (hi : i + 6 ≤ L) (hL : L ≤ 3072) {Inv : CS → MS → Prop} (hS : Tt Inv 0 Value.int (some .boolean) yV_drop cV_drop 1 rm_V_drop yM_drop cM_drop 1 rm_M_drop) {σ : CS} {τ : MS} (hI : Inv σ τ) (k : ∀ (σ' : CS) (τ' : MS), True → J g κ 4 531 [(0, .ref b), (1, .ref (κ.1 15)), (2, .ref (κ.1 0)), (3, .int (nI i))] [] (LM κ τ' (LC κ σ'))) : J g κ 4 153 [(0, .ref b), (1, .ref (κ.1 15)), (2, .ref (κ.1 0)), (3, .int (nI i))] [] (LM κ τ (LC κ σ)) := by
  obtain ⟨v, σ2, τ2, hI2, hV, hM⟩ := hS σ τ hI [] rfl
  refine w_aload_n (pc := 153) (q := 1) G dl_153 rfl rfl ?_
  refine w_callV (pc := 154) (av := []) (rest := []) (v := some (.int v)) (L' := LM κ τ (LC κ σ2)) (T := TV) (fs := fl_V κ σ) G 15 1 12 (by decide) lb15 rfl cb_V_drop_law wd204 wd205 wd203 (hV κ) rfl rfl rfl (Nat.le_of_ble_eq_true rfl) dl_154 ?_
  refine w_aload_n (pc := 157) (q := 2) G dl_157 rfl rfl ?_
  refine w_callV (pc := 158) (av := []) (rest := [.int v]) (v := some (.int v)) (L' := LM κ τ2 (LC κ σ2)) (T := TM) (fs := fl_M κ τ) G 0 0 27 (by decide) lb0 rfl cb_M_drop_law wd584 wd585 wd583 (hM κ) rfl rfl rfl (Nat.le_of_ble_eq_true rfl) dl_158 ?_
  refine w_icmp_eq (pc := 161) (tgt := 531) G dl_161 (by decide) (fun _ => ?_) (fun c9 => absurd rfl c9)
  exact k σ2 τ2 hI2
set_option maxHeartbeats 4000000 in
set_option maxRecDepth 100000 in
theorem lx_c2 {g : Gm} {κ : ctx} (G : OK g κ "ShortVectorsLaw" code 4 ret room_1) {b L i : Nat} {xs : Nat → Int32} (hX : ScrX g b L xs) (hi : i + 6 ≤ L) (hL : L ≤ 3072) {Inv : CS → MS → Prop} (hS : Tt Inv 0 Value.int (some .int) yV_generators cV_generators 1 rm_V_generators yM_generators cM_generators 1 rm_M_generators) {σ : CS} {τ : MS} (hI : Inv σ τ) (k : ∀ (σ' : CS) (τ' : MS), True → J g κ 4 531 [(0, .ref b), (1, .ref (κ.1 15)), (2, .ref (κ.1 0)), (3, .int (nI i))] [] (LM κ τ' (LC κ σ'))) : J g κ 4 166 [(0, .ref b), (1, .ref (κ.1 15)), (2, .ref (κ.1 0)), (3, .int (nI i))] [] (LM κ τ (LC κ σ)) := by
  obtain ⟨v, σ2, τ2, hI2, hV, hM⟩ := hS σ τ hI [] rfl
  refine w_aload_n (pc := 166) (q := 1) G dl_166 rfl rfl ?_
  refine w_callV (pc := 167) (av := []) (rest := []) (v := some (.int v)) (L' := LM κ τ (LC κ σ2)) (T := TV) (fs := fl_V κ σ) G 15 1 12 (by decide) lb15 rfl cb_V_generators_law wd219 wd220 wd218 (hV κ) rfl rfl rfl (Nat.le_of_ble_eq_true rfl) dl_167 ?_
  refine w_aload_n (pc := 170) (q := 2) G dl_170 rfl rfl ?_
  refine w_callV (pc := 171) (av := []) (rest := [.int v]) (v := some (.int v)) (L' := LM κ τ2 (LC κ σ2)) (T := TM) (fs := fl_M κ τ) G 0 0 27 (by decide) lb0 rfl cb_M_generators_law wd588 wd589 wd587 (hM κ) rfl rfl rfl (Nat.le_of_ble_eq_true rfl) dl_171 ?_
  refine w_icmp_eq (pc := 174) (tgt := 531) G dl_174 (by decide) (fun _ => ?_) (fun c9 => absurd rfl c9)
  exact k σ2 τ2 hI2
set_option maxHeartbeats 4000000 in
set_option maxRecDepth 100000 in
theorem lx_c3 {g : Gm} {κ : ctx} (G : OK g κ "ShortVectorsLaw" code 4 ret room_1) {b L i : Nat} {xs : Nat → Int32} (hX : ScrX g b L xs) (hi : i + 6 ≤ L) (hL : L ≤ 3072) {Inv : CS → MS → Prop} (hS : Tt Inv 0 Value.int (some .int) yV_rank cV_rank 1 rm_V_rank yM_rank cM_rank 1 rm_M_rank) {σ : CS} {τ : MS} (hI : Inv σ τ) (k : ∀ (σ' : CS) (τ' : MS), True → J g κ 4 531 [(0, .ref b), (1, .ref (κ.1 15)), (2, .ref (κ.1 0)), (3, .int (nI i))] [] (LM κ τ' (LC κ σ'))) : J g κ 4 179 [(0, .ref b), (1, .ref (κ.1 15)), (2, .ref (κ.1 0)), (3, .int (nI i))] [] (LM κ τ (LC κ σ)) := by
  obtain ⟨v, σ2, τ2, hI2, hV, hM⟩ := hS σ τ hI [] rfl
  refine w_aload_n (pc := 179) (q := 1) G dl_179 rfl rfl ?_
  refine w_callV (pc := 180) (av := []) (rest := []) (v := some (.int v)) (L' := LM κ τ (LC κ σ2)) (T := TV) (fs := fl_V κ σ) G 15 1 12 (by decide) lb15 rfl cb_V_rank_law wd223 wd224 wd222 (hV κ) rfl rfl rfl (Nat.le_of_ble_eq_true rfl) dl_180 ?_
  refine w_aload_n (pc := 183) (q := 2) G dl_183 rfl rfl ?_
  refine w_callV (pc := 184) (av := []) (rest := [.int v]) (v := some (.int v)) (L' := LM κ τ2 (LC κ σ2)) (T := TM) (fs := fl_M κ τ) G 0 0 27 (by decide) lb0 rfl cb_M_rank_law wd592 wd593 wd591 (hM κ) rfl rfl rfl (Nat.le_of_ble_eq_true rfl) dl_184 ?_
  refine w_icmp_eq (pc := 187) (tgt := 531) G dl_187 (by decide) (fun _ => ?_) (fun c9 => absurd rfl c9)
  exact k σ2 τ2 hI2
set_option maxHeartbeats 4000000 in
set_option maxRecDepth 100000 in
theorem lx_c4 {g : Gm} {κ : ctx} (G : OK g κ "ShortVectorsLaw" code 4 ret room_1) {b L i : Nat} {xs : Nat → Int32} (hX : ScrX g b L xs) (hi : i + 6 ≤ L) (hL : L ≤ 3072) {Inv : CS → MS → Prop} (hS : Tt Inv 0 Value.long (some .long) yV_volume cV_volume 1 rm_V_volume yM_volume cM_volume 6 rm_M_volume) {σ : CS} {τ : MS} (hI : Inv σ τ) (k : ∀ (σ' : CS) (τ' : MS), True → J g κ 4 531 [(0, .ref b), (1, .ref (κ.1 15)), (2, .ref (κ.1 0)), (3, .int (nI i))] [] (LM κ τ' (LC κ σ'))) : J g κ 4 192 [(0, .ref b), (1, .ref (κ.1 15)), (2, .ref (κ.1 0)), (3, .int (nI i))] [] (LM κ τ (LC κ σ)) := by
  obtain ⟨v, σ2, τ2, hI2, hV, hM⟩ := hS σ τ hI [] rfl
  refine w_aload_n (pc := 192) (q := 1) G dl_192 rfl rfl ?_
  refine w_callV (pc := 193) (av := []) (rest := []) (v := some (.long v)) (L' := LM κ τ (LC κ σ2)) (T := TV) (fs := fl_V κ σ) G 15 1 12 (by decide) lb15 rfl cb_V_volume_law wd231 wd232 wd230 (hV κ) rfl rfl rfl (Nat.le_of_ble_eq_true rfl) dl_193 ?_
  refine w_aload_n (pc := 196) (q := 2) G dl_196 rfl rfl ?_
  refine w_callV (pc := 197) (av := []) (rest := [.long v]) (v := some (.long v)) (L' := LM κ τ2 (LC κ σ2)) (T := TM) (fs := fl_M κ τ) G 0 0 27 (by decide) lb0 rfl cb_M_volume_law wd627 wd628 wd626 (hM κ) rfl rfl rfl (Nat.le_of_ble_eq_true rfl) dl_197 ?_
  refine w_lc_eq (pc := 200) (tgt := 531) G dl_200 dl_201 (by decide) (fun _ => ?_) (fun c9 => absurd rfl c9)
  exact k σ2 τ2 hI2
set_option maxHeartbeats 4000000 in
set_option maxRecDepth 100000 in
theorem lx_c5 {g : Gm} {κ : ctx} (G : OK g κ "ShortVectorsLaw" code 4 ret room_1) {b L i : Nat} {xs : Nat → Int32} (hX : ScrX g b L xs) (hi : i + 6 ≤ L) (hL : L ≤ 3072) {Inv : CS → MS → Prop} (hS : Tt Inv 1 Value.int (some .boolean) yV_spare cV_spare 2 rm_V_spare yM_spare cM_spare 2 rm_M_spare) {σ : CS} {τ : MS} (hI : Inv σ τ) (k : ∀ (σ' : CS) (τ' : MS), True → J g κ 4 531 [(0, .ref b), (1, .ref (κ.1 15)), (2, .ref (κ.1 0)), (3, .int (nI i))] [] (LM κ τ' (LC κ σ'))) : J g κ 4 206 [(0, .ref b), (1, .ref (κ.1 15)), (2, .ref (κ.1 0)), (3, .int (nI i))] [] (LM κ τ (LC κ σ)) := by
  obtain ⟨v, σ2, τ2, hI2, hV, hM⟩ := hS σ τ hI [xs (i + 1)] rfl
  have e1 : xs (nI i + 1).toNatClampNeg = xs (i + 1) := by rw [show nI i + 1 = nI (i + 1) from nI_add i 1, nI_clamp (by omega)]
  have i1 : vp_in (nI i + 1) L := by rw [show nI i + 1 = nI (i + 1) from nI_add i 1]; exact vp_in_nI (by omega) (by omega)
  refine w_aload_n (pc := 206) (q := 1) G dl_206 rfl rfl ?_
  refine w_aload_n (pc := 207) (q := 0) G dl_207 rfl rfl ?_
  refine w_iload_n (pc := 208) (q := 3) G dl_208 rfl rfl ?_
  refine w_iconst (pc := 209) (v := (1 : Int32)) G dl_209 (by decide) ?_
  refine w_iadd (pc := 210) G dl_210 ?_
  refine w_sld (pc := 211) G hX i1 dl_211 ?_
  rw [e1]
  refine w_callV (pc := 212) (av := [.int (xs (i + 1))]) (rest := []) (v := some (.int v)) (L' := LM κ τ (LC κ σ2)) (T := TV) (fs := fl_V κ σ) G 15 1 12 (by decide) lb15 rfl cb_V_spare_law wd314 wd315 wd313 (hV κ) rfl rfl rfl (Nat.le_of_ble_eq_true rfl) dl_212 ?_
  refine w_aload_n (pc := 215) (q := 2) G dl_215 rfl rfl ?_
  refine w_aload_n (pc := 216) (q := 0) G dl_216 rfl rfl ?_
  refine w_iload_n (pc := 217) (q := 3) G dl_217 rfl rfl ?_
  refine w_iconst (pc := 218) (v := (1 : Int32)) G dl_218 (by decide) ?_
  refine w_iadd (pc := 219) G dl_219 ?_
  refine w_sld (pc := 220) G hX i1 dl_220 ?_
  rw [e1]
  refine w_callV (pc := 221) (av := [.int (xs (i + 1))]) (rest := [.int v]) (v := some (.int v)) (L' := LM κ τ2 (LC κ σ2)) (T := TM) (fs := fl_M κ τ) G 0 0 27 (by decide) lb0 rfl cb_M_spare_law wd639 wd640 wd638 (hM κ) rfl rfl rfl (Nat.le_of_ble_eq_true rfl) dl_221 ?_
  refine w_icmp_eq (pc := 224) (tgt := 531) G dl_224 (by decide) (fun _ => ?_) (fun c9 => absurd rfl c9)
  exact k σ2 τ2 hI2
set_option maxHeartbeats 4000000 in
set_option maxRecDepth 100000 in
theorem lx_c6 {g : Gm} {κ : ctx} (G : OK g κ "ShortVectorsLaw" code 4 ret room_1) {b L i : Nat} {xs : Nat → Int32} (hX : ScrX g b L xs) (hi : i + 6 ≤ L) (hL : L ≤ 3072) {Inv : CS → MS → Prop} (hS : Tt Inv 4 Value.int (some .boolean) yV_has cV_has 5 rm_V_has yM_has cM_has 5 rm_M_has) {σ : CS} {τ : MS} (hI : Inv σ τ) (k : ∀ (σ' : CS) (τ' : MS), True → J g κ 4 531 [(0, .ref b), (1, .ref (κ.1 15)), (2, .ref (κ.1 0)), (3, .int (nI i))] [] (LM κ τ' (LC κ σ'))) : J g κ 4 229 [(0, .ref b), (1, .ref (κ.1 15)), (2, .ref (κ.1 0)), (3, .int (nI i))] [] (LM κ τ (LC κ σ)) := by
  obtain ⟨v, σ2, τ2, hI2, hV, hM⟩ := hS σ τ hI [xs (i + 1), xs (i + 2), xs (i + 3), xs (i + 4)] rfl
  have e1 : xs (nI i + 1).toNatClampNeg = xs (i + 1) := by rw [show nI i + 1 = nI (i + 1) from nI_add i 1, nI_clamp (by omega)]
  have i1 : vp_in (nI i + 1) L := by rw [show nI i + 1 = nI (i + 1) from nI_add i 1]; exact vp_in_nI (by omega) (by omega)
  have e2 : xs (nI i + 2).toNatClampNeg = xs (i + 2) := by rw [show nI i + 2 = nI (i + 2) from nI_add i 2, nI_clamp (by omega)]
  have i2 : vp_in (nI i + 2) L := by rw [show nI i + 2 = nI (i + 2) from nI_add i 2]; exact vp_in_nI (by omega) (by omega)
  have e3 : xs (nI i + 3).toNatClampNeg = xs (i + 3) := by rw [show nI i + 3 = nI (i + 3) from nI_add i 3, nI_clamp (by omega)]
  have i3 : vp_in (nI i + 3) L := by rw [show nI i + 3 = nI (i + 3) from nI_add i 3]; exact vp_in_nI (by omega) (by omega)
  have e4 : xs (nI i + 4).toNatClampNeg = xs (i + 4) := by rw [show nI i + 4 = nI (i + 4) from nI_add i 4, nI_clamp (by omega)]
  have i4 : vp_in (nI i + 4) L := by rw [show nI i + 4 = nI (i + 4) from nI_add i 4]; exact vp_in_nI (by omega) (by omega)
  refine w_aload_n (pc := 229) (q := 1) G dl_229 rfl rfl ?_
  refine w_aload_n (pc := 230) (q := 0) G dl_230 rfl rfl ?_
  refine w_iload_n (pc := 231) (q := 3) G dl_231 rfl rfl ?_
  refine w_iconst (pc := 232) (v := (1 : Int32)) G dl_232 (by decide) ?_
  refine w_iadd (pc := 233) G dl_233 ?_
  refine w_sld (pc := 234) G hX i1 dl_234 ?_
  rw [e1]
  refine w_aload_n (pc := 235) (q := 0) G dl_235 rfl rfl ?_
  refine w_iload_n (pc := 236) (q := 3) G dl_236 rfl rfl ?_
  refine w_iconst (pc := 237) (v := (2 : Int32)) G dl_237 (by decide) ?_
  refine w_iadd (pc := 238) G dl_238 ?_
  refine w_sld (pc := 239) G hX i2 dl_239 ?_
  rw [e2]
  refine w_aload_n (pc := 240) (q := 0) G dl_240 rfl rfl ?_
  refine w_iload_n (pc := 241) (q := 3) G dl_241 rfl rfl ?_
  refine w_iconst (pc := 242) (v := (3 : Int32)) G dl_242 (by decide) ?_
  refine w_iadd (pc := 243) G dl_243 ?_
  refine w_sld (pc := 244) G hX i3 dl_244 ?_
  rw [e3]
  refine w_aload_n (pc := 245) (q := 0) G dl_245 rfl rfl ?_
  refine w_iload_n (pc := 246) (q := 3) G dl_246 rfl rfl ?_
  refine w_iconst (pc := 247) (v := (4 : Int32)) G dl_247 (by decide) ?_
  refine w_iadd (pc := 248) G dl_248 ?_
  refine w_sld (pc := 249) G hX i4 dl_249 ?_
  rw [e4]
  refine w_callV (pc := 250) (av := [.int (xs (i + 1)), .int (xs (i + 2)), .int (xs (i + 3)), .int (xs (i + 4))]) (rest := []) (v := some (.int v)) (L' := LM κ τ (LC κ σ2)) (T := TV) (fs := fl_V κ σ) G 15 1 12 (by decide) lb15 rfl cb_V_has_law wd327 wd328 wd326 (hV κ) rfl rfl rfl (Nat.le_of_ble_eq_true rfl) dl_250 ?_
  refine w_aload_n (pc := 253) (q := 2) G dl_253 rfl rfl ?_
  refine w_aload_n (pc := 254) (q := 0) G dl_254 rfl rfl ?_
  refine w_iload_n (pc := 255) (q := 3) G dl_255 rfl rfl ?_
  refine w_iconst (pc := 256) (v := (1 : Int32)) G dl_256 (by decide) ?_
  refine w_iadd (pc := 257) G dl_257 ?_
  refine w_sld (pc := 258) G hX i1 dl_258 ?_
  rw [e1]
  refine w_aload_n (pc := 259) (q := 0) G dl_259 rfl rfl ?_
  refine w_iload_n (pc := 260) (q := 3) G dl_260 rfl rfl ?_
  refine w_iconst (pc := 261) (v := (2 : Int32)) G dl_261 (by decide) ?_
  refine w_iadd (pc := 262) G dl_262 ?_
  refine w_sld (pc := 263) G hX i2 dl_263 ?_
  rw [e2]
  refine w_aload_n (pc := 264) (q := 0) G dl_264 rfl rfl ?_
  refine w_iload_n (pc := 265) (q := 3) G dl_265 rfl rfl ?_
  refine w_iconst (pc := 266) (v := (3 : Int32)) G dl_266 (by decide) ?_
  refine w_iadd (pc := 267) G dl_267 ?_
  refine w_sld (pc := 268) G hX i3 dl_268 ?_
  rw [e3]
  refine w_aload_n (pc := 269) (q := 0) G dl_269 rfl rfl ?_
  refine w_iload_n (pc := 270) (q := 3) G dl_270 rfl rfl ?_
  refine w_iconst (pc := 271) (v := (4 : Int32)) G dl_271 (by decide) ?_
  refine w_iadd (pc := 272) G dl_272 ?_
  refine w_sld (pc := 273) G hX i4 dl_273 ?_
  rw [e4]
  refine w_callV (pc := 274) (av := [.int (xs (i + 1)), .int (xs (i + 2)), .int (xs (i + 3)), .int (xs (i + 4))]) (rest := [.int v]) (v := some (.int v)) (L' := LM κ τ2 (LC κ σ2)) (T := TM) (fs := fl_M κ τ) G 0 0 27 (by decide) lb0 rfl cb_M_has_law wd654 wd655 wd653 (hM κ) rfl rfl rfl (Nat.le_of_ble_eq_true rfl) dl_274 ?_
  refine w_icmp_eq (pc := 277) (tgt := 531) G dl_277 (by decide) (fun _ => ?_) (fun c9 => absurd rfl c9)
  exact k σ2 τ2 hI2
set_option maxHeartbeats 4000000 in
set_option maxRecDepth 100000 in
theorem lx_c7 {g : Gm} {κ : ctx} (G : OK g κ "ShortVectorsLaw" code 4 ret room_1) {b L i : Nat} {xs : Nat → Int32} (hX : ScrX g b L xs) (hi : i + 6 ≤ L) (hL : L ≤ 3072) {Inv : CS → MS → Prop} (hS : Tt Inv 4 Value.long (some .long) yV_order cV_order 5 rm_V_order yM_order cM_order 5 rm_M_order) {σ : CS} {τ : MS} (hI : Inv σ τ) (k : ∀ (σ' : CS) (τ' : MS), True → J g κ 4 531 [(0, .ref b), (1, .ref (κ.1 15)), (2, .ref (κ.1 0)), (3, .int (nI i))] [] (LM κ τ' (LC κ σ'))) : J g κ 4 282 [(0, .ref b), (1, .ref (κ.1 15)), (2, .ref (κ.1 0)), (3, .int (nI i))] [] (LM κ τ (LC κ σ)) := by
  obtain ⟨v, σ2, τ2, hI2, hV, hM⟩ := hS σ τ hI [xs (i + 1), xs (i + 2), xs (i + 3), xs (i + 4)] rfl
  have e1 : xs (nI i + 1).toNatClampNeg = xs (i + 1) := by rw [show nI i + 1 = nI (i + 1) from nI_add i 1, nI_clamp (by omega)]
  have i1 : vp_in (nI i + 1) L := by rw [show nI i + 1 = nI (i + 1) from nI_add i 1]; exact vp_in_nI (by omega) (by omega)
  have e2 : xs (nI i + 2).toNatClampNeg = xs (i + 2) := by rw [show nI i + 2 = nI (i + 2) from nI_add i 2, nI_clamp (by omega)]
  have i2 : vp_in (nI i + 2) L := by rw [show nI i + 2 = nI (i + 2) from nI_add i 2]; exact vp_in_nI (by omega) (by omega)
  have e3 : xs (nI i + 3).toNatClampNeg = xs (i + 3) := by rw [show nI i + 3 = nI (i + 3) from nI_add i 3, nI_clamp (by omega)]
  have i3 : vp_in (nI i + 3) L := by rw [show nI i + 3 = nI (i + 3) from nI_add i 3]; exact vp_in_nI (by omega) (by omega)
  have e4 : xs (nI i + 4).toNatClampNeg = xs (i + 4) := by rw [show nI i + 4 = nI (i + 4) from nI_add i 4, nI_clamp (by omega)]
  have i4 : vp_in (nI i + 4) L := by rw [show nI i + 4 = nI (i + 4) from nI_add i 4]; exact vp_in_nI (by omega) (by omega)
  refine w_aload_n (pc := 282) (q := 1) G dl_282 rfl rfl ?_
  refine w_aload_n (pc := 283) (q := 0) G dl_283 rfl rfl ?_
  refine w_iload_n (pc := 284) (q := 3) G dl_284 rfl rfl ?_
  refine w_iconst (pc := 285) (v := (1 : Int32)) G dl_285 (by decide) ?_
  refine w_iadd (pc := 286) G dl_286 ?_
  refine w_sld (pc := 287) G hX i1 dl_287 ?_
  rw [e1]
  refine w_aload_n (pc := 288) (q := 0) G dl_288 rfl rfl ?_
  refine w_iload_n (pc := 289) (q := 3) G dl_289 rfl rfl ?_
  refine w_iconst (pc := 290) (v := (2 : Int32)) G dl_290 (by decide) ?_
  refine w_iadd (pc := 291) G dl_291 ?_
  refine w_sld (pc := 292) G hX i2 dl_292 ?_
  rw [e2]
  refine w_aload_n (pc := 293) (q := 0) G dl_293 rfl rfl ?_
  refine w_iload_n (pc := 294) (q := 3) G dl_294 rfl rfl ?_
  refine w_iconst (pc := 295) (v := (3 : Int32)) G dl_295 (by decide) ?_
  refine w_iadd (pc := 296) G dl_296 ?_
  refine w_sld (pc := 297) G hX i3 dl_297 ?_
  rw [e3]
  refine w_aload_n (pc := 298) (q := 0) G dl_298 rfl rfl ?_
  refine w_iload_n (pc := 299) (q := 3) G dl_299 rfl rfl ?_
  refine w_iconst (pc := 300) (v := (4 : Int32)) G dl_300 (by decide) ?_
  refine w_iadd (pc := 301) G dl_301 ?_
  refine w_sld (pc := 302) G hX i4 dl_302 ?_
  rw [e4]
  refine w_callV (pc := 303) (av := [.int (xs (i + 1)), .int (xs (i + 2)), .int (xs (i + 3)), .int (xs (i + 4))]) (rest := []) (v := some (.long v)) (L' := LM κ τ (LC κ σ2)) (T := TV) (fs := fl_V κ σ) G 15 1 12 (by decide) lb15 rfl cb_V_order_law wd331 wd332 wd330 (hV κ) rfl rfl rfl (Nat.le_of_ble_eq_true rfl) dl_303 ?_
  refine w_aload_n (pc := 306) (q := 2) G dl_306 rfl rfl ?_
  refine w_aload_n (pc := 307) (q := 0) G dl_307 rfl rfl ?_
  refine w_iload_n (pc := 308) (q := 3) G dl_308 rfl rfl ?_
  refine w_iconst (pc := 309) (v := (1 : Int32)) G dl_309 (by decide) ?_
  refine w_iadd (pc := 310) G dl_310 ?_
  refine w_sld (pc := 311) G hX i1 dl_311 ?_
  rw [e1]
  refine w_aload_n (pc := 312) (q := 0) G dl_312 rfl rfl ?_
  refine w_iload_n (pc := 313) (q := 3) G dl_313 rfl rfl ?_
  refine w_iconst (pc := 314) (v := (2 : Int32)) G dl_314 (by decide) ?_
  refine w_iadd (pc := 315) G dl_315 ?_
  refine w_sld (pc := 316) G hX i2 dl_316 ?_
  rw [e2]
  refine w_aload_n (pc := 317) (q := 0) G dl_317 rfl rfl ?_
  refine w_iload_n (pc := 318) (q := 3) G dl_318 rfl rfl ?_
  refine w_iconst (pc := 319) (v := (3 : Int32)) G dl_319 (by decide) ?_
  refine w_iadd (pc := 320) G dl_320 ?_
  refine w_sld (pc := 321) G hX i3 dl_321 ?_
  rw [e3]
  refine w_aload_n (pc := 322) (q := 0) G dl_322 rfl rfl ?_
  refine w_iload_n (pc := 323) (q := 3) G dl_323 rfl rfl ?_
  refine w_iconst (pc := 324) (v := (4 : Int32)) G dl_324 (by decide) ?_
  refine w_iadd (pc := 325) G dl_325 ?_
  refine w_sld (pc := 326) G hX i4 dl_326 ?_
  rw [e4]
  refine w_callV (pc := 327) (av := [.int (xs (i + 1)), .int (xs (i + 2)), .int (xs (i + 3)), .int (xs (i + 4))]) (rest := [.long v]) (v := some (.long v)) (L' := LM κ τ2 (LC κ σ2)) (T := TM) (fs := fl_M κ τ) G 0 0 27 (by decide) lb0 rfl cb_M_order_law wd658 wd659 wd657 (hM κ) rfl rfl rfl (Nat.le_of_ble_eq_true rfl) dl_327 ?_
  refine w_lc_eq (pc := 330) (tgt := 531) G dl_330 dl_331 (by decide) (fun _ => ?_) (fun c9 => absurd rfl c9)
  exact k σ2 τ2 hI2
set_option maxHeartbeats 4000000 in
set_option maxRecDepth 100000 in
theorem lx_c8 {g : Gm} {κ : ctx} (G : OK g κ "ShortVectorsLaw" code 4 ret room_1) {b L i : Nat} {xs : Nat → Int32} (hX : ScrX g b L xs) (hi : i + 6 ≤ L) (hL : L ≤ 3072) {Inv : CS → MS → Prop} (hS : Tt Inv 1 Value.int (some .int) yV_minimum cV_minimum 2 rm_V_minimum yM_minimum cM_minimum 2 rm_M_minimum) {σ : CS} {τ : MS} (hI : Inv σ τ) (k : ∀ (σ' : CS) (τ' : MS), True → J g κ 4 531 [(0, .ref b), (1, .ref (κ.1 15)), (2, .ref (κ.1 0)), (3, .int (nI i))] [] (LM κ τ' (LC κ σ'))) : J g κ 4 336 [(0, .ref b), (1, .ref (κ.1 15)), (2, .ref (κ.1 0)), (3, .int (nI i))] [] (LM κ τ (LC κ σ)) := by
  obtain ⟨v, σ2, τ2, hI2, hV, hM⟩ := hS σ τ hI [xs (i + 1)] rfl
  have e1 : xs (nI i + 1).toNatClampNeg = xs (i + 1) := by rw [show nI i + 1 = nI (i + 1) from nI_add i 1, nI_clamp (by omega)]
  have i1 : vp_in (nI i + 1) L := by rw [show nI i + 1 = nI (i + 1) from nI_add i 1]; exact vp_in_nI (by omega) (by omega)
  refine w_aload_n (pc := 336) (q := 1) G dl_336 rfl rfl ?_
  refine w_aload_n (pc := 337) (q := 0) G dl_337 rfl rfl ?_
  refine w_iload_n (pc := 338) (q := 3) G dl_338 rfl rfl ?_
  refine w_iconst (pc := 339) (v := (1 : Int32)) G dl_339 (by decide) ?_
  refine w_iadd (pc := 340) G dl_340 ?_
  refine w_sld (pc := 341) G hX i1 dl_341 ?_
  rw [e1]
  refine w_callV (pc := 342) (av := [.int (xs (i + 1))]) (rest := []) (v := some (.int v)) (L' := LM κ τ (LC κ σ2)) (T := TV) (fs := fl_V κ σ) G 15 1 12 (by decide) lb15 rfl cb_V_minimum_law wd337 wd338 wd336 (hV κ) rfl rfl rfl (Nat.le_of_ble_eq_true rfl) dl_342 ?_
  refine w_aload_n (pc := 345) (q := 2) G dl_345 rfl rfl ?_
  refine w_aload_n (pc := 346) (q := 0) G dl_346 rfl rfl ?_
  refine w_iload_n (pc := 347) (q := 3) G dl_347 rfl rfl ?_
  refine w_iconst (pc := 348) (v := (1 : Int32)) G dl_348 (by decide) ?_
  refine w_iadd (pc := 349) G dl_349 ?_
  refine w_sld (pc := 350) G hX i1 dl_350 ?_
  rw [e1]
  refine w_callV (pc := 351) (av := [.int (xs (i + 1))]) (rest := [.int v]) (v := some (.int v)) (L' := LM κ τ2 (LC κ σ2)) (T := TM) (fs := fl_M κ τ) G 0 0 27 (by decide) lb0 rfl cb_M_minimum_law wd736 wd737 wd735 (hM κ) rfl rfl rfl (Nat.le_of_ble_eq_true rfl) dl_351 ?_
  refine w_icmp_eq (pc := 354) (tgt := 531) G dl_354 (by decide) (fun _ => ?_) (fun c9 => absurd rfl c9)
  exact k σ2 τ2 hI2
set_option maxHeartbeats 4000000 in
set_option maxRecDepth 100000 in
theorem lx_c9 {g : Gm} {κ : ctx} (G : OK g κ "ShortVectorsLaw" code 4 ret room_1) {b L i : Nat} {xs : Nat → Int32} (hX : ScrX g b L xs) (hi : i + 6 ≤ L) (hL : L ≤ 3072) {Inv : CS → MS → Prop} (hS : Tt Inv 1 Value.int (some .int) yV_count cV_count 2 rm_V_count yM_count cM_count 2 rm_M_count) {σ : CS} {τ : MS} (hI : Inv σ τ) (k : ∀ (σ' : CS) (τ' : MS), True → J g κ 4 531 [(0, .ref b), (1, .ref (κ.1 15)), (2, .ref (κ.1 0)), (3, .int (nI i))] [] (LM κ τ' (LC κ σ'))) : J g κ 4 359 [(0, .ref b), (1, .ref (κ.1 15)), (2, .ref (κ.1 0)), (3, .int (nI i))] [] (LM κ τ (LC κ σ)) := by
  obtain ⟨v, σ2, τ2, hI2, hV, hM⟩ := hS σ τ hI [xs (i + 1)] rfl
  have e1 : xs (nI i + 1).toNatClampNeg = xs (i + 1) := by rw [show nI i + 1 = nI (i + 1) from nI_add i 1, nI_clamp (by omega)]
  have i1 : vp_in (nI i + 1) L := by rw [show nI i + 1 = nI (i + 1) from nI_add i 1]; exact vp_in_nI (by omega) (by omega)
  refine w_aload_n (pc := 359) (q := 1) G dl_359 rfl rfl ?_
  refine w_aload_n (pc := 360) (q := 0) G dl_360 rfl rfl ?_
  refine w_iload_n (pc := 361) (q := 3) G dl_361 rfl rfl ?_
  refine w_iconst (pc := 362) (v := (1 : Int32)) G dl_362 (by decide) ?_
  refine w_iadd (pc := 363) G dl_363 ?_
  refine w_sld (pc := 364) G hX i1 dl_364 ?_
  rw [e1]
  refine w_callV (pc := 365) (av := [.int (xs (i + 1))]) (rest := []) (v := some (.int v)) (L' := LM κ τ (LC κ σ2)) (T := TV) (fs := fl_V κ σ) G 15 1 12 (by decide) lb15 rfl cb_V_count_law wd342 wd343 wd341 (hV κ) rfl rfl rfl (Nat.le_of_ble_eq_true rfl) dl_365 ?_
  refine w_aload_n (pc := 368) (q := 2) G dl_368 rfl rfl ?_
  refine w_aload_n (pc := 369) (q := 0) G dl_369 rfl rfl ?_
  refine w_iload_n (pc := 370) (q := 3) G dl_370 rfl rfl ?_
  refine w_iconst (pc := 371) (v := (1 : Int32)) G dl_371 (by decide) ?_
  refine w_iadd (pc := 372) G dl_372 ?_
  refine w_sld (pc := 373) G hX i1 dl_373 ?_
  rw [e1]
  refine w_callV (pc := 374) (av := [.int (xs (i + 1))]) (rest := [.int v]) (v := some (.int v)) (L' := LM κ τ2 (LC κ σ2)) (T := TM) (fs := fl_M κ τ) G 0 0 27 (by decide) lb0 rfl cb_M_count_law wd663 wd664 wd662 (hM κ) rfl rfl rfl (Nat.le_of_ble_eq_true rfl) dl_374 ?_
  refine w_icmp_eq (pc := 377) (tgt := 531) G dl_377 (by decide) (fun _ => ?_) (fun c9 => absurd rfl c9)
  exact k σ2 τ2 hI2
set_option maxHeartbeats 4000000 in
set_option maxRecDepth 100000 in
theorem lx_c10 {g : Gm} {κ : ctx} (G : OK g κ "ShortVectorsLaw" code 4 ret room_1) {b L i : Nat} {xs : Nat → Int32} (hX : ScrX g b L xs) (hi : i + 6 ≤ L) (hL : L ≤ 3072) {Inv : CS → MS → Prop} (hS : Tt Inv 2 Value.int (some .int) yV_vector cV_vector 3 rm_V_vector yM_vector cM_vector 3 rm_M_vector) {σ : CS} {τ : MS} (hI : Inv σ τ) (k : ∀ (σ' : CS) (τ' : MS), True → J g κ 4 531 [(0, .ref b), (1, .ref (κ.1 15)), (2, .ref (κ.1 0)), (3, .int (nI i))] [] (LM κ τ' (LC κ σ'))) : J g κ 4 382 [(0, .ref b), (1, .ref (κ.1 15)), (2, .ref (κ.1 0)), (3, .int (nI i))] [] (LM κ τ (LC κ σ)) := by
  obtain ⟨v, σ2, τ2, hI2, hV, hM⟩ := hS σ τ hI [xs (i + 1), xs (i + 2)] rfl
  have e1 : xs (nI i + 1).toNatClampNeg = xs (i + 1) := by rw [show nI i + 1 = nI (i + 1) from nI_add i 1, nI_clamp (by omega)]
  have i1 : vp_in (nI i + 1) L := by rw [show nI i + 1 = nI (i + 1) from nI_add i 1]; exact vp_in_nI (by omega) (by omega)
  have e2 : xs (nI i + 2).toNatClampNeg = xs (i + 2) := by rw [show nI i + 2 = nI (i + 2) from nI_add i 2, nI_clamp (by omega)]
  have i2 : vp_in (nI i + 2) L := by rw [show nI i + 2 = nI (i + 2) from nI_add i 2]; exact vp_in_nI (by omega) (by omega)
  refine w_aload_n (pc := 382) (q := 1) G dl_382 rfl rfl ?_
  refine w_aload_n (pc := 383) (q := 0) G dl_383 rfl rfl ?_
  refine w_iload_n (pc := 384) (q := 3) G dl_384 rfl rfl ?_
  refine w_iconst (pc := 385) (v := (1 : Int32)) G dl_385 (by decide) ?_
  refine w_iadd (pc := 386) G dl_386 ?_
  refine w_sld (pc := 387) G hX i1 dl_387 ?_
  rw [e1]
  refine w_aload_n (pc := 388) (q := 0) G dl_388 rfl rfl ?_
  refine w_iload_n (pc := 389) (q := 3) G dl_389 rfl rfl ?_
  refine w_iconst (pc := 390) (v := (2 : Int32)) G dl_390 (by decide) ?_
  refine w_iadd (pc := 391) G dl_391 ?_
  refine w_sld (pc := 392) G hX i2 dl_392 ?_
  rw [e2]
  refine w_callV (pc := 393) (av := [.int (xs (i + 1)), .int (xs (i + 2))]) (rest := []) (v := some (.int v)) (L' := LM κ τ (LC κ σ2)) (T := TV) (fs := fl_V κ σ) G 15 1 12 (by decide) lb15 rfl cb_V_vector_law wd435 wd436 wd434 (hV κ) rfl rfl rfl (Nat.le_of_ble_eq_true rfl) dl_393 ?_
  refine w_aload_n (pc := 396) (q := 2) G dl_396 rfl rfl ?_
  refine w_aload_n (pc := 397) (q := 0) G dl_397 rfl rfl ?_
  refine w_iload_n (pc := 398) (q := 3) G dl_398 rfl rfl ?_
  refine w_iconst (pc := 399) (v := (1 : Int32)) G dl_399 (by decide) ?_
  refine w_iadd (pc := 400) G dl_400 ?_
  refine w_sld (pc := 401) G hX i1 dl_401 ?_
  rw [e1]
  refine w_aload_n (pc := 402) (q := 0) G dl_402 rfl rfl ?_
  refine w_iload_n (pc := 403) (q := 3) G dl_403 rfl rfl ?_
  refine w_iconst (pc := 404) (v := (2 : Int32)) G dl_404 (by decide) ?_
  refine w_iadd (pc := 405) G dl_405 ?_
  refine w_sld (pc := 406) G hX i2 dl_406 ?_
  rw [e2]
  refine w_callV (pc := 407) (av := [.int (xs (i + 1)), .int (xs (i + 2))]) (rest := [.int v]) (v := some (.int v)) (L' := LM κ τ2 (LC κ σ2)) (T := TM) (fs := fl_M κ τ) G 0 0 27 (by decide) lb0 rfl cb_M_vector_law wd728 wd729 wd727 (hM κ) rfl rfl rfl (Nat.le_of_ble_eq_true rfl) dl_407 ?_
  refine w_icmp_eq (pc := 410) (tgt := 531) G dl_410 (by decide) (fun _ => ?_) (fun c9 => absurd rfl c9)
  exact k σ2 τ2 hI2
set_option maxHeartbeats 4000000 in
set_option maxRecDepth 100000 in
theorem lx_c11 {g : Gm} {κ : ctx} (G : OK g κ "ShortVectorsLaw" code 4 ret room_1) {b L i : Nat} {xs : Nat → Int32} (hX : ScrX g b L xs) (hi : i + 6 ≤ L) (hL : L ≤ 3072) {Inv : CS → MS → Prop} (hS : Tt Inv 4 Value.int (some .int) yV_distance cV_distance 5 rm_V_distance yM_distance cM_distance 5 rm_M_distance) {σ : CS} {τ : MS} (hI : Inv σ τ) (k : ∀ (σ' : CS) (τ' : MS), True → J g κ 4 531 [(0, .ref b), (1, .ref (κ.1 15)), (2, .ref (κ.1 0)), (3, .int (nI i))] [] (LM κ τ' (LC κ σ'))) : J g κ 4 415 [(0, .ref b), (1, .ref (κ.1 15)), (2, .ref (κ.1 0)), (3, .int (nI i))] [] (LM κ τ (LC κ σ)) := by
  obtain ⟨v, σ2, τ2, hI2, hV, hM⟩ := hS σ τ hI [xs (i + 1), xs (i + 2), xs (i + 3), xs (i + 4)] rfl
  have e1 : xs (nI i + 1).toNatClampNeg = xs (i + 1) := by rw [show nI i + 1 = nI (i + 1) from nI_add i 1, nI_clamp (by omega)]
  have i1 : vp_in (nI i + 1) L := by rw [show nI i + 1 = nI (i + 1) from nI_add i 1]; exact vp_in_nI (by omega) (by omega)
  have e2 : xs (nI i + 2).toNatClampNeg = xs (i + 2) := by rw [show nI i + 2 = nI (i + 2) from nI_add i 2, nI_clamp (by omega)]
  have i2 : vp_in (nI i + 2) L := by rw [show nI i + 2 = nI (i + 2) from nI_add i 2]; exact vp_in_nI (by omega) (by omega)
  have e3 : xs (nI i + 3).toNatClampNeg = xs (i + 3) := by rw [show nI i + 3 = nI (i + 3) from nI_add i 3, nI_clamp (by omega)]
  have i3 : vp_in (nI i + 3) L := by rw [show nI i + 3 = nI (i + 3) from nI_add i 3]; exact vp_in_nI (by omega) (by omega)
  have e4 : xs (nI i + 4).toNatClampNeg = xs (i + 4) := by rw [show nI i + 4 = nI (i + 4) from nI_add i 4, nI_clamp (by omega)]
  have i4 : vp_in (nI i + 4) L := by rw [show nI i + 4 = nI (i + 4) from nI_add i 4]; exact vp_in_nI (by omega) (by omega)
  refine w_aload_n (pc := 415) (q := 1) G dl_415 rfl rfl ?_
  refine w_aload_n (pc := 416) (q := 0) G dl_416 rfl rfl ?_
  refine w_iload_n (pc := 417) (q := 3) G dl_417 rfl rfl ?_
  refine w_iconst (pc := 418) (v := (1 : Int32)) G dl_418 (by decide) ?_
  refine w_iadd (pc := 419) G dl_419 ?_
  refine w_sld (pc := 420) G hX i1 dl_420 ?_
  rw [e1]
  refine w_aload_n (pc := 421) (q := 0) G dl_421 rfl rfl ?_
  refine w_iload_n (pc := 422) (q := 3) G dl_422 rfl rfl ?_
  refine w_iconst (pc := 423) (v := (2 : Int32)) G dl_423 (by decide) ?_
  refine w_iadd (pc := 424) G dl_424 ?_
  refine w_sld (pc := 425) G hX i2 dl_425 ?_
  rw [e2]
  refine w_aload_n (pc := 426) (q := 0) G dl_426 rfl rfl ?_
  refine w_iload_n (pc := 427) (q := 3) G dl_427 rfl rfl ?_
  refine w_iconst (pc := 428) (v := (3 : Int32)) G dl_428 (by decide) ?_
  refine w_iadd (pc := 429) G dl_429 ?_
  refine w_sld (pc := 430) G hX i3 dl_430 ?_
  rw [e3]
  refine w_aload_n (pc := 431) (q := 0) G dl_431 rfl rfl ?_
  refine w_iload_n (pc := 432) (q := 3) G dl_432 rfl rfl ?_
  refine w_iconst (pc := 433) (v := (4 : Int32)) G dl_433 (by decide) ?_
  refine w_iadd (pc := 434) G dl_434 ?_
  refine w_sld (pc := 435) G hX i4 dl_435 ?_
  rw [e4]
  refine w_callV (pc := 436) (av := [.int (xs (i + 1)), .int (xs (i + 2)), .int (xs (i + 3)), .int (xs (i + 4))]) (rest := []) (v := some (.int v)) (L' := LM κ τ (LC κ σ2)) (T := TV) (fs := fl_V κ σ) G 15 1 12 (by decide) lb15 rfl cb_V_distance_law wd456 wd457 wd455 (hV κ) rfl rfl rfl (Nat.le_of_ble_eq_true rfl) dl_436 ?_
  refine w_aload_n (pc := 439) (q := 2) G dl_439 rfl rfl ?_
  refine w_aload_n (pc := 440) (q := 0) G dl_440 rfl rfl ?_
  refine w_iload_n (pc := 441) (q := 3) G dl_441 rfl rfl ?_
  refine w_iconst (pc := 442) (v := (1 : Int32)) G dl_442 (by decide) ?_
  refine w_iadd (pc := 443) G dl_443 ?_
  refine w_sld (pc := 444) G hX i1 dl_444 ?_
  rw [e1]
  refine w_aload_n (pc := 445) (q := 0) G dl_445 rfl rfl ?_
  refine w_iload_n (pc := 446) (q := 3) G dl_446 rfl rfl ?_
  refine w_iconst (pc := 447) (v := (2 : Int32)) G dl_447 (by decide) ?_
  refine w_iadd (pc := 448) G dl_448 ?_
  refine w_sld (pc := 449) G hX i2 dl_449 ?_
  rw [e2]
  refine w_aload_n (pc := 450) (q := 0) G dl_450 rfl rfl ?_
  refine w_iload_n (pc := 451) (q := 3) G dl_451 rfl rfl ?_
  refine w_iconst (pc := 452) (v := (3 : Int32)) G dl_452 (by decide) ?_
  refine w_iadd (pc := 453) G dl_453 ?_
  refine w_sld (pc := 454) G hX i3 dl_454 ?_
  rw [e3]
  refine w_aload_n (pc := 455) (q := 0) G dl_455 rfl rfl ?_
  refine w_iload_n (pc := 456) (q := 3) G dl_456 rfl rfl ?_
  refine w_iconst (pc := 457) (v := (4 : Int32)) G dl_457 (by decide) ?_
  refine w_iadd (pc := 458) G dl_458 ?_
  refine w_sld (pc := 459) G hX i4 dl_459 ?_
  rw [e4]
  refine w_callV (pc := 460) (av := [.int (xs (i + 1)), .int (xs (i + 2)), .int (xs (i + 3)), .int (xs (i + 4))]) (rest := [.int v]) (v := some (.int v)) (L' := LM κ τ2 (LC κ σ2)) (T := TM) (fs := fl_M κ τ) G 0 0 27 (by decide) lb0 rfl cb_M_distance_law wd748 wd749 wd747 (hM κ) rfl rfl rfl (Nat.le_of_ble_eq_true rfl) dl_460 ?_
  refine w_icmp_eq (pc := 463) (tgt := 531) G dl_463 (by decide) (fun _ => ?_) (fun c9 => absurd rfl c9)
  exact k σ2 τ2 hI2
set_option maxHeartbeats 4000000 in
set_option maxRecDepth 100000 in
theorem lx_c12 {g : Gm} {κ : ctx} (G : OK g κ "ShortVectorsLaw" code 4 ret room_1) {b L i : Nat} {xs : Nat → Int32} (hX : ScrX g b L xs) (hi : i + 6 ≤ L) (hL : L ≤ 3072) {Inv : CS → MS → Prop} (hS : Tt Inv 5 Value.int (some .int) yV_nearest cV_nearest 6 rm_V_nearest yM_nearest cM_nearest 6 rm_M_nearest) {σ : CS} {τ : MS} (hI : Inv σ τ) (k : ∀ (σ' : CS) (τ' : MS), True → J g κ 4 531 [(0, .ref b), (1, .ref (κ.1 15)), (2, .ref (κ.1 0)), (3, .int (nI i))] [] (LM κ τ' (LC κ σ'))) : J g κ 4 468 [(0, .ref b), (1, .ref (κ.1 15)), (2, .ref (κ.1 0)), (3, .int (nI i))] [] (LM κ τ (LC κ σ)) := by
  obtain ⟨v, σ2, τ2, hI2, hV, hM⟩ := hS σ τ hI [xs (i + 1), xs (i + 2), xs (i + 3), xs (i + 4), xs (i + 5)] rfl
  have e1 : xs (nI i + 1).toNatClampNeg = xs (i + 1) := by rw [show nI i + 1 = nI (i + 1) from nI_add i 1, nI_clamp (by omega)]
  have i1 : vp_in (nI i + 1) L := by rw [show nI i + 1 = nI (i + 1) from nI_add i 1]; exact vp_in_nI (by omega) (by omega)
  have e2 : xs (nI i + 2).toNatClampNeg = xs (i + 2) := by rw [show nI i + 2 = nI (i + 2) from nI_add i 2, nI_clamp (by omega)]
  have i2 : vp_in (nI i + 2) L := by rw [show nI i + 2 = nI (i + 2) from nI_add i 2]; exact vp_in_nI (by omega) (by omega)
  have e3 : xs (nI i + 3).toNatClampNeg = xs (i + 3) := by rw [show nI i + 3 = nI (i + 3) from nI_add i 3, nI_clamp (by omega)]
  have i3 : vp_in (nI i + 3) L := by rw [show nI i + 3 = nI (i + 3) from nI_add i 3]; exact vp_in_nI (by omega) (by omega)
  have e4 : xs (nI i + 4).toNatClampNeg = xs (i + 4) := by rw [show nI i + 4 = nI (i + 4) from nI_add i 4, nI_clamp (by omega)]
  have i4 : vp_in (nI i + 4) L := by rw [show nI i + 4 = nI (i + 4) from nI_add i 4]; exact vp_in_nI (by omega) (by omega)
  have e5 : xs (nI i + 5).toNatClampNeg = xs (i + 5) := by rw [show nI i + 5 = nI (i + 5) from nI_add i 5, nI_clamp (by omega)]
  have i5 : vp_in (nI i + 5) L := by rw [show nI i + 5 = nI (i + 5) from nI_add i 5]; exact vp_in_nI (by omega) (by omega)
  refine w_aload_n (pc := 468) (q := 1) G dl_468 rfl rfl ?_
  refine w_aload_n (pc := 469) (q := 0) G dl_469 rfl rfl ?_
  refine w_iload_n (pc := 470) (q := 3) G dl_470 rfl rfl ?_
  refine w_iconst (pc := 471) (v := (1 : Int32)) G dl_471 (by decide) ?_
  refine w_iadd (pc := 472) G dl_472 ?_
  refine w_sld (pc := 473) G hX i1 dl_473 ?_
  rw [e1]
  refine w_aload_n (pc := 474) (q := 0) G dl_474 rfl rfl ?_
  refine w_iload_n (pc := 475) (q := 3) G dl_475 rfl rfl ?_
  refine w_iconst (pc := 476) (v := (2 : Int32)) G dl_476 (by decide) ?_
  refine w_iadd (pc := 477) G dl_477 ?_
  refine w_sld (pc := 478) G hX i2 dl_478 ?_
  rw [e2]
  refine w_aload_n (pc := 479) (q := 0) G dl_479 rfl rfl ?_
  refine w_iload_n (pc := 480) (q := 3) G dl_480 rfl rfl ?_
  refine w_iconst (pc := 481) (v := (3 : Int32)) G dl_481 (by decide) ?_
  refine w_iadd (pc := 482) G dl_482 ?_
  refine w_sld (pc := 483) G hX i3 dl_483 ?_
  rw [e3]
  refine w_aload_n (pc := 484) (q := 0) G dl_484 rfl rfl ?_
  refine w_iload_n (pc := 485) (q := 3) G dl_485 rfl rfl ?_
  refine w_iconst (pc := 486) (v := (4 : Int32)) G dl_486 (by decide) ?_
  refine w_iadd (pc := 487) G dl_487 ?_
  refine w_sld (pc := 488) G hX i4 dl_488 ?_
  rw [e4]
  refine w_aload_n (pc := 489) (q := 0) G dl_489 rfl rfl ?_
  refine w_iload_n (pc := 490) (q := 3) G dl_490 rfl rfl ?_
  refine w_iconst (pc := 491) (v := (5 : Int32)) G dl_491 (by decide) ?_
  refine w_iadd (pc := 492) G dl_492 ?_
  refine w_sld (pc := 493) G hX i5 dl_493 ?_
  rw [e5]
  refine w_callV (pc := 494) (av := [.int (xs (i + 1)), .int (xs (i + 2)), .int (xs (i + 3)), .int (xs (i + 4)), .int (xs (i + 5))]) (rest := []) (v := some (.int v)) (L' := LM κ τ (LC κ σ2)) (T := TV) (fs := fl_V κ σ) G 15 1 12 (by decide) lb15 rfl cb_V_nearest_law wd477 wd478 wd476 (hV κ) rfl rfl rfl (Nat.le_of_ble_eq_true rfl) dl_494 ?_
  refine w_aload_n (pc := 497) (q := 2) G dl_497 rfl rfl ?_
  refine w_aload_n (pc := 498) (q := 0) G dl_498 rfl rfl ?_
  refine w_iload_n (pc := 499) (q := 3) G dl_499 rfl rfl ?_
  refine w_iconst (pc := 500) (v := (1 : Int32)) G dl_500 (by decide) ?_
  refine w_iadd (pc := 501) G dl_501 ?_
  refine w_sld (pc := 502) G hX i1 dl_502 ?_
  rw [e1]
  refine w_aload_n (pc := 503) (q := 0) G dl_503 rfl rfl ?_
  refine w_iload_n (pc := 504) (q := 3) G dl_504 rfl rfl ?_
  refine w_iconst (pc := 505) (v := (2 : Int32)) G dl_505 (by decide) ?_
  refine w_iadd (pc := 506) G dl_506 ?_
  refine w_sld (pc := 507) G hX i2 dl_507 ?_
  rw [e2]
  refine w_aload_n (pc := 508) (q := 0) G dl_508 rfl rfl ?_
  refine w_iload_n (pc := 509) (q := 3) G dl_509 rfl rfl ?_
  refine w_iconst (pc := 510) (v := (3 : Int32)) G dl_510 (by decide) ?_
  refine w_iadd (pc := 511) G dl_511 ?_
  refine w_sld (pc := 512) G hX i3 dl_512 ?_
  rw [e3]
  refine w_aload_n (pc := 513) (q := 0) G dl_513 rfl rfl ?_
  refine w_iload_n (pc := 514) (q := 3) G dl_514 rfl rfl ?_
  refine w_iconst (pc := 515) (v := (4 : Int32)) G dl_515 (by decide) ?_
  refine w_iadd (pc := 516) G dl_516 ?_
  refine w_sld (pc := 517) G hX i4 dl_517 ?_
  rw [e4]
  refine w_aload_n (pc := 518) (q := 0) G dl_518 rfl rfl ?_
  refine w_iload_n (pc := 519) (q := 3) G dl_519 rfl rfl ?_
  refine w_iconst (pc := 520) (v := (5 : Int32)) G dl_520 (by decide) ?_
  refine w_iadd (pc := 521) G dl_521 ?_
  refine w_sld (pc := 522) G hX i5 dl_522 ?_
  rw [e5]
  refine w_callV (pc := 523) (av := [.int (xs (i + 1)), .int (xs (i + 2)), .int (xs (i + 3)), .int (xs (i + 4)), .int (xs (i + 5))]) (rest := [.int v]) (v := some (.int v)) (L' := LM κ τ2 (LC κ σ2)) (T := TM) (fs := fl_M κ τ) G 0 0 27 (by decide) lb0 rfl cb_M_nearest_law wd756 wd757 wd755 (hM κ) rfl rfl rfl (Nat.le_of_ble_eq_true rfl) dl_523 ?_
  refine w_icmp_eq (pc := 526) (tgt := 531) G dl_526 (by decide) (fun _ => ?_) (fun c9 => absurd rfl c9)
  exact k σ2 τ2 hI2
set_option maxHeartbeats 4000000 in
set_option maxRecDepth 100000 in
theorem lx_out {g : Gm} {κ : ctx} (G : OK g κ "ShortVectorsLaw" code 4 ret room_1) {b L : Nat} {xs : Nat → Int32} (hX : ScrX g b L xs) (hE : EndX g b) (hL : L ≤ 3072) (hL6 : L < 12) (i : Nat) (h1 : i ≤ L) (h6 : 6 ≤ i) (σ : CS) (τ : MS) : J g κ 4 18 [(0, .ref b), (1, .ref (κ.1 15)), (2, .ref (κ.1 0)), (3, .int (nI i))] [] (LM κ τ (LC κ σ)) := by
  refine w_iload_n (pc := 18) (q := 3) G dl_18 rfl rfl ?_
  refine w_aload_n (pc := 19) (q := 0) G dl_19 rfl rfl ?_
  refine w_slen (pc := 20) G hX dl_20 ?_
  refine w_bipush (pc := 21) (v := (6 : Int32)) G dl_21 (by decide) ?_
  refine w_isub (pc := 23) G dl_23 ?_
  refine w_icmp_gt (pc := 24) (tgt := 537) G dl_24 (by decide) (fun _ => ?_) (fun c24 => ?_)
  · refine w_iconst (pc := 537) (v := (1 : Int32)) G dl_537 (by decide) ?_
    exact w_end (pc := 538) G hE dl_538
  · have hi : i + 6 ≤ L := lw_i6 hL h1 c24
    omega
set_option maxHeartbeats 4000000 in
set_option maxRecDepth 100000 in
theorem lx_loop {g : Gm} {κ : ctx} (G : OK g κ "ShortVectorsLaw" code 4 ret room_1) {b L : Nat} {xs : Nat → Int32} (hX : ScrX g b L xs) (hE : EndX g b) (hL : L ≤ 3072) (hL6 : L < 12) {Inv : CS → MS → Prop} (hS : TtA Inv) (i : Nat) (h1 : i ≤ L) (σ : CS) (τ : MS) (hI : Inv σ τ) : J g κ 4 18 [(0, .ref b), (1, .ref (κ.1 15)), (2, .ref (κ.1 0)), (3, .int (nI i))] [] (LM κ τ (LC κ σ)) := by
  refine w_iload_n (pc := 18) (q := 3) G dl_18 rfl rfl ?_
  refine w_aload_n (pc := 19) (q := 0) G dl_19 rfl rfl ?_
  refine w_slen (pc := 20) G hX dl_20 ?_
  refine w_bipush (pc := 21) (v := (6 : Int32)) G dl_21 (by decide) ?_
  refine w_isub (pc := 23) G dl_23 ?_
  refine w_icmp_gt (pc := 24) (tgt := 537) G dl_24 (by decide) (fun _ => ?_) (fun c24 => ?_)
  · refine w_iconst (pc := 537) (v := (1 : Int32)) G dl_537 (by decide) ?_
    exact w_end (pc := 538) G hE dl_538
  · have hi : i + 6 ≤ L := lw_i6 hL h1 c24
    refine w_aload_n (pc := 27) (q := 0) G dl_27 rfl rfl ?_
    refine w_iload_n (pc := 28) (q := 3) G dl_28 rfl rfl ?_
    refine w_sld (pc := 29) G hX (vp_in_nI (by omega) (by omega)) dl_29 ?_
    refine w_bipush (pc := 30) (v := (15 : Int32)) G dl_30 (by decide) ?_
    refine w_iand (pc := 32) G dl_32 ?_
    generalize (xs (nI i).toNatClampNeg &&& 15 : Int32) = x
    have k : ∀ (σ' : CS) (τ' : MS), True → J g κ 4 531 [(0, .ref b), (1, .ref (κ.1 15)), (2, .ref (κ.1 0)), (3, .int (nI i))] [] (LM κ τ' (LC κ σ')) := by
      intro σ' τ' hI'
      refine w_iinc (pc := 531) (q0 := 3) (x := nI i) (v := nI (i + 6)) (lv' := [(3, .int (nI (i + 6))), (0, .ref b), (1, .ref (κ.1 15)), (2, .ref (κ.1 0))]) G dl_531 rfl (nI_add i 6) (by decide) rfl ?_
      refine w_goto (pc := 534) (tgt := 18) G dl_534 (by decide) ?_
      exact w_sub [1, 2, 3, 0] rfl (lx_out G hX hE hL hL6 (i + 6) hi (by omega) σ' τ')
    obtain ⟨s0, s1, s2, s3, s4, s5, s6, s7, s8, s9, s10, s11, s12⟩ := hS
    by_cases c0 : x = 0
    · refine w_tsIn (pc := 33) (tgt := 100) G dl_33 (by rw [c0]; decide) (by rw [c0]; decide) (by rw [c0]; rfl) (by decide) ?_
      exact lx_c0 G hX hi hL s0 hI k
    by_cases c1 : x = 1
    · refine w_tsIn (pc := 33) (tgt := 153) G dl_33 (by rw [c1]; decide) (by rw [c1]; decide) (by rw [c1]; rfl) (by decide) ?_
      exact lx_c1 G hX hi hL s1 hI k
    by_cases c2 : x = 2
    · refine w_tsIn (pc := 33) (tgt := 166) G dl_33 (by rw [c2]; decide) (by rw [c2]; decide) (by rw [c2]; rfl) (by decide) ?_
      exact lx_c2 G hX hi hL s2 hI k
    by_cases c3 : x = 3
    · refine w_tsIn (pc := 33) (tgt := 179) G dl_33 (by rw [c3]; decide) (by rw [c3]; decide) (by rw [c3]; rfl) (by decide) ?_
      exact lx_c3 G hX hi hL s3 hI k
    by_cases c4 : x = 4
    · refine w_tsIn (pc := 33) (tgt := 192) G dl_33 (by rw [c4]; decide) (by rw [c4]; decide) (by rw [c4]; rfl) (by decide) ?_
      exact lx_c4 G hX hi hL s4 hI k
    by_cases c5 : x = 5
    · refine w_tsIn (pc := 33) (tgt := 206) G dl_33 (by rw [c5]; decide) (by rw [c5]; decide) (by rw [c5]; rfl) (by decide) ?_
      exact lx_c5 G hX hi hL s5 hI k
    by_cases c6 : x = 6
    · refine w_tsIn (pc := 33) (tgt := 229) G dl_33 (by rw [c6]; decide) (by rw [c6]; decide) (by rw [c6]; rfl) (by decide) ?_
      exact lx_c6 G hX hi hL s6 hI k
    by_cases c7 : x = 7
    · refine w_tsIn (pc := 33) (tgt := 282) G dl_33 (by rw [c7]; decide) (by rw [c7]; decide) (by rw [c7]; rfl) (by decide) ?_
      exact lx_c7 G hX hi hL s7 hI k
    by_cases c8 : x = 8
    · refine w_tsIn (pc := 33) (tgt := 336) G dl_33 (by rw [c8]; decide) (by rw [c8]; decide) (by rw [c8]; rfl) (by decide) ?_
      exact lx_c8 G hX hi hL s8 hI k
    by_cases c9 : x = 9
    · refine w_tsIn (pc := 33) (tgt := 359) G dl_33 (by rw [c9]; decide) (by rw [c9]; decide) (by rw [c9]; rfl) (by decide) ?_
      exact lx_c9 G hX hi hL s9 hI k
    by_cases c10 : x = 10
    · refine w_tsIn (pc := 33) (tgt := 382) G dl_33 (by rw [c10]; decide) (by rw [c10]; decide) (by rw [c10]; rfl) (by decide) ?_
      exact lx_c10 G hX hi hL s10 hI k
    by_cases c11 : x = 11
    · refine w_tsIn (pc := 33) (tgt := 415) G dl_33 (by rw [c11]; decide) (by rw [c11]; decide) (by rw [c11]; rfl) (by decide) ?_
      exact lx_c11 G hX hi hL s11 hI k
    by_cases c12 : x = 12
    · refine w_tsIn (pc := 33) (tgt := 468) G dl_33 (by rw [c12]; decide) (by rw [c12]; decide) (by rw [c12]; rfl) (by decide) ?_
      exact lx_c12 G hX hi hL s12 hI k
    refine w_tsOut (pc := 33) (tgt := 531) G dl_33 (tsout _ 12 (by decide) (fun k hk => match k, hk with | 0, _ => c0 | 1, _ => c1 | 2, _ => c2 | 3, _ => c3 | 4, _ => c4 | 5, _ => c5 | 6, _ => c6 | 7, _ => c7 | 8, _ => c8 | 9, _ => c9 | 10, _ => c10 | 11, _ => c11 | 12, _ => c12 | k + 13, q => absurd q (by omega))) (by decide) ?_
    exact k σ τ trivial
set_option maxHeartbeats 4000000 in
set_option maxRecDepth 100000 in
theorem p1_of {Inv : CS → MS → Prop} (h0 : Inv σ0 τ0) (hs : TtA Inv) {p : Program} {e : Env} {s : State} {m : MethodId} {below : List Frame} {meth : Method} {c : Code} (l : Launch) {b L : Nat} {xs : Nat → Int32} (hL : L ≤ 6) (C0 : lw_At p s m meth c b L xs) : W p l e room_1 s m #[Value.ref b] below meth c s.heap [] 0 0 (lw_Z below #[Value.ref b] s) (entryFrame m ([Value.ref b] : List Value).toArray 4) := by
  obtain ⟨hx, hb, hr, hml, hown, hts0, hX, hbl, hlocks, hgv⟩ := id C0
  have hts : ∀ w ∈ utbl, w.before #[Value.ref b] s = true := fun w hw => hts0 w (List.mem_filter.mp hw).1
  have hA : ∀ q : Nat, s.heap.size ≤ q → (fun q : Nat => s.heap.size ≤ q) q := fun _ h => h
  have hbA : ¬ (fun q : Nat => s.heap.size ≤ q) b := Nat.not_le.mpr hbl
  have hNS : NS s := fun w hw hn => va_Nw.of (by cases w <;> first | rfl | (simp [isNest] at hn)) (hts0 w hw)
  have hO : va_AOA .long s := hts0 (.arrayOver (.array .long)) (List.mem_of_getElem? (i := 70) (by decide +kernel))
  obtain ⟨c0, iS0, hKn0⟩ := u_known (C := RM) (T := TM) (N := 27) (n := 27) hts wsM_ok (hts _ wd485)
  obtain ⟨c1, iS1, hKn1⟩ := u_known (C := RV) (T := TV) (N := 12) (n := 12) hts wsV_ok (hts _ wd13)
  obtain ⟨c2, iS2, hKn2⟩ := u_known (C := RE) (T := TE) (N := 2) (n := 2) hts wsE_ok (hts _ wd23)
  obtain ⟨c3, iS3, hKn3⟩ := u_known (C := RB) (T := TB) (N := 8) (n := 8) hts wsB_ok (hts _ wd38)
  obtain ⟨c4, iS4, hKn4⟩ := u_known (C := RT) (T := TT) (N := 3) (n := 3) hts wsT_ok (hts _ wd70)
  obtain ⟨c5, iS5, hKn5⟩ := u_known (C := RF) (T := TF) (N := 5) (n := 5) hts wsF_ok (hts _ wd90)
  obtain ⟨c6, iS6, hKn6⟩ := u_known (C := RC) (T := TC) (N := 4) (n := 4) hts wsC_ok (hts _ wd109)
  obtain ⟨dC, dI, hKc⟩ : ∃ (dC : Nat → ClassId) (dI : Nat → Nat → Nat), ∀ (k : Nat) (q : vw_C), classes[k]? = some q → u_Kn s q.1 q.2.1 q.2.2 (dC k) (dI k) := by
    refine ⟨fun k => if k = 0 then c0 else if k = 1 then c1 else if k = 2 then c2 else if k = 3 then c3 else if k = 4 then c4 else if k = 5 then c5 else c6, fun k => if k = 0 then iS0 else if k = 1 then iS1 else if k = 2 then iS2 else if k = 3 then iS3 else if k = 4 then iS4 else if k = 5 then iS5 else iS6, ?_⟩
    intro k q hq
    match k, hq with
    | 0, hq => cases hq; exact hKn0
    | 1, hq => cases hq; exact hKn1
    | 2, hq => cases hq; exact hKn2
    | 3, hq => cases hq; exact hKn3
    | 4, hq => cases hq; exact hKn4
    | 5, hq => cases hq; exact hKn5
    | 6, hq => cases hq; exact hKn6
    | k + 7, hq => simp [classes] at hq
  obtain ⟨ci, ki, compi, a1, a2, a3⟩ := Cond.arrayClass_spec (hts _ wd88)
  obtain ⟨cl, kl, compl, b1, b2, b3⟩ := Cond.arrayClass_spec (hts _ wd36)
  obtain ⟨comp, cq, kq, d1, d2, d3, d4, d5⟩ := arrayOverA_spec hO
  obtain ⟨κ, hκ⟩ : ∃ κ : ctx, κ = ((fun _ => 0), ci, cl, cq) := ⟨_, rfl⟩
  have hK : va_K (dC, dI) classes (tysOf κ) s := by
    subst hκ
    refine ⟨hKc, fun k q h => ?_⟩
    match k, h with
    | 0, h => cases h; exact ⟨fun N z => ⟨(fun q hq => by cases hq), ki, a2, compi, a3⟩, a1⟩
    | 1, h => cases h; exact ⟨fun N z => ⟨(fun q hq => by cases hq), kl, b2, compl, b3⟩, b1⟩
    | 2, h => cases h; exact ⟨fun N z => ⟨(fun q hq => by cases hq), kq, d3, comp, d4⟩, d5⟩
    | k + 3, h => simp [tysOf] at h
  clear hκ
  have hS : va_S (fun q : Nat => s.heap.size ≤ q) s.heap s.heap [] := va_S.rf
  have hP : va_P (dC, dI) classes [] s.heap := fun k q h => by simp at h
  have hD : va_D (fun q : Nat => s.heap.size ≤ q) [] := ⟨fun i j p q h => by simp at h, fun k q h => by simp at h⟩
  have hl := lv_entry ([.ref b]) (n := 4) (Nat.le_of_ble_eq_true rfl)
  rw [lg_entry_eq]
  generalize (lg_sl ([.ref b]) ++ List.replicate (4 - (lg_sl ([.ref b])).length) Slot.unset).toArray = ls at hl ⊢
  have hl : lv_has ls 4 [(0, .ref b)] := hl
  refine va_new (ci := 1) (fs := [.null, .null, .null, .null, .null, .null, .null, .null, .int 0, .int 0, .int 0, .int 0]) (C := RV) (T := TV) (N := 12) hx hb hts wsV_ok tyV tyV_ok hown (hts _ wd12) (hts _ wd13) (hts _ wd1) hK hP hD hS hA rfl (fun j hj => by rcases (show j = 0 ∨ j = 1 ∨ j = 2 ∨ j = 3 ∨ j = 4 ∨ j = 5 ∨ j = 6 ∨ j = 7 ∨ j = 8 ∨ j = 9 ∨ j = 10 ∨ j = 11 by omega) with rfl | rfl | rfl | rfl | rfl | rfl | rfl | rfl | rfl | rfl | rfl | rfl <;> rfl) (Nat.le_of_ble_eq_true rfl) (Nat.le_of_ble_eq_true rfl) dl_0 (fun qV H1 hP1 hD1 hS1 => ?_)
  refine lv_dup hx hb dl_3 rfl ?_
  refine n_callI (rest := [.ref qV]) hx hb hml hown hts hK hNS hO hP1 hD1 hS1 hA hl (mn_V_init κ qV) ⟨wd16, wd1, ⟨by decide, by decide, by decide⟩, rfl, rfl, Nat.le_of_ble_eq_true rfl, Nat.le_of_ble_eq_true rfl⟩ rfl wd15 wd14 (Nat.le_of_ble_eq_true rfl) dl_4 (Nat.le_of_ble_eq_true rfl) (Nat.le_of_ble_eq_true rfl) (fun w1 H2 locs2 hw hP2 hD2 hS2 => ?_)
  obtain ⟨h, eh, rfl⟩ := hw
  clear hP1 hD1 hS1 hP hD hS
  have hP := hP2
  have hD := hD2
  have hS := hS2
  clear hP2 hD2 hS2
  refine lv_astore_n (lv' := [(1, .ref qV), (0, .ref b)]) hx hb dl_7 rfl hl (by decide) rfl (fun ls hl => ?_)
  refine va_new (ci := 0) (fs := [.int 0, .null, .int 0, .int 0, .int 0, .null, .null, .null, .null, .null, .null, .null, .null, .long 0, .int 0, .int 0, .int 0, .int 0, .null, .null, .int 0, .int 0, .null, .null, .int 0, .null, .int 0]) (C := RM) (T := TM) (N := 27) hx hb hts wsM_ok tyM tyM_ok hown (hts _ wd484) (hts _ wd485) (hts _ wd8) hK hP hD hS hA rfl (fun j hj => by rcases (show j = 0 ∨ j = 1 ∨ j = 2 ∨ j = 3 ∨ j = 4 ∨ j = 5 ∨ j = 6 ∨ j = 7 ∨ j = 8 ∨ j = 9 ∨ j = 10 ∨ j = 11 ∨ j = 12 ∨ j = 13 ∨ j = 14 ∨ j = 15 ∨ j = 16 ∨ j = 17 ∨ j = 18 ∨ j = 19 ∨ j = 20 ∨ j = 21 ∨ j = 22 ∨ j = 23 ∨ j = 24 ∨ j = 25 ∨ j = 26 by omega) with rfl | rfl | rfl | rfl | rfl | rfl | rfl | rfl | rfl | rfl | rfl | rfl | rfl | rfl | rfl | rfl | rfl | rfl | rfl | rfl | rfl | rfl | rfl | rfl | rfl | rfl | rfl <;> rfl) (Nat.le_of_ble_eq_true rfl) (Nat.le_of_ble_eq_true rfl) dl_8 (fun qM H1 hP1 hD1 hS1 => ?_)
  refine lv_dup hx hb dl_11 rfl ?_
  refine n_callI (rest := [.ref qM]) hx hb hml hown hts hK hNS hO hP1 hD1 hS1 hA hl (mn_M_init κ qM) ⟨wd488, wd8, ⟨by decide, by decide, by decide⟩, rfl, rfl, Nat.le_of_ble_eq_true rfl, Nat.le_of_ble_eq_true rfl⟩ rfl wd487 wd486 (Nat.le_of_ble_eq_true rfl) dl_12 (Nat.le_of_ble_eq_true rfl) (Nat.le_of_ble_eq_true rfl) (fun w1 H2 locs2 hw hP2 hD2 hS2 => ?_)
  obtain ⟨hM, ehM, rfl⟩ := hw
  clear hP1 hD1 hS1 hP hD hS
  refine lv_astore_n (lv' := [(2, .ref qM), (1, .ref qV), (0, .ref b)]) hx hb dl_15 rfl hl (by decide) rfl (fun ls hl => ?_)
  refine lv_iconst (v := 0) hx hb dl_16 (by decide) ?_
  refine lv_istore_n (lv' := [(3, .int 0), (2, .ref qM), (1, .ref qV), (0, .ref b)]) hx hb dl_17 rfl hl (by decide) rfl (fun ls hl => ?_)
  refine W.widen (k := 600000) (n := 7302250) (Nat.le_of_ble_eq_true rfl) (Nat.le_of_ble_eq_true rfl) ?_
  have hP3 := P_swap hP2
  rw [List.nil_append, ← wl_two (κ := κ)] at hP3
  have ix : ∀ k, k < 114 → ∃ v, (([] : va_W) ++ wn 99 h (LC (kh 15 h κ) σ0) ++ wn 15 hM (LM (kh 0 hM κ) τ0 (fun _ => .inr (0, []))))[if k < 15 then 99 + k else k - 15]? = some (hseg [(15, hM), (99, h)] k, v) := by
    intro k hk
    rw [List.nil_append]
    by_cases h15 : k < 15
    · rw [if_pos h15, List.getElem?_append_right (by rw [wn_len]; omega), wn_len, Nat.add_sub_cancel_left, wn_get h15, hseg_lt h15]
      exact ⟨_, rfl⟩
    · rw [if_neg h15, List.getElem?_append_left (by rw [wn_len]; omega), wn_get (by omega)]
      exact ⟨LC (kh 15 h κ) σ0 (k - 15), by
        rw [show hseg [(15, hM), (99, h)] k = h (k - 15) by
          rw [show k = 15 + (k - 15) by omega, hseg_ge, hseg_lt (by omega), Nat.add_sub_cancel_left]]⟩
  have G : OK (p, l, e, room_1, s, m, #[Value.ref b], below, meth, c, 600000, 7302250, lw_Z below #[Value.ref b] s, (dC, dI), (fun q : Nat => s.heap.size ≤ q)) (hseg [(15, hM), (99, h)], κ.2) "ShortVectorsLaw" code 4 ret room_1 := by
    refine ⟨hx, hb, hml, hr, hlocks, hown, hts, hK, hNS, ?_, ?_, fun q hq => hq, Nat.le_refl _, Nat.le_refl _, rfl⟩
    · intro i j hi hj hij
      obtain ⟨v1, e1⟩ := ix i hi
      obtain ⟨v2, e2⟩ := ix j hj
      have := hD2.1 _ _ _ _ e1 e2 hij
      unfold NW at hi hj
      split at this <;> split at this <;> omega
    · intro k hk
      obtain ⟨v1, e1⟩ := ix k hk
      exact hD2.2 _ _ e1
  have hlv : lv_has ls 4 [(0, .ref b), (1, .ref (hseg [(15, hM), (99, h)] 15)), (2, .ref (hseg [(15, hM), (99, h)] 0)), (3, .int (nI 0))] := by
    rw [show hseg [(15, hM), (99, h)] 15 = qV from eh, show hseg [(15, hM), (99, h)] 0 = qM from ehM]
    exact lv_sub hl [3, 2, 1, 0] rfl
  exact lx_loop G ⟨hX, hbl, hbA⟩ ⟨rfl, rfl, rfl, rfl, rfl, rfl⟩ (by omega) (by omega) hs 0 (Nat.zero_le L) σ0 τ0 h0 _ _ ls hP3 hS2 hlv
