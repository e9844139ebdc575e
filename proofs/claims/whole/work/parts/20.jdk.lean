set_option maxHeartbeats 4000000 in
set_option maxRecDepth 100000 in
theorem w_J6_bitCount_0f7a4 {x : CT} {p1 : Int32} {K : Int32 → Prop} (C : Cx x cJ6_bitCount_0f7a4 tb_J6_bitCount_0f7a4 1 RJ6 (Cond.code yJ6_bitCount_0f7a4 cJ6_bitCount_0f7a4 1 (some .int) :: wsL_law) ({ frames := 0, cells := 0, slots := 0, locals := 0 } : Room)) (rt : RetI x 0 0 (fun (u : Unit) => fl []) (fun (r : Int32) (_ : Unit) => K r)) (h : wp_J6_bitCount_0f7a4 p1 K) : Wx x 1 0 0 (fl []) [(0, .int p1)] 0 [] := by
  unfold wp_J6_bitCount_0f7a4 at h
  refine x_iload_n C 0 0 rfl 0 rfl rfl ?_
  refine x_iload_n C 1 1 rfl 0 rfl rfl ?_
  refine x_iconst (v := (1 : Int32)) C 2 2 rfl (by decide) ?_
  refine x_iushr C 3 3 rfl ?_
  refine x_ldc_w (v := (1431655765 : Int32)) C 4 4 rfl (mc wq_31_18) ?_
  refine x_iand C 5 7 rfl ?_
  refine x_isub C 6 8 rfl ?_
  refine x_topi (fun y1 ey1 => ?_)
  replace h := h y1 ey1
  refine x_istore_n (lv' := [(0, .int y1)]) C 7 9 rfl rfl (by decide) [0] rfl ?_
  refine x_iload_n C 8 10 rfl 0 rfl rfl ?_
  refine x_ldc_w (v := (858993459 : Int32)) C 9 11 rfl (mc wq_31_19) ?_
  refine x_iand C 10 14 rfl ?_
  refine x_iload_n C 11 15 rfl 0 rfl rfl ?_
  refine x_iconst (v := (2 : Int32)) C 12 16 rfl (by decide) ?_
  refine x_iushr C 13 17 rfl ?_
  refine x_ldc_w (v := (858993459 : Int32)) C 14 18 rfl (mc wq_31_19) ?_
  refine x_iand C 15 21 rfl ?_
  refine x_iadd C 16 22 rfl ?_
  refine x_topi (fun y2 ey2 => ?_)
  replace h := h y2 ey2
  refine x_istore_n (lv' := [(0, .int y2)]) C 17 23 rfl rfl (by decide) [0] rfl ?_
  refine x_iload_n C 18 24 rfl 0 rfl rfl ?_
  refine x_iload_n C 19 25 rfl 0 rfl rfl ?_
  refine x_iconst (v := (4 : Int32)) C 20 26 rfl (by decide) ?_
  refine x_iushr C 21 27 rfl ?_
  refine x_iadd C 22 28 rfl ?_
  refine x_ldc_w (v := (252645135 : Int32)) C 23 29 rfl (mc wq_31_20) ?_
  refine x_iand C 24 32 rfl ?_
  refine x_topi (fun y3 ey3 => ?_)
  replace h := h y3 ey3
  refine x_istore_n (lv' := [(0, .int y3)]) C 25 33 rfl rfl (by decide) [0] rfl ?_
  refine x_iload_n C 26 34 rfl 0 rfl rfl ?_
  refine x_iload_n C 27 35 rfl 0 rfl rfl ?_
  refine x_bipush (v := (8 : Int32)) C 28 36 rfl (by decide) ?_
  refine x_iushr C 29 38 rfl ?_
  refine x_iadd C 30 39 rfl ?_
  refine x_topi (fun y4 ey4 => ?_)
  replace h := h y4 ey4
  refine x_istore_n (lv' := [(0, .int y4)]) C 31 40 rfl rfl (by decide) [0] rfl ?_
  refine x_iload_n C 32 41 rfl 0 rfl rfl ?_
  refine x_iload_n C 33 42 rfl 0 rfl rfl ?_
  refine x_bipush (v := (16 : Int32)) C 34 43 rfl (by decide) ?_
  refine x_iushr C 35 45 rfl ?_
  refine x_iadd C 36 46 rfl ?_
  refine x_topi (fun y5 ey5 => ?_)
  replace h := h y5 ey5
  refine x_istore_n (lv' := [(0, .int y5)]) C 37 47 rfl rfl (by decide) [0] rfl ?_
  refine x_iload_n C 38 48 rfl 0 rfl rfl ?_
  refine x_bipush (v := (63 : Int32)) C 39 49 rfl (by decide) ?_
  refine x_iand C 40 51 rfl ?_
  exact x_iret C rt 41 52 rfl () rfl h
theorem c_J6_bitCount_0f7a4 (l : Launch) (D : va_G) (k : ClassId × ClassId) (g : Nat → Nat) (p1 : Int32) (K : Int32 → Prop) (h : wp_J6_bitCount_0f7a4 p1 K) : ConI l yJ6_bitCount_0f7a4 (Cond.code yJ6_bitCount_0f7a4 cJ6_bitCount_0f7a4 1 (some .int) :: wsL_law) ({ frames := 0, cells := 0, slots := 0, locals := 0 } : Room) D k g [.int p1] (fl []) (fun (u : Unit) => fl []) (fun (r : Int32) (_ : Unit) => K r) := by
  refine ConI.of (tb := tb_J6_bitCount_0f7a4) (cc := cJ6_bitCount_0f7a4) (nL := 1) (by decide) rfl tbk_J6_bitCount_0f7a4 (Nat.le_of_ble_eq_true rfl) ?_
  intro x hl hD hk hg C rt
  subst hl hD hk hg
  exact w_J6_bitCount_0f7a4 C rt h
