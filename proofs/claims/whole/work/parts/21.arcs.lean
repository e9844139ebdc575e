set_option maxHeartbeats 4000000 in
set_option maxRecDepth 100000 in
theorem w_X0_isNumber {x : CT} {p1 : Int32} {K : Int32 → Prop} (C : Cx x cX0_isNumber tb_X0_isNumber 1 RX0 (Cond.code yX0_isNumber cX0_isNumber 1 (some .boolean) :: wsL_law) ({ frames := 0, cells := 0, slots := 0, locals := 0 } : Room)) (rt : RetZ x 0 0 (fun (u : Unit) => fl []) (fun (r : Int32) (_ : Unit) => K r)) (h : wp_X0_isNumber p1 K) : Wx x 1 0 0 (fl []) [(0, .int p1)] 0 [] := by
  unfold wp_X0_isNumber at h
  refine x_iload_n C 0 0 rfl 0 rfl rfl ?_
  refine x_if_lt C 1 1 15 rfl rfl (fun c1 => ?_) (fun c1 => ?_)
  · replace h := h.1 c1
    refine x_iconst (v := (0 : Int32)) C 7 15 rfl (by decide) ?_
    exact x_zret C rt 8 16 rfl zb_0 () rfl h
  · replace h := h.2 c1
    refine x_iload_n C 2 4 rfl 0 rfl rfl ?_
    refine x_sipush (v := (19683 : Int32)) C 3 5 rfl (by decide) ?_
    refine x_icmp_ge C 4 8 15 rfl rfl (fun c2 => ?_) (fun c2 => ?_)
    · replace h := h.1 c2
      refine x_iconst (v := (0 : Int32)) C 7 15 rfl (by decide) ?_
      exact x_zret C rt 8 16 rfl zb_0 () rfl h
    · replace h := h.2 c2
      refine x_iconst (v := (1 : Int32)) C 5 11 rfl (by decide) ?_
      refine x_goto C 6 12 16 rfl rfl ?_
      exact x_zret C rt 8 16 rfl zb_1 () rfl h
theorem c_X0_isNumber (l : Launch) (D : va_G) (k : ClassId × ClassId) (g : Nat → Nat) (p1 : Int32) (K : Int32 → Prop) (h : wp_X0_isNumber p1 K) : ConZ l yX0_isNumber (Cond.code yX0_isNumber cX0_isNumber 1 (some .boolean) :: wsL_law) ({ frames := 0, cells := 0, slots := 0, locals := 0 } : Room) D k g [.int p1] (fl []) (fun (u : Unit) => fl []) (fun (r : Int32) (_ : Unit) => K r) := by
  refine ConZ.of (tb := tb_X0_isNumber) (cc := cX0_isNumber) (nL := 1) (by decide) rfl tbk_X0_isNumber (Nat.le_of_ble_eq_true rfl) ?_
  intro x hl hD hk hg C rt
  subst hl hD hk hg
  exact w_X0_isNumber C rt h
set_option maxHeartbeats 4000000 in
set_option maxRecDepth 100000 in
theorem w_X0_at {x : CT} {p1 : Int32} {p2 : Int32} {p3 : Int32} {K : Int32 → Prop} (C : Cx x cX0_at tb_X0_at 3 RX0 (Cond.code yX0_at cX0_at 3 (some .int) :: wsL_law) ({ frames := 0, cells := 0, slots := 0, locals := 0 } : Room)) (rt : RetI x 0 0 (fun (u : Unit) => fl []) (fun (r : Int32) (_ : Unit) => K r)) (h : wp_X0_at p1 p2 p3 K) : Wx x 3 0 0 (fl []) [(0, .int p1), (1, .int p2), (2, .int p3)] 0 [] := by
  unfold wp_X0_at at h
  refine x_iload_n C 0 0 rfl 0 rfl rfl ?_
  refine x_iconst (v := (2 : Int32)) C 1 1 rfl (by decide) ?_
  refine x_iconst (v := (3 : Int32)) C 2 2 rfl (by decide) ?_
  refine x_iload_n C 3 3 rfl 1 rfl rfl ?_
  refine x_imul C 4 4 rfl ?_
  refine x_iload_n C 5 5 rfl 2 rfl rfl ?_
  refine x_iadd C 6 6 rfl ?_
  refine x_imul C 7 7 rfl ?_
  refine x_ishr C 8 8 rfl ?_
  refine x_iconst (v := (3 : Int32)) C 9 9 rfl (by decide) ?_
  refine x_iand C 10 10 rfl ?_
  exact x_iret C rt 11 11 rfl () rfl h
theorem c_X0_at (l : Launch) (D : va_G) (k : ClassId × ClassId) (g : Nat → Nat) (p1 : Int32) (p2 : Int32) (p3 : Int32) (K : Int32 → Prop) (h : wp_X0_at p1 p2 p3 K) : ConI l yX0_at (Cond.code yX0_at cX0_at 3 (some .int) :: wsL_law) ({ frames := 0, cells := 0, slots := 0, locals := 0 } : Room) D k g [.int p1, .int p2, .int p3] (fl []) (fun (u : Unit) => fl []) (fun (r : Int32) (_ : Unit) => K r) := by
  refine ConI.of (tb := tb_X0_at) (cc := cX0_at) (nL := 3) (by decide) rfl tbk_X0_at (Nat.le_of_ble_eq_true rfl) ?_
  intro x hl hD hk hg C rt
  subst hl hD hk hg
  exact w_X0_at C rt h
set_option maxHeartbeats 4000000 in
set_option maxRecDepth 100000 in
theorem w_X0_with {x : CT} {p1 : Int32} {p2 : Int32} {p3 : Int32} {p4 : Int32} {K : Int32 → Prop} (C : Cx x cX0_with tb_X0_with 5 RX0 (Cond.code yX0_with cX0_with 5 (some .int) :: wsL_law) ({ frames := 0, cells := 0, slots := 0, locals := 0 } : Room)) (rt : RetI x 0 0 (fun (u : Unit) => fl []) (fun (r : Int32) (_ : Unit) => K r)) (h : wp_X0_with p1 p2 p3 p4 K) : Wx x 5 0 0 (fl []) [(0, .int p1), (1, .int p2), (2, .int p3), (3, .int p4)] 0 [] := by
  unfold wp_X0_with at h
  refine x_iconst (v := (2 : Int32)) C 0 0 rfl (by decide) ?_
  refine x_iconst (v := (3 : Int32)) C 1 1 rfl (by decide) ?_
  refine x_iload_n C 2 2 rfl 1 rfl rfl ?_
  refine x_imul C 3 3 rfl ?_
  refine x_iload_n C 4 4 rfl 2 rfl rfl ?_
  refine x_iadd C 5 5 rfl ?_
  refine x_imul C 6 6 rfl ?_
  refine x_topi (fun y1 ey1 => ?_)
  replace h := h y1 ey1
  refine x_istore (lv' := [(0, .int p1), (3, .int p4), (4, .int y1)]) C 7 7 rfl (by decide) [1, 4, 0] rfl ?_
  refine x_iload_n C 8 9 rfl 0 rfl rfl ?_
  refine x_iconst (v := (3 : Int32)) C 9 10 rfl (by decide) ?_
  refine x_iload C 10 11 rfl 2 rfl ?_
  refine x_ishl C 11 13 rfl ?_
  refine x_iconst (v := (-1 : Int32)) C 12 14 rfl (by decide) ?_
  refine x_ixor C 13 15 rfl ?_
  refine x_iand C 14 16 rfl ?_
  refine x_iload_n C 15 17 rfl 1 rfl rfl ?_
  refine x_iload C 16 18 rfl 2 rfl ?_
  refine x_ishl C 17 20 rfl ?_
  refine x_ior C 18 21 rfl ?_
  exact x_iret C rt 19 22 rfl () rfl h
theorem c_X0_with (l : Launch) (D : va_G) (k : ClassId × ClassId) (g : Nat → Nat) (p1 : Int32) (p2 : Int32) (p3 : Int32) (p4 : Int32) (K : Int32 → Prop) (h : wp_X0_with p1 p2 p3 p4 K) : ConI l yX0_with (Cond.code yX0_with cX0_with 5 (some .int) :: wsL_law) ({ frames := 0, cells := 0, slots := 0, locals := 0 } : Room) D k g [.int p1, .int p2, .int p3, .int p4] (fl []) (fun (u : Unit) => fl []) (fun (r : Int32) (_ : Unit) => K r) := by
  refine ConI.of (tb := tb_X0_with) (cc := cX0_with) (nL := 5) (by decide) rfl tbk_X0_with (Nat.le_of_ble_eq_true rfl) ?_
  intro x hl hD hk hg C rt
  subst hl hD hk hg
  exact w_X0_with C rt h
set_option maxHeartbeats 4000000 in
set_option maxRecDepth 100000 in
theorem w_X0_row {x : CT} {p1 : Int32} {p2 : Int32} {K : Int32 → Prop} (C : Cx x cX0_row tb_X0_row 2 RX0 (Cond.code yX0_row cX0_row 2 (some .int) :: wsL_law) ({ frames := 0, cells := 0, slots := 0, locals := 0 } : Room)) (rt : RetI x 0 0 (fun (u : Unit) => fl []) (fun (r : Int32) (_ : Unit) => K r)) (h : wp_X0_row p1 p2 K) : Wx x 2 0 0 (fl []) [(0, .int p1), (1, .int p2)] 0 [] := by
  unfold wp_X0_row at h
  refine x_iload_n C 0 0 rfl 0 rfl rfl ?_
  refine x_bipush (v := (6 : Int32)) C 1 1 rfl (by decide) ?_
  refine x_iload_n C 2 3 rfl 1 rfl rfl ?_
  refine x_imul C 3 4 rfl ?_
  refine x_ishr C 4 5 rfl ?_
  refine x_bipush (v := (63 : Int32)) C 5 6 rfl (by decide) ?_
  refine x_iand C 6 8 rfl ?_
  exact x_iret C rt 7 9 rfl () rfl h
theorem c_X0_row (l : Launch) (D : va_G) (k : ClassId × ClassId) (g : Nat → Nat) (p1 : Int32) (p2 : Int32) (K : Int32 → Prop) (h : wp_X0_row p1 p2 K) : ConI l yX0_row (Cond.code yX0_row cX0_row 2 (some .int) :: wsL_law) ({ frames := 0, cells := 0, slots := 0, locals := 0 } : Room) D k g [.int p1, .int p2] (fl []) (fun (u : Unit) => fl []) (fun (r : Int32) (_ : Unit) => K r) := by
  refine ConI.of (tb := tb_X0_row) (cc := cX0_row) (nL := 2) (by decide) rfl tbk_X0_row (Nat.le_of_ble_eq_true rfl) ?_
  intro x hl hD hk hg C rt
  subst hl hD hk hg
  exact w_X0_row C rt h
set_option maxHeartbeats 4000000 in
set_option maxRecDepth 100000 in
theorem w_X0_toNumber_5 {x : CT} {x0 : Int32} {K : Int32 → Prop} (C : Cx x cX0_toNumber tb_X0_toNumber 3 RX0 (Cond.code yX0_toNumber cX0_toNumber 3 (some .int) :: wsL_law) ({ frames := 0, cells := 0, slots := 0, locals := 0 } : Room)) (rt : RetI x 0 0 (fun (u : Unit) => fl []) (fun (r : Int32) (_ : Unit) => K r))  {q1 : Int32 × Int32} (h : Lp (F_X0_toNumber_5 x0 K) q1) : Wx x 3 0 0 (fl []) [(0, .int x0), (1, .int q1.1), (2, .int q1.2)] 5 [] := by
  refine lp_walk (P := fun q1 => Wx x 3 0 0 (fl []) [(0, .int x0), (1, .int q1.1), (2, .int q1.2)] 5 []) (fun q1 R5 hR5 h => ?_) h
  refine x_iload_n C 4 5 rfl 2 rfl rfl ?_
  refine x_if_lt C 5 6 27 rfl rfl (fun c2 => ?_) (fun c2 => ?_)
  · replace h := h.1 c2
    refine x_iload_n C 20 27 rfl 1 rfl rfl ?_
    exact x_iret C rt 21 28 rfl () rfl h
  · replace h := h.2 c2
    refine x_iconst (v := (3 : Int32)) C 6 9 rfl (by decide) ?_
    refine x_iload_n C 7 10 rfl 1 rfl rfl ?_
    refine x_imul C 8 11 rfl ?_
    refine x_iload_n C 9 12 rfl 0 rfl rfl ?_
    refine x_iconst (v := (2 : Int32)) C 10 13 rfl (by decide) ?_
    refine x_iload_n C 11 14 rfl 2 rfl rfl ?_
    refine x_imul C 12 15 rfl ?_
    refine x_ishr C 13 16 rfl ?_
    refine x_iconst (v := (3 : Int32)) C 14 17 rfl (by decide) ?_
    refine x_iand C 15 18 rfl ?_
    refine x_iadd C 16 19 rfl ?_
    refine x_topi (fun y3 ey3 => ?_)
    replace h := h y3 ey3
    refine x_istore_n (lv' := [(0, .int x0), (1, .int y3), (2, .int q1.2)]) C 17 20 rfl rfl (by decide) [1, 0, 2] rfl ?_
    obtain ⟨y4, ey4⟩ : ∃ y : Int32, y = q1.2 + (-1 : Int32) := ⟨_, rfl⟩
    replace h := h y4 ey4
    refine x_iinc (v := y4) (lv' := [(0, .int x0), (1, .int y3), (2, .int y4)]) C 18 21 rfl 2 rfl (by rw [ey4]; rfl) (by decide) [1, 2, 0] rfl ?_
    refine x_goto C 19 24 5 rfl rfl ?_
    exact x_sub [0, 1, 2] rfl (hR5 (y3, y4) h)
set_option maxHeartbeats 4000000 in
set_option maxRecDepth 100000 in
theorem w_X0_toNumber {x : CT} {p1 : Int32} {K : Int32 → Prop} (C : Cx x cX0_toNumber tb_X0_toNumber 3 RX0 (Cond.code yX0_toNumber cX0_toNumber 3 (some .int) :: wsL_law) ({ frames := 0, cells := 0, slots := 0, locals := 0 } : Room)) (rt : RetI x 0 0 (fun (u : Unit) => fl []) (fun (r : Int32) (_ : Unit) => K r)) (h : wp_X0_toNumber p1 K) : Wx x 3 0 0 (fl []) [(0, .int p1)] 0 [] := by
  unfold wp_X0_toNumber at h
  refine x_iconst (v := (0 : Int32)) C 0 0 rfl (by decide) ?_
  refine x_istore_n (lv' := [(0, .int p1), (1, .int (0 : Int32))]) C 1 1 rfl rfl (by decide) [1, 0] rfl ?_
  refine x_bipush (v := (8 : Int32)) C 2 2 rfl (by decide) ?_
  refine x_istore_n (lv' := [(0, .int p1), (1, .int (0 : Int32)), (2, .int (8 : Int32))]) C 3 4 rfl rfl (by decide) [1, 2, 0] rfl ?_
  refine x_sub (lv' := [(0, .int p1), (1, .int (0 : Int32)), (2, .int (8 : Int32))]) [0, 1, 2] rfl (w_X0_toNumber_5 C rt h)
theorem c_X0_toNumber (l : Launch) (D : va_G) (k : ClassId × ClassId) (g : Nat → Nat) (p1 : Int32) (K : Int32 → Prop) (h : wp_X0_toNumber p1 K) : ConI l yX0_toNumber (Cond.code yX0_toNumber cX0_toNumber 3 (some .int) :: wsL_law) ({ frames := 0, cells := 0, slots := 0, locals := 0 } : Room) D k g [.int p1] (fl []) (fun (u : Unit) => fl []) (fun (r : Int32) (_ : Unit) => K r) := by
  refine ConI.of (tb := tb_X0_toNumber) (cc := cX0_toNumber) (nL := 3) (by decide) rfl tbk_X0_toNumber (Nat.le_of_ble_eq_true rfl) ?_
  intro x hl hD hk hg C rt
  subst hl hD hk hg
  exact w_X0_toNumber C rt h
set_option maxHeartbeats 4000000 in
set_option maxRecDepth 100000 in
theorem w_X0_fromNumber_6 {x : CT} {K : Int32 → Prop} (C : Cx x cX0_fromNumber tb_X0_fromNumber 4 RX0 (Cond.code yX0_fromNumber cX0_fromNumber 4 (some .int) :: wsL_law) ({ frames := 0, cells := 0, slots := 0, locals := 0 } : Room)) (rt : RetI x 0 0 (fun (u : Unit) => fl []) (fun (r : Int32) (_ : Unit) => K r))  {q1 : Int32 × Int32 × Int32} (h : Lp (F_X0_fromNumber_6 K) q1) : Wx x 4 0 0 (fl []) [(1, .int q1.1), (2, .int q1.2.1), (3, .int q1.2.2)] 6 [] := by
  refine lp_walk (P := fun q1 => Wx x 4 0 0 (fl []) [(1, .int q1.1), (2, .int q1.2.1), (3, .int q1.2.2)] 6 []) (fun q1 R6 hR6 h => ?_) h
  refine x_iload_n C 6 6 rfl 2 rfl rfl ?_
  refine x_bipush (v := (9 : Int32)) C 7 7 rfl (by decide) ?_
  refine x_icmp_ge C 8 9 32 rfl rfl (fun c2 => ?_) (fun c2 => ?_)
  · replace h := h.1 c2
    refine x_iload_n C 25 32 rfl 0 rfl rfl ?_
    exact x_iret C rt 26 33 rfl () rfl h
  · replace h := h.2 c2
    refine x_iload_n C 9 12 rfl 0 rfl rfl ?_
    refine x_iload_n C 10 13 rfl 1 rfl rfl ?_
    refine x_iconst (v := (3 : Int32)) C 11 14 rfl (by decide) ?_
    refine x_irem C 12 15 rfl (by decide) ?_
    refine x_iconst (v := (2 : Int32)) C 13 16 rfl (by decide) ?_
    refine x_iload_n C 14 17 rfl 2 rfl rfl ?_
    refine x_imul C 15 18 rfl ?_
    refine x_ishl C 16 19 rfl ?_
    refine x_ior C 17 20 rfl ?_
    refine x_topi (fun y3 ey3 => ?_)
    replace h := h y3 ey3
    refine x_istore_n (lv' := [(1, .int y3), (2, .int q1.2.1), (3, .int q1.2.2)]) C 18 21 rfl rfl (by decide) [0, 1, 2] rfl ?_
    refine x_iload_n C 19 22 rfl 1 rfl rfl ?_
    refine x_iconst (v := (3 : Int32)) C 20 23 rfl (by decide) ?_
    refine x_idiv C 21 24 rfl (by decide) ?_
    refine x_topi (fun y4 ey4 => ?_)
    replace h := h y4 ey4
    refine x_istore_n (lv' := [(1, .int y3), (2, .int y4), (3, .int q1.2.2)]) C 22 25 rfl rfl (by decide) [1, 0, 2] rfl ?_
    obtain ⟨y5, ey5⟩ : ∃ y : Int32, y = q1.2.2 + (1 : Int32) := ⟨_, rfl⟩
    replace h := h y5 ey5
    refine x_iinc (v := y5) (lv' := [(1, .int y3), (2, .int y4), (3, .int y5)]) C 23 26 rfl 2 rfl (by rw [ey5]; rfl) (by decide) [1, 2, 0] rfl ?_
    refine x_goto C 24 29 6 rfl rfl ?_
    exact x_sub [0, 1, 2] rfl (hR6 (y3, y4, y5) h)
set_option maxHeartbeats 4000000 in
set_option maxRecDepth 100000 in
theorem w_X0_fromNumber {x : CT} {p1 : Int32} {K : Int32 → Prop} (C : Cx x cX0_fromNumber tb_X0_fromNumber 4 RX0 (Cond.code yX0_fromNumber cX0_fromNumber 4 (some .int) :: wsL_law) ({ frames := 0, cells := 0, slots := 0, locals := 0 } : Room)) (rt : RetI x 0 0 (fun (u : Unit) => fl []) (fun (r : Int32) (_ : Unit) => K r)) (h : wp_X0_fromNumber p1 K) : Wx x 4 0 0 (fl []) [(0, .int p1)] 0 [] := by
  unfold wp_X0_fromNumber at h
  refine x_iconst (v := (0 : Int32)) C 0 0 rfl (by decide) ?_
  refine x_istore_n (lv' := [(0, .int p1), (1, .int (0 : Int32))]) C 1 1 rfl rfl (by decide) [1, 0] rfl ?_
  refine x_iload_n C 2 2 rfl 0 rfl rfl ?_
  refine x_istore_n (lv' := [(1, .int (0 : Int32)), (2, .int p1)]) C 3 3 rfl rfl (by decide) [2, 0] rfl ?_
  refine x_iconst (v := (0 : Int32)) C 4 4 rfl (by decide) ?_
  refine x_istore_n (lv' := [(1, .int (0 : Int32)), (2, .int p1), (3, .int (0 : Int32))]) C 5 5 rfl rfl (by decide) [1, 2, 0] rfl ?_
  refine x_sub (lv' := [(1, .int (0 : Int32)), (2, .int p1), (3, .int (0 : Int32))]) [0, 1, 2] rfl (w_X0_fromNumber_6 C rt h)
theorem c_X0_fromNumber (l : Launch) (D : va_G) (k : ClassId × ClassId) (g : Nat → Nat) (p1 : Int32) (K : Int32 → Prop) (h : wp_X0_fromNumber p1 K) : ConI l yX0_fromNumber (Cond.code yX0_fromNumber cX0_fromNumber 4 (some .int) :: wsL_law) ({ frames := 0, cells := 0, slots := 0, locals := 0 } : Room) D k g [.int p1] (fl []) (fun (u : Unit) => fl []) (fun (r : Int32) (_ : Unit) => K r) := by
  refine ConI.of (tb := tb_X0_fromNumber) (cc := cX0_fromNumber) (nL := 4) (by decide) rfl tbk_X0_fromNumber (Nat.le_of_ble_eq_true rfl) ?_
  intro x hl hD hk hg C rt
  subst hl hD hk hg
  exact w_X0_fromNumber C rt h
set_option maxHeartbeats 4000000 in
set_option maxRecDepth 100000 in
theorem w_X0_joinRow_4 {x : CT} {x0 : Int32} {x1 : Int32} {K : Int32 → Prop} {E70 : Int32 → Prop} (C : Cx x cX0_joinRow tb_X0_joinRow 6 RX0 (Cond.code yX0_joinRow cX0_joinRow 6 (some .int) :: wsL_law) ({ frames := 0, cells := 0, slots := 0, locals := 0 } : Room)) (rt : RetI x 0 0 (fun (u : Unit) => fl []) (fun (r : Int32) (_ : Unit) => K r)) (hE70 : ∀ q : Int32, E70 q → Wx x 6 0 0 (fl []) [(2, .int q)] 70 []) {q1 : Int32 × Int32} (h : Lp (F_X0_joinRow_4 x0 x1 E70) q1) : Wx x 6 0 0 (fl []) [(0, .int x0), (1, .int x1), (2, .int q1.1), (3, .int q1.2)] 4 [] := by
  refine lp_walk (P := fun q1 => Wx x 6 0 0 (fl []) [(0, .int x0), (1, .int x1), (2, .int q1.1), (3, .int q1.2)] 4 []) (fun q1 R4 hR4 h => ?_) h
  refine x_iload_n C 4 4 rfl 3 rfl rfl ?_
  refine x_iconst (v := (3 : Int32)) C 5 5 rfl (by decide) ?_
  refine x_icmp_ge C 6 6 70 rfl rfl (fun c2 => ?_) (fun c2 => ?_)
  · replace h := h.1 c2
    exact x_sub [2] rfl (hE70 q1.1 h)
  · replace h := h.2 c2
    refine x_iload_n C 7 9 rfl 0 rfl rfl ?_
    refine x_iconst (v := (2 : Int32)) C 8 10 rfl (by decide) ?_
    refine x_iload_n C 9 11 rfl 3 rfl rfl ?_
    refine x_imul C 10 12 rfl ?_
    refine x_ishr C 11 13 rfl ?_
    refine x_iconst (v := (3 : Int32)) C 12 14 rfl (by decide) ?_
    refine x_iand C 13 15 rfl ?_
    refine x_topi (fun y3 ey3 => ?_)
    replace h := h y3 ey3
    refine x_istore (lv' := [(0, .int x0), (1, .int x1), (2, .int q1.1), (3, .int q1.2), (4, .int y3)]) C 14 16 rfl (by decide) [1, 2, 3, 4, 0] rfl ?_
    refine x_iload_n C 15 18 rfl 1 rfl rfl ?_
    refine x_bipush (v := (6 : Int32)) C 16 19 rfl (by decide) ?_
    refine x_iload_n C 17 21 rfl 3 rfl rfl ?_
    refine x_imul C 18 22 rfl ?_
    refine x_ishr C 19 23 rfl ?_
    refine x_bipush (v := (63 : Int32)) C 20 24 rfl (by decide) ?_
    refine x_iand C 21 26 rfl ?_
    refine x_topi (fun y4 ey4 => ?_)
    replace h := h y4 ey4
    refine x_istore (lv' := [(0, .int x0), (1, .int x1), (2, .int q1.1), (3, .int q1.2), (4, .int y3), (5, .int y4)]) C 22 27 rfl (by decide) [1, 2, 3, 4, 5, 0] rfl ?_
    refine x_iload C 23 29 rfl 4 rfl ?_
    refine x_iconst (v := (1 : Int32)) C 24 31 rfl (by decide) ?_
    refine x_icmp_ne C 25 32 43 rfl rfl (fun c5 => ?_) (fun c5 => ?_)
    · replace h := h.2 c5
      refine x_iload C 31 43 rfl 4 rfl ?_
      refine x_iconst (v := (2 : Int32)) C 32 45 rfl (by decide) ?_
      refine x_icmp_ne C 33 46 64 rfl rfl (fun c6 => ?_) (fun c6 => ?_)
      · replace h := h.2 c6
        obtain ⟨y7, ey7⟩ : ∃ y : Int32, y = q1.2 + (1 : Int32) := ⟨_, rfl⟩
        replace h := h y7 ey7
        refine x_iinc (v := y7) (lv' := [(0, .int x0), (1, .int x1), (2, .int q1.1), (3, .int y7)]) C 46 64 rfl 3 rfl (by rw [ey7]; rfl) (by decide) [1, 2, 3, 0] rfl ?_
        refine x_goto C 47 67 4 rfl rfl ?_
        exact x_sub [0, 1, 2, 3] rfl (hR4 (q1.1, y7) h)
      · replace h := h.1 c6
        refine x_iload_n C 34 49 rfl 2 rfl rfl ?_
        refine x_iload C 35 50 rfl 5 rfl ?_
        refine x_iload C 36 52 rfl 5 rfl ?_
        refine x_iconst (v := (1 : Int32)) C 37 54 rfl (by decide) ?_
        refine x_ishr C 38 55 rfl ?_
        refine x_ior C 39 56 rfl ?_
        refine x_bipush (v := (21 : Int32)) C 40 57 rfl (by decide) ?_
        refine x_iand C 41 59 rfl ?_
        refine x_iconst (v := (1 : Int32)) C 42 60 rfl (by decide) ?_
        refine x_ishl C 43 61 rfl ?_
        refine x_ior C 44 62 rfl ?_
        refine x_topi (fun y8 ey8 => ?_)
        replace h := h y8 ey8
        refine x_istore_n (lv' := [(0, .int x0), (1, .int x1), (2, .int y8), (3, .int q1.2)]) C 45 63 rfl rfl (by decide) [1, 2, 0, 3] rfl ?_
        obtain ⟨y9, ey9⟩ : ∃ y : Int32, y = q1.2 + (1 : Int32) := ⟨_, rfl⟩
        replace h := h y9 ey9
        refine x_iinc (v := y9) (lv' := [(0, .int x0), (1, .int x1), (2, .int y8), (3, .int y9)]) C 46 64 rfl 3 rfl (by rw [ey9]; rfl) (by decide) [1, 2, 3, 0] rfl ?_
        refine x_goto C 47 67 4 rfl rfl ?_
        exact x_sub [0, 1, 2, 3] rfl (hR4 (y8, y9) h)
    · replace h := h.1 c5
      refine x_iload_n C 26 35 rfl 2 rfl rfl ?_
      refine x_iload C 27 36 rfl 5 rfl ?_
      refine x_ior C 28 38 rfl ?_
      refine x_topi (fun y10 ey10 => ?_)
      replace h := h y10 ey10
      refine x_istore_n (lv' := [(0, .int x0), (1, .int x1), (2, .int y10), (3, .int q1.2)]) C 29 39 rfl rfl (by decide) [1, 2, 0, 3] rfl ?_
      refine x_goto C 30 40 64 rfl rfl ?_
      obtain ⟨y11, ey11⟩ : ∃ y : Int32, y = q1.2 + (1 : Int32) := ⟨_, rfl⟩
      replace h := h y11 ey11
      refine x_iinc (v := y11) (lv' := [(0, .int x0), (1, .int x1), (2, .int y10), (3, .int y11)]) C 46 64 rfl 3 rfl (by rw [ey11]; rfl) (by decide) [1, 2, 3, 0] rfl ?_
      refine x_goto C 47 67 4 rfl rfl ?_
      exact x_sub [0, 1, 2, 3] rfl (hR4 (y10, y11) h)
set_option maxHeartbeats 4000000 in
set_option maxRecDepth 100000 in
theorem w_X0_joinRow {x : CT} {p1 : Int32} {p2 : Int32} {K : Int32 → Prop} (C : Cx x cX0_joinRow tb_X0_joinRow 6 RX0 (Cond.code yX0_joinRow cX0_joinRow 6 (some .int) :: wsL_law) ({ frames := 0, cells := 0, slots := 0, locals := 0 } : Room)) (rt : RetI x 0 0 (fun (u : Unit) => fl []) (fun (r : Int32) (_ : Unit) => K r)) (h : wp_X0_joinRow p1 p2 K) : Wx x 6 0 0 (fl []) [(0, .int p1), (1, .int p2)] 0 [] := by
  unfold wp_X0_joinRow at h
  refine x_iconst (v := (0 : Int32)) C 0 0 rfl (by decide) ?_
  refine x_istore_n (lv' := [(0, .int p1), (1, .int p2), (2, .int (0 : Int32))]) C 1 1 rfl rfl (by decide) [1, 2, 0] rfl ?_
  refine x_iconst (v := (0 : Int32)) C 2 2 rfl (by decide) ?_
  refine x_istore_n (lv' := [(0, .int p1), (1, .int p2), (2, .int (0 : Int32)), (3, .int (0 : Int32))]) C 3 3 rfl rfl (by decide) [1, 2, 3, 0] rfl ?_
  refine x_sub (lv' := [(0, .int p1), (1, .int p2), (2, .int (0 : Int32)), (3, .int (0 : Int32))]) [0, 1, 2, 3] rfl (w_X0_joinRow_4 C rt (fun q12 h => ?_) h)
  · refine x_iload_n C 48 70 rfl 0 rfl rfl ?_
    refine x_iload_n C 49 71 rfl 0 rfl rfl ?_
    refine x_iconst (v := (1 : Int32)) C 50 72 rfl (by decide) ?_
    refine x_ishr C 51 73 rfl ?_
    refine x_bipush (v := (21 : Int32)) C 52 74 rfl (by decide) ?_
    refine x_iand C 53 76 rfl ?_
    refine x_iconst (v := (-1 : Int32)) C 54 77 rfl (by decide) ?_
    refine x_ixor C 55 78 rfl ?_
    refine x_iand C 56 79 rfl ?_
    exact x_iret C rt 57 80 rfl () rfl h
theorem c_X0_joinRow (l : Launch) (D : va_G) (k : ClassId × ClassId) (g : Nat → Nat) (p1 : Int32) (p2 : Int32) (K : Int32 → Prop) (h : wp_X0_joinRow p1 p2 K) : ConI l yX0_joinRow (Cond.code yX0_joinRow cX0_joinRow 6 (some .int) :: wsL_law) ({ frames := 0, cells := 0, slots := 0, locals := 0 } : Room) D k g [.int p1, .int p2] (fl []) (fun (u : Unit) => fl []) (fun (r : Int32) (_ : Unit) => K r) := by
  refine ConI.of (tb := tb_X0_joinRow) (cc := cX0_joinRow) (nL := 6) (by decide) rfl tbk_X0_joinRow (Nat.le_of_ble_eq_true rfl) ?_
  intro x hl hD hk hg C rt
  subst hl hD hk hg
  exact w_X0_joinRow C rt h
set_option maxHeartbeats 4000000 in
set_option maxRecDepth 100000 in
theorem w_X0_join_4 {x : CT} {x0 : Int32} {x1 : Int32} {K : Int32 → Prop} (C : Cx x cX0_join tb_X0_join 4 RX0 (Cond.code yX0_join cX0_join 4 (some .int) :: wsL_law) ({ frames := 1, cells := 0, slots := 0, locals := 25 } : Room)) (rt : RetI x 0 0 (fun (u : Unit) => fl []) (fun (r : Int32) (_ : Unit) => K r))  {q1 : Int32 × Int32} (h : Lp (F_X0_join_4 x0 x1 K) q1) : Wx x 4 0 0 (fl []) [(0, .int x0), (1, .int x1), (2, .int q1.1), (3, .int q1.2)] 4 [] := by
  refine lp_walk (P := fun q1 => Wx x 4 0 0 (fl []) [(0, .int x0), (1, .int x1), (2, .int q1.1), (3, .int q1.2)] 4 []) (fun q1 R4 hR4 h => ?_) h
  refine x_iload_n C 4 4 rfl 3 rfl rfl ?_
  refine x_iconst (v := (3 : Int32)) C 5 5 rfl (by decide) ?_
  refine x_icmp_ge C 6 6 32 rfl rfl (fun c2 => ?_) (fun c2 => ?_)
  · replace h := h.1 c2
    refine x_iload_n C 21 32 rfl 2 rfl rfl ?_
    exact x_iret C rt 22 33 rfl () rfl h
  · replace h := h.2 c2
    refine x_iload_n C 7 9 rfl 2 rfl rfl ?_
    refine x_iload_n C 8 10 rfl 0 rfl rfl ?_
    refine x_iload_n C 9 11 rfl 3 rfl rfl ?_
    refine x_call0SI C 10 12 (c_X0_row (xl x) (xD x) (xk x) (xg x) x0 q1.2 _ h) rfl wwGood (mem3 wq_21_9 wq_21_10 wq_12_20) wq_21_11 2 ok_X0_row rfl ⟨by decide, by decide⟩ (Nat.le_of_ble_eq_true rfl) ⟨Nat.le_refl _, Nat.le_refl _⟩ ⟨rfl, rfl⟩ rfl (fun r3 _ h => ?_)
    refine x_iload_n C 11 15 rfl 1 rfl rfl ?_
    refine x_call0SI C 12 16 (c_X0_joinRow (xl x) (xD x) (xk x) (xg x) r3 x1 _ h) rfl wwGood (mem3 wq_21_12 wq_20_1 wq_12_20) wq_20_2 2 ok_X0_joinRow rfl ⟨by decide, by decide⟩ (Nat.le_of_ble_eq_true rfl) ⟨Nat.le_refl _, Nat.le_refl _⟩ ⟨rfl, rfl⟩ rfl (fun r4 _ h => ?_)
    refine x_bipush (v := (6 : Int32)) C 13 19 rfl (by decide) ?_
    refine x_iload_n C 14 21 rfl 3 rfl rfl ?_
    refine x_imul C 15 22 rfl ?_
    refine x_ishl C 16 23 rfl ?_
    refine x_ior C 17 24 rfl ?_
    refine x_topi (fun y5 ey5 => ?_)
    replace h := h y5 ey5
    refine x_istore_n (lv' := [(0, .int x0), (1, .int x1), (2, .int y5), (3, .int q1.2)]) C 18 25 rfl rfl (by decide) [1, 2, 0, 3] rfl ?_
    obtain ⟨y6, ey6⟩ : ∃ y : Int32, y = q1.2 + (1 : Int32) := ⟨_, rfl⟩
    replace h := h y6 ey6
    refine x_iinc (v := y6) (lv' := [(0, .int x0), (1, .int x1), (2, .int y5), (3, .int y6)]) C 19 26 rfl 3 rfl (by rw [ey6]; rfl) (by decide) [1, 2, 3, 0] rfl ?_
    refine x_goto C 20 29 4 rfl rfl ?_
    exact x_sub [0, 1, 2, 3] rfl (hR4 (y5, y6) h)
set_option maxHeartbeats 4000000 in
set_option maxRecDepth 100000 in
theorem w_X0_join {x : CT} {p1 : Int32} {p2 : Int32} {K : Int32 → Prop} (C : Cx x cX0_join tb_X0_join 4 RX0 (Cond.code yX0_join cX0_join 4 (some .int) :: wsL_law) ({ frames := 1, cells := 0, slots := 0, locals := 25 } : Room)) (rt : RetI x 0 0 (fun (u : Unit) => fl []) (fun (r : Int32) (_ : Unit) => K r)) (h : wp_X0_join p1 p2 K) : Wx x 4 0 0 (fl []) [(0, .int p1), (1, .int p2)] 0 [] := by
  unfold wp_X0_join at h
  refine x_iconst (v := (0 : Int32)) C 0 0 rfl (by decide) ?_
  refine x_istore_n (lv' := [(0, .int p1), (1, .int p2), (2, .int (0 : Int32))]) C 1 1 rfl rfl (by decide) [1, 2, 0] rfl ?_
  refine x_iconst (v := (0 : Int32)) C 2 2 rfl (by decide) ?_
  refine x_istore_n (lv' := [(0, .int p1), (1, .int p2), (2, .int (0 : Int32)), (3, .int (0 : Int32))]) C 3 3 rfl rfl (by decide) [1, 2, 3, 0] rfl ?_
  refine x_sub (lv' := [(0, .int p1), (1, .int p2), (2, .int (0 : Int32)), (3, .int (0 : Int32))]) [0, 1, 2, 3] rfl (w_X0_join_4 C rt h)
theorem c_X0_join (l : Launch) (D : va_G) (k : ClassId × ClassId) (g : Nat → Nat) (p1 : Int32) (p2 : Int32) (K : Int32 → Prop) (h : wp_X0_join p1 p2 K) : ConI l yX0_join (Cond.code yX0_join cX0_join 4 (some .int) :: wsL_law) ({ frames := 1, cells := 0, slots := 0, locals := 25 } : Room) D k g [.int p1, .int p2] (fl []) (fun (u : Unit) => fl []) (fun (r : Int32) (_ : Unit) => K r) := by
  refine ConI.of (tb := tb_X0_join) (cc := cX0_join) (nL := 4) (by decide) rfl tbk_X0_join (Nat.le_of_ble_eq_true rfl) ?_
  intro x hl hD hk hg C rt
  subst hl hD hk hg
  exact w_X0_join C rt h
set_option maxHeartbeats 4000000 in
set_option maxRecDepth 100000 in
theorem w_X0_hasLessToItself {x : CT} {p1 : Int32} {K : Int32 → Prop} (C : Cx x cX0_hasLessToItself tb_X0_hasLessToItself 1 RX0 (Cond.code yX0_hasLessToItself cX0_hasLessToItself 1 (some .boolean) :: wsL_law) ({ frames := 0, cells := 0, slots := 0, locals := 0 } : Room)) (rt : RetZ x 0 0 (fun (u : Unit) => fl []) (fun (r : Int32) (_ : Unit) => K r)) (h : wp_X0_hasLessToItself p1 K) : Wx x 1 0 0 (fl []) [(0, .int p1)] 0 [] := by
  unfold wp_X0_hasLessToItself at h
  refine x_iload_n C 0 0 rfl 0 rfl rfl ?_
  refine x_ldc (v := (131586 : Int32)) C 1 1 rfl (mc wq_21_5) ?_
  refine x_iand C 2 3 rfl ?_
  refine x_if_eq C 3 4 11 rfl rfl (fun c1 => ?_) (fun c1 => ?_)
  · replace h := h.1 c1
    refine x_iconst (v := (0 : Int32)) C 6 11 rfl (by decide) ?_
    exact x_zret C rt 7 12 rfl zb_0 () rfl h
  · replace h := h.2 c1
    refine x_iconst (v := (1 : Int32)) C 4 7 rfl (by decide) ?_
    refine x_goto C 5 8 12 rfl rfl ?_
    exact x_zret C rt 7 12 rfl zb_1 () rfl h
theorem c_X0_hasLessToItself (l : Launch) (D : va_G) (k : ClassId × ClassId) (g : Nat → Nat) (p1 : Int32) (K : Int32 → Prop) (h : wp_X0_hasLessToItself p1 K) : ConZ l yX0_hasLessToItself (Cond.code yX0_hasLessToItself cX0_hasLessToItself 1 (some .boolean) :: wsL_law) ({ frames := 0, cells := 0, slots := 0, locals := 0 } : Room) D k g [.int p1] (fl []) (fun (u : Unit) => fl []) (fun (r : Int32) (_ : Unit) => K r) := by
  refine ConZ.of (tb := tb_X0_hasLessToItself) (cc := cX0_hasLessToItself) (nL := 1) (by decide) rfl tbk_X0_hasLessToItself (Nat.le_of_ble_eq_true rfl) ?_
  intro x hl hD hk hg C rt
  subst hl hD hk hg
  exact w_X0_hasLessToItself C rt h
set_option maxHeartbeats 4000000 in
set_option maxRecDepth 100000 in
theorem w_X0_howMany_4 {x : CT} {x0 : Int32} {x1 : Int32} {K : Int32 → Prop} (C : Cx x cX0_howMany tb_X0_howMany 4 RX0 (Cond.code yX0_howMany cX0_howMany 4 (some .int) :: wsL_law) ({ frames := 0, cells := 0, slots := 0, locals := 0 } : Room)) (rt : RetI x 0 0 (fun (u : Unit) => fl []) (fun (r : Int32) (_ : Unit) => K r))  {q1 : Int32 × Int32} (h : Lp (F_X0_howMany_4 x0 x1 K) q1) : Wx x 4 0 0 (fl []) [(0, .int x0), (1, .int x1), (2, .int q1.1), (3, .int q1.2)] 4 [] := by
  refine lp_walk (P := fun q1 => Wx x 4 0 0 (fl []) [(0, .int x0), (1, .int x1), (2, .int q1.1), (3, .int q1.2)] 4 []) (fun q1 R4 hR4 h => ?_) h
  refine x_iload_n C 4 4 rfl 3 rfl rfl ?_
  refine x_bipush (v := (9 : Int32)) C 5 5 rfl (by decide) ?_
  refine x_icmp_ge C 6 7 30 rfl rfl (fun c2 => ?_) (fun c2 => ?_)
  · replace h := h.1 c2
    refine x_iload_n C 19 30 rfl 2 rfl rfl ?_
    exact x_iret C rt 20 31 rfl () rfl h
  · replace h := h.2 c2
    refine x_iload_n C 7 10 rfl 0 rfl rfl ?_
    refine x_iconst (v := (2 : Int32)) C 8 11 rfl (by decide) ?_
    refine x_iload_n C 9 12 rfl 3 rfl rfl ?_
    refine x_imul C 10 13 rfl ?_
    refine x_ishr C 11 14 rfl ?_
    refine x_iconst (v := (3 : Int32)) C 12 15 rfl (by decide) ?_
    refine x_iand C 13 16 rfl ?_
    refine x_iload_n C 14 17 rfl 1 rfl rfl ?_
    refine x_icmp_lt C 15 18 24 rfl rfl (fun c3 => ?_) (fun c3 => ?_)
    · replace h := h.1 c3
      obtain ⟨y4, ey4⟩ : ∃ y : Int32, y = q1.2 + (1 : Int32) := ⟨_, rfl⟩
      replace h := h y4 ey4
      refine x_iinc (v := y4) (lv' := [(0, .int x0), (1, .int x1), (2, .int q1.1), (3, .int y4)]) C 17 24 rfl 3 rfl (by rw [ey4]; rfl) (by decide) [1, 2, 3, 0] rfl ?_
      refine x_goto C 18 27 4 rfl rfl ?_
      exact x_sub [0, 1, 2, 3] rfl (hR4 (q1.1, y4) h)
    · replace h := h.2 c3
      obtain ⟨y5, ey5⟩ : ∃ y : Int32, y = q1.1 + (1 : Int32) := ⟨_, rfl⟩
      replace h := h y5 ey5
      refine x_iinc (v := y5) (lv' := [(0, .int x0), (1, .int x1), (2, .int y5), (3, .int q1.2)]) C 16 21 rfl 2 rfl (by rw [ey5]; rfl) (by decide) [1, 2, 0, 3] rfl ?_
      obtain ⟨y6, ey6⟩ : ∃ y : Int32, y = q1.2 + (1 : Int32) := ⟨_, rfl⟩
      replace h := h y6 ey6
      refine x_iinc (v := y6) (lv' := [(0, .int x0), (1, .int x1), (2, .int y5), (3, .int y6)]) C 17 24 rfl 3 rfl (by rw [ey6]; rfl) (by decide) [1, 2, 3, 0] rfl ?_
      refine x_goto C 18 27 4 rfl rfl ?_
      exact x_sub [0, 1, 2, 3] rfl (hR4 (y5, y6) h)
set_option maxHeartbeats 4000000 in
set_option maxRecDepth 100000 in
theorem w_X0_howMany {x : CT} {p1 : Int32} {p2 : Int32} {K : Int32 → Prop} (C : Cx x cX0_howMany tb_X0_howMany 4 RX0 (Cond.code yX0_howMany cX0_howMany 4 (some .int) :: wsL_law) ({ frames := 0, cells := 0, slots := 0, locals := 0 } : Room)) (rt : RetI x 0 0 (fun (u : Unit) => fl []) (fun (r : Int32) (_ : Unit) => K r)) (h : wp_X0_howMany p1 p2 K) : Wx x 4 0 0 (fl []) [(0, .int p1), (1, .int p2)] 0 [] := by
  unfold wp_X0_howMany at h
  refine x_iconst (v := (0 : Int32)) C 0 0 rfl (by decide) ?_
  refine x_istore_n (lv' := [(0, .int p1), (1, .int p2), (2, .int (0 : Int32))]) C 1 1 rfl rfl (by decide) [1, 2, 0] rfl ?_
  refine x_iconst (v := (0 : Int32)) C 2 2 rfl (by decide) ?_
  refine x_istore_n (lv' := [(0, .int p1), (1, .int p2), (2, .int (0 : Int32)), (3, .int (0 : Int32))]) C 3 3 rfl rfl (by decide) [1, 2, 3, 0] rfl ?_
  refine x_sub (lv' := [(0, .int p1), (1, .int p2), (2, .int (0 : Int32)), (3, .int (0 : Int32))]) [0, 1, 2, 3] rfl (w_X0_howMany_4 C rt h)
theorem c_X0_howMany (l : Launch) (D : va_G) (k : ClassId × ClassId) (g : Nat → Nat) (p1 : Int32) (p2 : Int32) (K : Int32 → Prop) (h : wp_X0_howMany p1 p2 K) : ConI l yX0_howMany (Cond.code yX0_howMany cX0_howMany 4 (some .int) :: wsL_law) ({ frames := 0, cells := 0, slots := 0, locals := 0 } : Room) D k g [.int p1, .int p2] (fl []) (fun (u : Unit) => fl []) (fun (r : Int32) (_ : Unit) => K r) := by
  refine ConI.of (tb := tb_X0_howMany) (cc := cX0_howMany) (nL := 4) (by decide) rfl tbk_X0_howMany (Nat.le_of_ble_eq_true rfl) ?_
  intro x hl hD hk hg C rt
  subst hl hD hk hg
  exact w_X0_howMany C rt h
set_option maxHeartbeats 4000000 in
set_option maxRecDepth 100000 in
theorem w_X0_howManyToThemselves_4 {x : CT} {x0 : Int32} {K : Int32 → Prop} (C : Cx x cX0_howManyToThemselves tb_X0_howManyToThemselves 3 RX0 (Cond.code yX0_howManyToThemselves cX0_howManyToThemselves 3 (some .int) :: wsL_law) ({ frames := 1, cells := 0, slots := 0, locals := 22 } : Room)) (rt : RetI x 0 0 (fun (u : Unit) => fl []) (fun (r : Int32) (_ : Unit) => K r))  {q1 : Int32 × Int32} (h : Lp (F_X0_howManyToThemselves_4 x0 K) q1) : Wx x 3 0 0 (fl []) [(0, .int x0), (1, .int q1.1), (2, .int q1.2)] 4 [] := by
  refine lp_walk (P := fun q1 => Wx x 3 0 0 (fl []) [(0, .int x0), (1, .int q1.1), (2, .int q1.2)] 4 []) (fun q1 R4 hR4 h => ?_) h
  refine x_iload_n C 4 4 rfl 2 rfl rfl ?_
  refine x_iconst (v := (3 : Int32)) C 5 5 rfl (by decide) ?_
  refine x_icmp_ge C 6 6 27 rfl rfl (fun c2 => ?_) (fun c2 => ?_)
  · replace h := h.1 c2
    refine x_iload_n C 15 27 rfl 1 rfl rfl ?_
    exact x_iret C rt 16 28 rfl () rfl h
  · replace h := h.2 c2
    refine x_iload_n C 7 9 rfl 0 rfl rfl ?_
    refine x_iload_n C 8 10 rfl 2 rfl rfl ?_
    refine x_iload_n C 9 11 rfl 2 rfl rfl ?_
    refine x_call0SI C 10 12 (c_X0_at (xl x) (xD x) (xk x) (xg x) x0 q1.2 q1.2 _ h) rfl wwGood (mem3 wq_29_5 wq_12_19 wq_12_20) wq_12_21 3 ok_X0_at rfl ⟨by decide, by decide⟩ (Nat.le_of_ble_eq_true rfl) ⟨Nat.le_refl _, Nat.le_refl _⟩ ⟨rfl, rfl⟩ rfl (fun r3 _ h => ?_)
    refine x_if_eq C 11 15 21 rfl rfl (fun c4 => ?_) (fun c4 => ?_)
    · replace h := h.1 c4
      obtain ⟨y5, ey5⟩ : ∃ y : Int32, y = q1.2 + (1 : Int32) := ⟨_, rfl⟩
      replace h := h y5 ey5
      refine x_iinc (v := y5) (lv' := [(0, .int x0), (1, .int q1.1), (2, .int y5)]) C 13 21 rfl 2 rfl (by rw [ey5]; rfl) (by decide) [1, 2, 0] rfl ?_
      refine x_goto C 14 24 4 rfl rfl ?_
      exact x_sub [0, 1, 2] rfl (hR4 (q1.1, y5) h)
    · replace h := h.2 c4
      obtain ⟨y6, ey6⟩ : ∃ y : Int32, y = q1.1 + (1 : Int32) := ⟨_, rfl⟩
      replace h := h y6 ey6
      refine x_iinc (v := y6) (lv' := [(0, .int x0), (1, .int y6), (2, .int q1.2)]) C 12 18 rfl 1 rfl (by rw [ey6]; rfl) (by decide) [1, 0, 2] rfl ?_
      obtain ⟨y7, ey7⟩ : ∃ y : Int32, y = q1.2 + (1 : Int32) := ⟨_, rfl⟩
      replace h := h y7 ey7
      refine x_iinc (v := y7) (lv' := [(0, .int x0), (1, .int y6), (2, .int y7)]) C 13 21 rfl 2 rfl (by rw [ey7]; rfl) (by decide) [1, 2, 0] rfl ?_
      refine x_goto C 14 24 4 rfl rfl ?_
      exact x_sub [0, 1, 2] rfl (hR4 (y6, y7) h)
set_option maxHeartbeats 4000000 in
set_option maxRecDepth 100000 in
theorem w_X0_howManyToThemselves {x : CT} {p1 : Int32} {K : Int32 → Prop} (C : Cx x cX0_howManyToThemselves tb_X0_howManyToThemselves 3 RX0 (Cond.code yX0_howManyToThemselves cX0_howManyToThemselves 3 (some .int) :: wsL_law) ({ frames := 1, cells := 0, slots := 0, locals := 22 } : Room)) (rt : RetI x 0 0 (fun (u : Unit) => fl []) (fun (r : Int32) (_ : Unit) => K r)) (h : wp_X0_howManyToThemselves p1 K) : Wx x 3 0 0 (fl []) [(0, .int p1)] 0 [] := by
  unfold wp_X0_howManyToThemselves at h
  refine x_iconst (v := (0 : Int32)) C 0 0 rfl (by decide) ?_
  refine x_istore_n (lv' := [(0, .int p1), (1, .int (0 : Int32))]) C 1 1 rfl rfl (by decide) [1, 0] rfl ?_
  refine x_iconst (v := (0 : Int32)) C 2 2 rfl (by decide) ?_
  refine x_istore_n (lv' := [(0, .int p1), (1, .int (0 : Int32)), (2, .int (0 : Int32))]) C 3 3 rfl rfl (by decide) [1, 2, 0] rfl ?_
  refine x_sub (lv' := [(0, .int p1), (1, .int (0 : Int32)), (2, .int (0 : Int32))]) [0, 1, 2] rfl (w_X0_howManyToThemselves_4 C rt h)
theorem c_X0_howManyToThemselves (l : Launch) (D : va_G) (k : ClassId × ClassId) (g : Nat → Nat) (p1 : Int32) (K : Int32 → Prop) (h : wp_X0_howManyToThemselves p1 K) : ConI l yX0_howManyToThemselves (Cond.code yX0_howManyToThemselves cX0_howManyToThemselves 3 (some .int) :: wsL_law) ({ frames := 1, cells := 0, slots := 0, locals := 22 } : Room) D k g [.int p1] (fl []) (fun (u : Unit) => fl []) (fun (r : Int32) (_ : Unit) => K r) := by
  refine ConI.of (tb := tb_X0_howManyToThemselves) (cc := cX0_howManyToThemselves) (nL := 3) (by decide) rfl tbk_X0_howManyToThemselves (Nat.le_of_ble_eq_true rfl) ?_
  intro x hl hD hk hg C rt
  subst hl hD hk hg
  exact w_X0_howManyToThemselves C rt h
set_option maxHeartbeats 4000000 in
set_option maxRecDepth 100000 in
theorem w_X0_leadsTo_2 {x : CT} {x0 : Int32} {x1 : Int32} {x2 : Int32} {K : Int32 → Prop} (C : Cx x cX0_leadsTo tb_X0_leadsTo 4 RX0 (Cond.code yX0_leadsTo cX0_leadsTo 4 (some .boolean) :: wsL_law) ({ frames := 1, cells := 0, slots := 0, locals := 22 } : Room)) (rt : RetZ x 0 0 (fun (u : Unit) => fl []) (fun (r : Int32) (_ : Unit) => K r))  {q1 : Int32} (h : Lp (F_X0_leadsTo_2 x0 x1 x2 K) q1) : Wx x 4 0 0 (fl []) [(0, .int x0), (1, .int x1), (2, .int x2), (3, .int q1)] 2 [] := by
  refine lp_walk (P := fun q1 => Wx x 4 0 0 (fl []) [(0, .int x0), (1, .int x1), (2, .int x2), (3, .int q1)] 2 []) (fun q1 R2 hR2 h => ?_) h
  refine x_iload_n C 2 2 rfl 3 rfl rfl ?_
  refine x_iconst (v := (3 : Int32)) C 3 3 rfl (by decide) ?_
  refine x_icmp_ge C 4 4 32 rfl rfl (fun c2 => ?_) (fun c2 => ?_)
  · replace h := h.1 c2
    refine x_iconst (v := (0 : Int32)) C 20 32 rfl (by decide) ?_
    exact x_zret C rt 21 33 rfl zb_0 () rfl h
  · replace h := h.2 c2
    refine x_iload_n C 5 7 rfl 0 rfl rfl ?_
    refine x_iload_n C 6 8 rfl 1 rfl rfl ?_
    refine x_iload_n C 7 9 rfl 3 rfl rfl ?_
    refine x_call0SI C 8 10 (c_X0_at (xl x) (xD x) (xk x) (xg x) x0 x1 q1 _ h) rfl wwGood (mem3 wq_29_5 wq_12_19 wq_12_20) wq_12_21 3 ok_X0_at rfl ⟨by decide, by decide⟩ (Nat.le_of_ble_eq_true rfl) ⟨Nat.le_refl _, Nat.le_refl _⟩ ⟨rfl, rfl⟩ rfl (fun r3 _ h => ?_)
    refine x_if_eq C 9 13 26 rfl rfl (fun c4 => ?_) (fun c4 => ?_)
    · replace h := h.1 c4
      obtain ⟨y5, ey5⟩ : ∃ y : Int32, y = q1 + (1 : Int32) := ⟨_, rfl⟩
      replace h := h y5 ey5
      refine x_iinc (v := y5) (lv' := [(0, .int x0), (1, .int x1), (2, .int x2), (3, .int y5)]) C 18 26 rfl 3 rfl (by rw [ey5]; rfl) (by decide) [1, 2, 3, 0] rfl ?_
      refine x_goto C 19 29 2 rfl rfl ?_
      exact x_sub [0, 1, 2, 3] rfl (hR2 y5 h)
    · replace h := h.2 c4
      refine x_iload_n C 10 16 rfl 2 rfl rfl ?_
      refine x_iload_n C 11 17 rfl 3 rfl rfl ?_
      refine x_ishr C 12 18 rfl ?_
      refine x_iconst (v := (1 : Int32)) C 13 19 rfl (by decide) ?_
      refine x_iand C 14 20 rfl ?_
      refine x_if_eq C 15 21 26 rfl rfl (fun c6 => ?_) (fun c6 => ?_)
      · replace h := h.1 c6
        obtain ⟨y7, ey7⟩ : ∃ y : Int32, y = q1 + (1 : Int32) := ⟨_, rfl⟩
        replace h := h y7 ey7
        refine x_iinc (v := y7) (lv' := [(0, .int x0), (1, .int x1), (2, .int x2), (3, .int y7)]) C 18 26 rfl 3 rfl (by rw [ey7]; rfl) (by decide) [1, 2, 3, 0] rfl ?_
        refine x_goto C 19 29 2 rfl rfl ?_
        exact x_sub [0, 1, 2, 3] rfl (hR2 y7 h)
      · replace h := h.2 c6
        refine x_iconst (v := (1 : Int32)) C 16 24 rfl (by decide) ?_
        exact x_zret C rt 17 25 rfl zb_1 () rfl h
set_option maxHeartbeats 4000000 in
set_option maxRecDepth 100000 in
theorem w_X0_leadsTo {x : CT} {p1 : Int32} {p2 : Int32} {p3 : Int32} {K : Int32 → Prop} (C : Cx x cX0_leadsTo tb_X0_leadsTo 4 RX0 (Cond.code yX0_leadsTo cX0_leadsTo 4 (some .boolean) :: wsL_law) ({ frames := 1, cells := 0, slots := 0, locals := 22 } : Room)) (rt : RetZ x 0 0 (fun (u : Unit) => fl []) (fun (r : Int32) (_ : Unit) => K r)) (h : wp_X0_leadsTo p1 p2 p3 K) : Wx x 4 0 0 (fl []) [(0, .int p1), (1, .int p2), (2, .int p3)] 0 [] := by
  unfold wp_X0_leadsTo at h
  refine x_iconst (v := (0 : Int32)) C 0 0 rfl (by decide) ?_
  refine x_istore_n (lv' := [(0, .int p1), (1, .int p2), (2, .int p3), (3, .int (0 : Int32))]) C 1 1 rfl rfl (by decide) [1, 2, 3, 0] rfl ?_
  refine x_sub (lv' := [(0, .int p1), (1, .int p2), (2, .int p3), (3, .int (0 : Int32))]) [0, 1, 2, 3] rfl (w_X0_leadsTo_2 C rt h)
theorem c_X0_leadsTo (l : Launch) (D : va_G) (k : ClassId × ClassId) (g : Nat → Nat) (p1 : Int32) (p2 : Int32) (p3 : Int32) (K : Int32 → Prop) (h : wp_X0_leadsTo p1 p2 p3 K) : ConZ l yX0_leadsTo (Cond.code yX0_leadsTo cX0_leadsTo 4 (some .boolean) :: wsL_law) ({ frames := 1, cells := 0, slots := 0, locals := 22 } : Room) D k g [.int p1, .int p2, .int p3] (fl []) (fun (u : Unit) => fl []) (fun (r : Int32) (_ : Unit) => K r) := by
  refine ConZ.of (tb := tb_X0_leadsTo) (cc := cX0_leadsTo) (nL := 4) (by decide) rfl tbk_X0_leadsTo (Nat.le_of_ble_eq_true rfl) ?_
  intro x hl hD hk hg C rt
  subst hl hD hk hg
  exact w_X0_leadsTo C rt h
set_option maxHeartbeats 4000000 in
set_option maxRecDepth 100000 in
theorem w_X0_threads_15 {x : CT} {x0 : Int32} {x1 : Int32} {x2 : Int32} {K : Int32 → Prop} {R5 : Int32 × Int32 → Prop} (C : Cx x cX0_threads tb_X0_threads 5 RX0 (Cond.code yX0_threads cX0_threads 5 (some .int) :: wsL_law) ({ frames := 2, cells := 0, slots := 0, locals := 45 } : Room)) (rt : RetI x 0 0 (fun (u : Unit) => fl []) (fun (r : Int32) (_ : Unit) => K r)) (hR5 : ∀ q : Int32 × Int32, R5 q → Wx x 5 0 0 (fl []) [(0, .int x0), (1, .int q.1), (2, .int q.2)] 5 []) {q3 : Int32 × Int32} (h : Lp (F_X0_threads_15 x0 x1 x2 R5) q3) : Wx x 5 0 0 (fl []) [(0, .int x0), (1, .int x1), (2, .int x2), (3, .int q3.1), (4, .int q3.2)] 15 [] := by
  refine lp_walk (P := fun q3 => Wx x 5 0 0 (fl []) [(0, .int x0), (1, .int x1), (2, .int x2), (3, .int q3.1), (4, .int q3.2)] 15 []) (fun q3 R15 hR15 h => ?_) h
  refine x_iload C 11 15 rfl 4 rfl ?_
  refine x_iconst (v := (3 : Int32)) C 12 17 rfl (by decide) ?_
  refine x_icmp_ge C 13 18 44 rfl rfl (fun c4 => ?_) (fun c4 => ?_)
  · replace h := h.1 c4
    refine x_iload_n C 27 44 rfl 3 rfl rfl ?_
    refine x_istore_n (lv' := [(0, .int x0), (1, .int q3.1), (2, .int x2)]) C 28 45 rfl rfl (by decide) [1, 0, 2] rfl ?_
    obtain ⟨y5, ey5⟩ : ∃ y : Int32, y = x2 + (1 : Int32) := ⟨_, rfl⟩
    replace h := h y5 ey5
    refine x_iinc (v := y5) (lv' := [(0, .int x0), (1, .int q3.1), (2, .int y5)]) C 29 46 rfl 2 rfl (by rw [ey5]; rfl) (by decide) [1, 2, 0] rfl ?_
    refine x_goto C 30 49 5 rfl rfl ?_
    exact x_sub [0, 1, 2] rfl (hR5 (q3.1, y5) h)
  · replace h := h.2 c4
    refine x_iload_n C 14 21 rfl 0 rfl rfl ?_
    refine x_iload C 15 22 rfl 4 rfl ?_
    refine x_iload_n C 16 24 rfl 1 rfl rfl ?_
    refine x_call0SZ C 17 25 (c_X0_leadsTo (xl x) (xD x) (xk x) (xg x) x0 q3.2 x1 _ h) rfl wwGood (mem3 wq_29_2 wq_29_3 wq_12_20) wq_29_4 3 ok_X0_leadsTo rfl ⟨by decide, by decide⟩ (Nat.le_of_ble_eq_true rfl) ⟨Nat.le_refl _, Nat.le_refl _⟩ ⟨rfl, rfl⟩ rfl (fun r6 _ h => ?_)
    refine x_if_eq C 18 28 38 rfl rfl (fun c7 => ?_) (fun c7 => ?_)
    · replace h := h.1 c7
      obtain ⟨y8, ey8⟩ : ∃ y : Int32, y = q3.2 + (1 : Int32) := ⟨_, rfl⟩
      replace h := h y8 ey8
      refine x_iinc (v := y8) (lv' := [(0, .int x0), (1, .int x1), (2, .int x2), (3, .int q3.1), (4, .int y8)]) C 25 38 rfl 4 rfl (by rw [ey8]; rfl) (by decide) [1, 2, 3, 4, 0] rfl ?_
      refine x_goto C 26 41 15 rfl rfl ?_
      exact x_sub [0, 1, 2, 3, 4] rfl (hR15 (q3.1, y8) h)
    · replace h := h.2 c7
      refine x_iload_n C 19 31 rfl 3 rfl rfl ?_
      refine x_iconst (v := (1 : Int32)) C 20 32 rfl (by decide) ?_
      refine x_iload C 21 33 rfl 4 rfl ?_
      refine x_ishl C 22 35 rfl ?_
      refine x_ior C 23 36 rfl ?_
      refine x_topi (fun y9 ey9 => ?_)
      replace h := h y9 ey9
      refine x_istore_n (lv' := [(0, .int x0), (1, .int x1), (2, .int x2), (3, .int y9), (4, .int q3.2)]) C 24 37 rfl rfl (by decide) [1, 2, 3, 0, 4] rfl ?_
      obtain ⟨y10, ey10⟩ : ∃ y : Int32, y = q3.2 + (1 : Int32) := ⟨_, rfl⟩
      replace h := h y10 ey10
      refine x_iinc (v := y10) (lv' := [(0, .int x0), (1, .int x1), (2, .int x2), (3, .int y9), (4, .int y10)]) C 25 38 rfl 4 rfl (by rw [ey10]; rfl) (by decide) [1, 2, 3, 4, 0] rfl ?_
      refine x_goto C 26 41 15 rfl rfl ?_
      exact x_sub [0, 1, 2, 3, 4] rfl (hR15 (y9, y10) h)
set_option maxHeartbeats 4000000 in
set_option maxRecDepth 100000 in
theorem w_X0_threads_5 {x : CT} {x0 : Int32} {K : Int32 → Prop} (C : Cx x cX0_threads tb_X0_threads 5 RX0 (Cond.code yX0_threads cX0_threads 5 (some .int) :: wsL_law) ({ frames := 2, cells := 0, slots := 0, locals := 45 } : Room)) (rt : RetI x 0 0 (fun (u : Unit) => fl []) (fun (r : Int32) (_ : Unit) => K r))  {q1 : Int32 × Int32} (h : Lp (F_X0_threads_5 x0 K) q1) : Wx x 5 0 0 (fl []) [(0, .int x0), (1, .int q1.1), (2, .int q1.2)] 5 [] := by
  refine lp_walk (P := fun q1 => Wx x 5 0 0 (fl []) [(0, .int x0), (1, .int q1.1), (2, .int q1.2)] 5 []) (fun q1 R5 hR5 h => ?_) h
  refine x_iload_n C 4 5 rfl 2 rfl rfl ?_
  refine x_iconst (v := (3 : Int32)) C 5 6 rfl (by decide) ?_
  refine x_icmp_ge C 6 7 52 rfl rfl (fun c2 => ?_) (fun c2 => ?_)
  · replace h := h.1 c2
    refine x_iload_n C 31 52 rfl 1 rfl rfl ?_
    exact x_iret C rt 32 53 rfl () rfl h
  · replace h := h.2 c2
    refine x_iconst (v := (0 : Int32)) C 7 10 rfl (by decide) ?_
    refine x_istore_n (lv' := [(0, .int x0), (1, .int q1.1), (2, .int q1.2), (3, .int (0 : Int32))]) C 8 11 rfl rfl (by decide) [1, 2, 3, 0] rfl ?_
    refine x_iconst (v := (0 : Int32)) C 9 12 rfl (by decide) ?_
    refine x_istore (lv' := [(0, .int x0), (1, .int q1.1), (2, .int q1.2), (3, .int (0 : Int32)), (4, .int (0 : Int32))]) C 10 13 rfl (by decide) [1, 2, 3, 4, 0] rfl ?_
    refine x_sub (lv' := [(0, .int x0), (1, .int q1.1), (2, .int q1.2), (3, .int (0 : Int32)), (4, .int (0 : Int32))]) [0, 1, 2, 3, 4] rfl (w_X0_threads_15 C rt hR5 h)
set_option maxHeartbeats 4000000 in
set_option maxRecDepth 100000 in
theorem w_X0_threads {x : CT} {p1 : Int32} {K : Int32 → Prop} (C : Cx x cX0_threads tb_X0_threads 5 RX0 (Cond.code yX0_threads cX0_threads 5 (some .int) :: wsL_law) ({ frames := 2, cells := 0, slots := 0, locals := 45 } : Room)) (rt : RetI x 0 0 (fun (u : Unit) => fl []) (fun (r : Int32) (_ : Unit) => K r)) (h : wp_X0_threads p1 K) : Wx x 5 0 0 (fl []) [(0, .int p1)] 0 [] := by
  unfold wp_X0_threads at h
  refine x_bipush (v := (7 : Int32)) C 0 0 rfl (by decide) ?_
  refine x_istore_n (lv' := [(0, .int p1), (1, .int (7 : Int32))]) C 1 2 rfl rfl (by decide) [1, 0] rfl ?_
  refine x_iconst (v := (0 : Int32)) C 2 3 rfl (by decide) ?_
  refine x_istore_n (lv' := [(0, .int p1), (1, .int (7 : Int32)), (2, .int (0 : Int32))]) C 3 4 rfl rfl (by decide) [1, 2, 0] rfl ?_
  refine x_sub (lv' := [(0, .int p1), (1, .int (7 : Int32)), (2, .int (0 : Int32))]) [0, 1, 2] rfl (w_X0_threads_5 C rt h)
theorem c_X0_threads (l : Launch) (D : va_G) (k : ClassId × ClassId) (g : Nat → Nat) (p1 : Int32) (K : Int32 → Prop) (h : wp_X0_threads p1 K) : ConI l yX0_threads (Cond.code yX0_threads cX0_threads 5 (some .int) :: wsL_law) ({ frames := 2, cells := 0, slots := 0, locals := 45 } : Room) D k g [.int p1] (fl []) (fun (u : Unit) => fl []) (fun (r : Int32) (_ : Unit) => K r) := by
  refine ConI.of (tb := tb_X0_threads) (cc := cX0_threads) (nL := 5) (by decide) rfl tbk_X0_threads (Nat.le_of_ble_eq_true rfl) ?_
  intro x hl hD hk hg C rt
  subst hl hD hk hg
  exact w_X0_threads C rt h
set_option maxHeartbeats 4000000 in
set_option maxRecDepth 100000 in
theorem w_X0_falls {x : CT} {p1 : Int32} {K : Int32 → Prop} (C : Cx x cX0_falls tb_X0_falls 2 RX0 (Cond.code yX0_falls cX0_falls 2 (some .boolean) :: wsL_law) ({ frames := 2, cells := 0, slots := 0, locals := 48 } : Room)) (rt : RetZ x 0 0 (fun (u : Unit) => fl []) (fun (r : Int32) (_ : Unit) => K r)) (h : wp_X0_falls p1 K) : Wx x 2 0 0 (fl []) [(0, .int p1)] 0 [] := by
  unfold wp_X0_falls at h
  refine x_iload_n C 0 0 rfl 0 rfl rfl ?_
  refine x_iload_n C 1 1 rfl 0 rfl rfl ?_
  refine x_call0SI C 2 2 (c_X0_join (xl x) (xD x) (xk x) (xg x) p1 p1 _ h) rfl wwGood (mem3 wq_29_9 wq_21_7 wq_12_20) wq_21_8 2 ok_X0_join rfl ⟨by decide, by decide⟩ (Nat.le_of_ble_eq_true rfl) ⟨Nat.le_refl _, Nat.le_refl _⟩ ⟨rfl, rfl⟩ rfl (fun r1 _ h => ?_)
  refine x_istore_n (lv' := [(0, .int p1), (1, .int r1)]) C 3 5 rfl rfl (by decide) [1, 0] rfl ?_
  refine x_iload_n C 4 6 rfl 0 rfl rfl ?_
  refine x_call0SZ C 5 7 (c_X0_hasLessToItself (xl x) (xD x) (xk x) (xg x) p1 _ h) rfl wwGood (mem3 wq_29_10 wq_21_3 wq_12_20) wq_21_4 1 ok_X0_hasLessToItself rfl ⟨by decide, by decide⟩ (Nat.le_of_ble_eq_true rfl) ⟨Nat.le_refl _, Nat.le_refl _⟩ ⟨rfl, rfl⟩ rfl (fun r2 _ h => ?_)
  refine x_if_ne C 6 10 31 rfl rfl (fun c3 => ?_) (fun c3 => ?_)
  · replace h := h.2 c3
    refine x_iconst (v := (1 : Int32)) C 15 31 rfl (by decide) ?_
    refine x_goto C 16 32 36 rfl rfl ?_
    exact x_zret C rt 18 36 rfl zb_1 () rfl h
  · replace h := h.1 c3
    refine x_iload_n C 7 13 rfl 1 rfl rfl ?_
    refine x_call0SZ C 8 14 (c_X0_hasLessToItself (xl x) (xD x) (xk x) (xg x) r1 _ h) rfl wwGood (mem3 wq_29_10 wq_21_3 wq_12_20) wq_21_4 1 ok_X0_hasLessToItself rfl ⟨by decide, by decide⟩ (Nat.le_of_ble_eq_true rfl) ⟨Nat.le_refl _, Nat.le_refl _⟩ ⟨rfl, rfl⟩ rfl (fun r4 _ h => ?_)
    refine x_if_ne C 9 17 31 rfl rfl (fun c5 => ?_) (fun c5 => ?_)
    · replace h := h.2 c5
      refine x_iconst (v := (1 : Int32)) C 15 31 rfl (by decide) ?_
      refine x_goto C 16 32 36 rfl rfl ?_
      exact x_zret C rt 18 36 rfl zb_1 () rfl h
    · replace h := h.1 c5
      refine x_iload_n C 10 20 rfl 1 rfl rfl ?_
      refine x_iload_n C 11 21 rfl 0 rfl rfl ?_
      refine x_call0SI C 12 22 (c_X0_join (xl x) (xD x) (xk x) (xg x) r1 p1 _ h) rfl wwGood (mem3 wq_29_9 wq_21_7 wq_12_20) wq_21_8 2 ok_X0_join rfl ⟨by decide, by decide⟩ (Nat.le_of_ble_eq_true rfl) ⟨Nat.le_refl _, Nat.le_refl _⟩ ⟨rfl, rfl⟩ rfl (fun r6 _ h => ?_)
      refine x_call0SZ C 13 25 (c_X0_hasLessToItself (xl x) (xD x) (xk x) (xg x) r6 _ h) rfl wwGood (mem3 wq_29_10 wq_21_3 wq_12_20) wq_21_4 1 ok_X0_hasLessToItself rfl ⟨by decide, by decide⟩ (Nat.le_of_ble_eq_true rfl) ⟨Nat.le_refl _, Nat.le_refl _⟩ ⟨rfl, rfl⟩ rfl (fun r7 _ h => ?_)
      refine x_if_eq C 14 28 35 rfl rfl (fun c8 => ?_) (fun c8 => ?_)
      · replace h := h.1 c8
        refine x_iconst (v := (0 : Int32)) C 17 35 rfl (by decide) ?_
        exact x_zret C rt 18 36 rfl zb_0 () rfl h
      · replace h := h.2 c8
        refine x_iconst (v := (1 : Int32)) C 15 31 rfl (by decide) ?_
        refine x_goto C 16 32 36 rfl rfl ?_
        exact x_zret C rt 18 36 rfl zb_1 () rfl h
theorem c_X0_falls (l : Launch) (D : va_G) (k : ClassId × ClassId) (g : Nat → Nat) (p1 : Int32) (K : Int32 → Prop) (h : wp_X0_falls p1 K) : ConZ l yX0_falls (Cond.code yX0_falls cX0_falls 2 (some .boolean) :: wsL_law) ({ frames := 2, cells := 0, slots := 0, locals := 48 } : Room) D k g [.int p1] (fl []) (fun (u : Unit) => fl []) (fun (r : Int32) (_ : Unit) => K r) := by
  refine ConZ.of (tb := tb_X0_falls) (cc := cX0_falls) (nL := 2) (by decide) rfl tbk_X0_falls (Nat.le_of_ble_eq_true rfl) ?_
  intro x hl hD hk hg C rt
  subst hl hD hk hg
  exact w_X0_falls C rt h
