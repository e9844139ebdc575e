set_option maxHeartbeats 4000000 in
set_option maxRecDepth 100000 in
theorem w_X3_of {x : CT} {p1 : Int32} {p2 : Int32} {p3 : Int32} {K : Int32 → Prop} (C : Cx x cX3_of tb_X3_of 3 RX3 (Cond.code yX3_of cX3_of 3 (some .int) :: wsL_law) ({ frames := 0, cells := 0, slots := 0, locals := 0 } : Room)) (rt : RetI x 0 0 (fun (u : Unit) => fl []) (fun (r : Int32) (_ : Unit) => K r)) (h : wp_X3_of p1 p2 p3 K) : Wx x 3 0 0 (fl []) [(0, .int p1), (1, .int p2), (2, .int p3)] 0 [] := by
  unfold wp_X3_of at h
  refine x_iload_n C 0 0 rfl 0 rfl rfl ?_
  refine x_bipush (v := (20 : Int32)) C 1 1 rfl (by decide) ?_
  refine x_ishl C 2 3 rfl ?_
  refine x_iload_n C 3 4 rfl 1 rfl rfl ?_
  refine x_bipush (v := (18 : Int32)) C 4 5 rfl (by decide) ?_
  refine x_ishl C 5 7 rfl ?_
  refine x_ior C 6 8 rfl ?_
  refine x_iload_n C 7 9 rfl 2 rfl rfl ?_
  refine x_ior C 8 10 rfl ?_
  exact x_iret C rt 9 11 rfl () rfl h
theorem c_X3_of (l : Launch) (D : va_G) (k : ClassId × ClassId) (g : Nat → Nat) (p1 : Int32) (p2 : Int32) (p3 : Int32) (K : Int32 → Prop) (h : wp_X3_of p1 p2 p3 K) : ConI l yX3_of (Cond.code yX3_of cX3_of 3 (some .int) :: wsL_law) ({ frames := 0, cells := 0, slots := 0, locals := 0 } : Room) D k g [.int p1, .int p2, .int p3] (fl []) (fun (u : Unit) => fl []) (fun (r : Int32) (_ : Unit) => K r) := by
  refine ConI.of (tb := tb_X3_of) (cc := cX3_of) (nL := 3) (by decide) rfl tbk_X3_of (Nat.le_of_ble_eq_true rfl) ?_
  intro x hl hD hk hg C rt
  subst hl hD hk hg
  exact w_X3_of C rt h
set_option maxHeartbeats 4000000 in
set_option maxRecDepth 100000 in
theorem w_X3_from {x : CT} {p1 : Int32} {K : Int32 → Prop} (C : Cx x cX3_from tb_X3_from 1 RX3 (Cond.code yX3_from cX3_from 1 (some .int) :: wsL_law) ({ frames := 0, cells := 0, slots := 0, locals := 0 } : Room)) (rt : RetI x 0 0 (fun (u : Unit) => fl []) (fun (r : Int32) (_ : Unit) => K r)) (h : wp_X3_from p1 K) : Wx x 1 0 0 (fl []) [(0, .int p1)] 0 [] := by
  unfold wp_X3_from at h
  refine x_iload_n C 0 0 rfl 0 rfl rfl ?_
  refine x_bipush (v := (20 : Int32)) C 1 1 rfl (by decide) ?_
  refine x_ishr C 2 3 rfl ?_
  refine x_iconst (v := (3 : Int32)) C 3 4 rfl (by decide) ?_
  refine x_iand C 4 5 rfl ?_
  exact x_iret C rt 5 6 rfl () rfl h
theorem c_X3_from (l : Launch) (D : va_G) (k : ClassId × ClassId) (g : Nat → Nat) (p1 : Int32) (K : Int32 → Prop) (h : wp_X3_from p1 K) : ConI l yX3_from (Cond.code yX3_from cX3_from 1 (some .int) :: wsL_law) ({ frames := 0, cells := 0, slots := 0, locals := 0 } : Room) D k g [.int p1] (fl []) (fun (u : Unit) => fl []) (fun (r : Int32) (_ : Unit) => K r) := by
  refine ConI.of (tb := tb_X3_from) (cc := cX3_from) (nL := 1) (by decide) rfl tbk_X3_from (Nat.le_of_ble_eq_true rfl) ?_
  intro x hl hD hk hg C rt
  subst hl hD hk hg
  exact w_X3_from C rt h
set_option maxHeartbeats 4000000 in
set_option maxRecDepth 100000 in
theorem w_X3_to {x : CT} {p1 : Int32} {K : Int32 → Prop} (C : Cx x cX3_to tb_X3_to 1 RX3 (Cond.code yX3_to cX3_to 1 (some .int) :: wsL_law) ({ frames := 0, cells := 0, slots := 0, locals := 0 } : Room)) (rt : RetI x 0 0 (fun (u : Unit) => fl []) (fun (r : Int32) (_ : Unit) => K r)) (h : wp_X3_to p1 K) : Wx x 1 0 0 (fl []) [(0, .int p1)] 0 [] := by
  unfold wp_X3_to at h
  refine x_iload_n C 0 0 rfl 0 rfl rfl ?_
  refine x_bipush (v := (18 : Int32)) C 1 1 rfl (by decide) ?_
  refine x_ishr C 2 3 rfl ?_
  refine x_iconst (v := (3 : Int32)) C 3 4 rfl (by decide) ?_
  refine x_iand C 4 5 rfl ?_
  exact x_iret C rt 5 6 rfl () rfl h
theorem c_X3_to (l : Launch) (D : va_G) (k : ClassId × ClassId) (g : Nat → Nat) (p1 : Int32) (K : Int32 → Prop) (h : wp_X3_to p1 K) : ConI l yX3_to (Cond.code yX3_to cX3_to 1 (some .int) :: wsL_law) ({ frames := 0, cells := 0, slots := 0, locals := 0 } : Room) D k g [.int p1] (fl []) (fun (u : Unit) => fl []) (fun (r : Int32) (_ : Unit) => K r) := by
  refine ConI.of (tb := tb_X3_to) (cc := cX3_to) (nL := 1) (by decide) rfl tbk_X3_to (Nat.le_of_ble_eq_true rfl) ?_
  intro x hl hD hk hg C rt
  subst hl hD hk hg
  exact w_X3_to C rt h
set_option maxHeartbeats 4000000 in
set_option maxRecDepth 100000 in
theorem w_X3_isBad {x : CT} {p1 : Int32} {K : Int32 → Prop} (C : Cx x cX3_isBad tb_X3_isBad 2 RX3 (Cond.code yX3_isBad cX3_isBad 2 (some .boolean) :: wsL_law) ({ frames := 2, cells := 0, slots := 0, locals := 48 } : Room)) (rt : RetZ x 0 0 (fun (u : Unit) => fl []) (fun (r : Int32) (_ : Unit) => K r)) (h : wp_X3_isBad p1 K) : Wx x 2 0 0 (fl []) [(0, .int p1)] 0 [] := by
  unfold wp_X3_isBad at h
  refine x_iload_n C 0 0 rfl 0 rfl rfl ?_
  refine x_ldc (v := (262143 : Int32)) C 1 1 rfl (mc wq_20_19) ?_
  refine x_iand C 2 3 rfl ?_
  refine x_topi (fun y1 ey1 => ?_)
  replace h := h y1 ey1
  refine x_istore_n (lv' := [(0, .int p1), (1, .int y1)]) C 3 4 rfl rfl (by decide) [1, 0] rfl ?_
  refine x_iload_n C 4 5 rfl 0 rfl rfl ?_
  refine x_call0SI C 5 6 (c_X3_from (xl x) (xD x) (xk x) (xg x) p1 _ h) rfl wwGood (mem3 wq_20_20 wq_20_21 wq_20_5) wq_20_22 1 ok_X3_from rfl ⟨by decide, by decide⟩ (Nat.le_of_ble_eq_true rfl) ⟨Nat.le_refl _, Nat.le_refl _⟩ ⟨rfl, rfl⟩ rfl (fun r2 _ h => ?_)
  refine x_iload_n C 6 9 rfl 0 rfl rfl ?_
  refine x_call0SI C 7 10 (c_X3_to (xl x) (xD x) (xk x) (xg x) p1 _ h) rfl wwGood (mem3 wq_20_23 wq_21_0 wq_20_5) wq_21_1 1 ok_X3_to rfl ⟨by decide, by decide⟩ (Nat.le_of_ble_eq_true rfl) ⟨Nat.le_refl _, Nat.le_refl _⟩ ⟨rfl, rfl⟩ rfl (fun r3 _ h => ?_)
  refine x_icmp_ne C 8 13 36 rfl rfl (fun c4 => ?_) (fun c4 => ?_)
  · replace h := h.2 c4
    refine x_iconst (v := (0 : Int32)) C 19 36 rfl (by decide) ?_
    exact x_zret C rt 20 37 rfl zb_0 () rfl h
  · replace h := h.1 c4
    refine x_iload_n C 9 16 rfl 1 rfl rfl ?_
    refine x_call0SZ C 10 17 (c_X0_hasLessToItself (xl x) (xD x) (xk x) (xg x) y1 _ h) rfl wwGood (mem3 wq_21_2 wq_21_3 wq_12_20) wq_21_4 1 ok_X0_hasLessToItself rfl ⟨by decide, by decide⟩ (Nat.le_of_ble_eq_true rfl) ⟨Nat.le_refl _, Nat.le_refl _⟩ ⟨rfl, rfl⟩ rfl (fun r5 _ h => ?_)
    refine x_if_ne C 11 20 36 rfl rfl (fun c6 => ?_) (fun c6 => ?_)
    · replace h := h.2 c6
      refine x_iconst (v := (0 : Int32)) C 19 36 rfl (by decide) ?_
      exact x_zret C rt 20 37 rfl zb_0 () rfl h
    · replace h := h.1 c6
      refine x_iload_n C 12 23 rfl 1 rfl rfl ?_
      refine x_iload_n C 13 24 rfl 1 rfl rfl ?_
      refine x_call0SI C 14 25 (c_X0_join (xl x) (xD x) (xk x) (xg x) y1 y1 _ h) rfl wwGood (mem3 wq_21_6 wq_21_7 wq_12_20) wq_21_8 2 ok_X0_join rfl ⟨by decide, by decide⟩ (Nat.le_of_ble_eq_true rfl) ⟨Nat.le_refl _, Nat.le_refl _⟩ ⟨rfl, rfl⟩ rfl (fun r7 _ h => ?_)
      refine x_iload_n C 15 28 rfl 1 rfl rfl ?_
      refine x_icmp_ne C 16 29 36 rfl rfl (fun c8 => ?_) (fun c8 => ?_)
      · replace h := h.2 c8
        refine x_iconst (v := (0 : Int32)) C 19 36 rfl (by decide) ?_
        exact x_zret C rt 20 37 rfl zb_0 () rfl h
      · replace h := h.1 c8
        refine x_iconst (v := (1 : Int32)) C 17 32 rfl (by decide) ?_
        refine x_goto C 18 33 37 rfl rfl ?_
        exact x_zret C rt 20 37 rfl zb_1 () rfl h
theorem c_X3_isBad (l : Launch) (D : va_G) (k : ClassId × ClassId) (g : Nat → Nat) (p1 : Int32) (K : Int32 → Prop) (h : wp_X3_isBad p1 K) : ConZ l yX3_isBad (Cond.code yX3_isBad cX3_isBad 2 (some .boolean) :: wsL_law) ({ frames := 2, cells := 0, slots := 0, locals := 48 } : Room) D k g [.int p1] (fl []) (fun (u : Unit) => fl []) (fun (r : Int32) (_ : Unit) => K r) := by
  refine ConZ.of (tb := tb_X3_isBad) (cc := cX3_isBad) (nL := 2) (by decide) rfl tbk_X3_isBad (Nat.le_of_ble_eq_true rfl) ?_
  intro x hl hD hk hg C rt
  subst hl hD hk hg
  exact w_X3_isBad C rt h
set_option maxHeartbeats 4000000 in
set_option maxRecDepth 100000 in
theorem w_X3_arcs {x : CT} {p1 : Int32} {K : Int32 → Prop} (C : Cx x cX3_arcs tb_X3_arcs 1 RX3 (Cond.code yX3_arcs cX3_arcs 1 (some .int) :: wsL_law) ({ frames := 0, cells := 0, slots := 0, locals := 0 } : Room)) (rt : RetI x 0 0 (fun (u : Unit) => fl []) (fun (r : Int32) (_ : Unit) => K r)) (h : wp_X3_arcs p1 K) : Wx x 1 0 0 (fl []) [(0, .int p1)] 0 [] := by
  unfold wp_X3_arcs at h
  refine x_iload_n C 0 0 rfl 0 rfl rfl ?_
  refine x_ldc (v := (262143 : Int32)) C 1 1 rfl (mc wq_20_19) ?_
  refine x_iand C 2 3 rfl ?_
  exact x_iret C rt 3 4 rfl () rfl h
theorem c_X3_arcs (l : Launch) (D : va_G) (k : ClassId × ClassId) (g : Nat → Nat) (p1 : Int32) (K : Int32 → Prop) (h : wp_X3_arcs p1 K) : ConI l yX3_arcs (Cond.code yX3_arcs cX3_arcs 1 (some .int) :: wsL_law) ({ frames := 0, cells := 0, slots := 0, locals := 0 } : Room) D k g [.int p1] (fl []) (fun (u : Unit) => fl []) (fun (r : Int32) (_ : Unit) => K r) := by
  refine ConI.of (tb := tb_X3_arcs) (cc := cX3_arcs) (nL := 1) (by decide) rfl tbk_X3_arcs (Nat.le_of_ble_eq_true rfl) ?_
  intro x hl hD hk hg C rt
  subst hl hD hk hg
  exact w_X3_arcs C rt h
set_option maxHeartbeats 4000000 in
set_option maxRecDepth 100000 in
theorem w_X3_isRound {x : CT} {p1 : Int32} {K : Int32 → Prop} (C : Cx x cX3_isRound tb_X3_isRound 2 RX3 (Cond.code yX3_isRound cX3_isRound 2 (some .boolean) :: wsL_law) ({ frames := 2, cells := 0, slots := 0, locals := 48 } : Room)) (rt : RetZ x 0 0 (fun (u : Unit) => fl []) (fun (r : Int32) (_ : Unit) => K r)) (h : wp_X3_isRound p1 K) : Wx x 2 0 0 (fl []) [(0, .int p1)] 0 [] := by
  unfold wp_X3_isRound at h
  refine x_iload_n C 0 0 rfl 0 rfl rfl ?_
  refine x_ldc (v := (262143 : Int32)) C 1 1 rfl (mc wq_20_19) ?_
  refine x_iand C 2 3 rfl ?_
  refine x_topi (fun y1 ey1 => ?_)
  replace h := h y1 ey1
  refine x_istore_n (lv' := [(0, .int p1), (1, .int y1)]) C 3 4 rfl rfl (by decide) [1, 0] rfl ?_
  refine x_iload_n C 4 5 rfl 0 rfl rfl ?_
  refine x_call0SI C 5 6 (c_X3_from (xl x) (xD x) (xk x) (xg x) p1 _ h) rfl wwGood (mem3 wq_20_20 wq_20_21 wq_20_5) wq_20_22 1 ok_X3_from rfl ⟨by decide, by decide⟩ (Nat.le_of_ble_eq_true rfl) ⟨Nat.le_refl _, Nat.le_refl _⟩ ⟨rfl, rfl⟩ rfl (fun r2 _ h => ?_)
  refine x_iload_n C 6 9 rfl 0 rfl rfl ?_
  refine x_call0SI C 7 10 (c_X3_to (xl x) (xD x) (xk x) (xg x) p1 _ h) rfl wwGood (mem3 wq_20_23 wq_21_0 wq_20_5) wq_21_1 1 ok_X3_to rfl ⟨by decide, by decide⟩ (Nat.le_of_ble_eq_true rfl) ⟨Nat.le_refl _, Nat.le_refl _⟩ ⟨rfl, rfl⟩ rfl (fun r3 _ h => ?_)
  refine x_icmp_ne C 8 13 29 rfl rfl (fun c4 => ?_) (fun c4 => ?_)
  · replace h := h.2 c4
    refine x_iconst (v := (0 : Int32)) C 16 29 rfl (by decide) ?_
    exact x_zret C rt 17 30 rfl zb_0 () rfl h
  · replace h := h.1 c4
    refine x_iload_n C 9 16 rfl 1 rfl rfl ?_
    refine x_iload_n C 10 17 rfl 1 rfl rfl ?_
    refine x_call0SI C 11 18 (c_X0_join (xl x) (xD x) (xk x) (xg x) y1 y1 _ h) rfl wwGood (mem3 wq_21_6 wq_21_7 wq_12_20) wq_21_8 2 ok_X0_join rfl ⟨by decide, by decide⟩ (Nat.le_of_ble_eq_true rfl) ⟨Nat.le_refl _, Nat.le_refl _⟩ ⟨rfl, rfl⟩ rfl (fun r5 _ h => ?_)
    refine x_iload_n C 12 21 rfl 1 rfl rfl ?_
    refine x_icmp_ne C 13 22 29 rfl rfl (fun c6 => ?_) (fun c6 => ?_)
    · replace h := h.2 c6
      refine x_iconst (v := (0 : Int32)) C 16 29 rfl (by decide) ?_
      exact x_zret C rt 17 30 rfl zb_0 () rfl h
    · replace h := h.1 c6
      refine x_iconst (v := (1 : Int32)) C 14 25 rfl (by decide) ?_
      refine x_goto C 15 26 30 rfl rfl ?_
      exact x_zret C rt 17 30 rfl zb_1 () rfl h
theorem c_X3_isRound (l : Launch) (D : va_G) (k : ClassId × ClassId) (g : Nat → Nat) (p1 : Int32) (K : Int32 → Prop) (h : wp_X3_isRound p1 K) : ConZ l yX3_isRound (Cond.code yX3_isRound cX3_isRound 2 (some .boolean) :: wsL_law) ({ frames := 2, cells := 0, slots := 0, locals := 48 } : Room) D k g [.int p1] (fl []) (fun (u : Unit) => fl []) (fun (r : Int32) (_ : Unit) => K r) := by
  refine ConZ.of (tb := tb_X3_isRound) (cc := cX3_isRound) (nL := 2) (by decide) rfl tbk_X3_isRound (Nat.le_of_ble_eq_true rfl) ?_
  intro x hl hD hk hg C rt
  subst hl hD hk hg
  exact w_X3_isRound C rt h
