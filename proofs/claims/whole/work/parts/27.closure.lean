set_option maxHeartbeats 4000000 in
set_option maxRecDepth 100000 in
theorem w_X2_prepare_13 {x : CT} {aK : Nat → Nat} {x1 : Int32} {x2 : Int32} {K : St → Prop} (C : Cx x cX2_prepare tb_X2_prepare 4 RX2 (Cond.code yX2_prepare cX2_prepare 4 none :: wsL_law) ({ frames := 1, cells := 0, slots := 0, locals := 25 } : Room)) (rt : RetV x 0 0 (fun (u : St) => fl [wdK (xk x) aK u]) (fun (u : St) => K u))  {q2 : Int32 × St} (h : Lp (F_X2_prepare_13 x1 x2 K) q2) : Wx x 4 0 0 (fl [wdK (xk x) aK q2.2]) [(0, .ref (aK 0)), (1, .int x1), (2, .int x2), (3, .int q2.1)] 13 [] := by
  refine lp_walk (P := fun q2 => Wx x 4 0 0 (fl [wdK (xk x) aK q2.2]) [(0, .ref (aK 0)), (1, .int x1), (2, .int x2), (3, .int q2.1)] 13 []) (fun q2 R13 hR13 h => ?_) h
  refine x_iload_n C 9 13 rfl 3 rfl rfl ?_
  refine x_bipush (v := (63 : Int32)) C 10 14 rfl (by decide) ?_
  refine x_icmp_gt C 11 16 52 rfl rfl (fun c3 => ?_) (fun c3 => ?_)
  · replace h := h.1 c3
    refine x_aload_n C 33 52 rfl 0 rfl rfl ?_
    refine x_get (v := .ref (aK 7)) C 34 53 rfl fi_X2 0 rfl rfl 6 (by decide) (mc wq_3_21) rfl ?_
    refine x_iload_n C 35 56 rfl 1 rfl rfl ?_
    refine x_iload_n C 36 57 rfl 2 rfl rfl ?_
    obtain ⟨hi, h⟩ := h
    obtain ⟨z4, ez4⟩ : ∃ z : St, z = ua q2.2 6 x1 x2 := ⟨_, rfl⟩
    replace h := h z4 ez4
    refine x_iast (f := q2.2 6) (ws' := fl [wdK (xk x) aK z4]) C 37 58 rfl 7 rfl hi (by rw [ez4]; rfl) ?_
    exact x_vret C rt 38 59 rfl z4 rfl h
  · replace h := h.2 c3
    refine x_iload_n C 12 19 rfl 3 rfl rfl ?_
    refine x_iload_n C 13 20 rfl 3 rfl rfl ?_
    refine x_iconst (v := (1 : Int32)) C 14 21 rfl (by decide) ?_
    refine x_ishr C 15 22 rfl ?_
    refine x_iand C 16 23 rfl ?_
    refine x_bipush (v := (21 : Int32)) C 17 24 rfl (by decide) ?_
    refine x_iand C 18 26 rfl ?_
    refine x_if_ne C 19 27 46 rfl rfl (fun c5 => ?_) (fun c5 => ?_)
    · replace h := h.2 c5
      obtain ⟨y6, ey6⟩ : ∃ y : Int32, y = q2.1 + (1 : Int32) := ⟨_, rfl⟩
      replace h := h y6 ey6
      refine x_iinc (v := y6) (lv' := [(0, .ref (aK 0)), (1, .int x1), (2, .int x2), (3, .int y6)]) C 31 46 rfl 3 rfl (by rw [ey6]; rfl) (by decide) [1, 2, 3, 0] rfl ?_
      refine x_goto C 32 49 13 rfl rfl ?_
      exact x_sub [0, 1, 2, 3] rfl (hR13 (y6, q2.2) h)
    · replace h := h.1 c5
      refine x_aload_n C 20 30 rfl 0 rfl rfl ?_
      refine x_get (v := .ref (aK 6)) C 21 31 rfl fi_X2 0 rfl rfl 5 (by decide) (mc wq_3_20) rfl ?_
      refine x_iload_n C 22 34 rfl 1 rfl rfl ?_
      refine x_bipush (v := (64 : Int32)) C 23 35 rfl (by decide) ?_
      refine x_imul C 24 37 rfl ?_
      refine x_iload_n C 25 38 rfl 3 rfl rfl ?_
      refine x_iadd C 26 39 rfl ?_
      refine x_iload_n C 27 40 rfl 3 rfl rfl ?_
      refine x_iload_n C 28 41 rfl 2 rfl rfl ?_
      refine x_call0SI C 29 42 (c_X0_joinRow (xl x) (xD x) (xk x) (xg x) q2.1 x2 _ h) rfl wwGood (mem3 wq_20_0 wq_20_1 wq_12_20) wq_20_2 2 ok_X0_joinRow rfl ⟨by decide, by decide⟩ (Nat.le_of_ble_eq_true rfl) ⟨Nat.le_refl _, Nat.le_refl _⟩ ⟨rfl, rfl⟩ rfl (fun r7 _ h => ?_)
      obtain ⟨hi, h⟩ := h
      obtain ⟨z8, ez8⟩ : ∃ z : St, z = ua q2.2 5 ((x1 * (64 : Int32)) + q2.1) r7 := ⟨_, rfl⟩
      replace h := h z8 ez8
      refine x_iast (f := q2.2 5) (ws' := fl [wdK (xk x) aK z8]) C 30 45 rfl 6 rfl hi (by rw [ez8]; rfl) ?_
      obtain ⟨y9, ey9⟩ : ∃ y : Int32, y = q2.1 + (1 : Int32) := ⟨_, rfl⟩
      replace h := h y9 ey9
      refine x_iinc (v := y9) (lv' := [(0, .ref (aK 0)), (1, .int x1), (2, .int x2), (3, .int y9)]) C 31 46 rfl 3 rfl (by rw [ey9]; rfl) (by decide) [1, 2, 3, 0] rfl ?_
      refine x_goto C 32 49 13 rfl rfl ?_
      exact x_sub [0, 1, 2, 3] rfl (hR13 (y9, z8) h)
set_option maxHeartbeats 4000000 in
set_option maxRecDepth 100000 in
theorem w_X2_prepare {x : CT} {aK : Nat → Nat} {sK : St} {p1 : Int32} {p2 : Int32} {K : St → Prop} (C : Cx x cX2_prepare tb_X2_prepare 4 RX2 (Cond.code yX2_prepare cX2_prepare 4 none :: wsL_law) ({ frames := 1, cells := 0, slots := 0, locals := 25 } : Room)) (rt : RetV x 0 0 (fun (u : St) => fl [wdK (xk x) aK u]) (fun (u : St) => K u)) (h : wp_X2_prepare sK p1 p2 K) : Wx x 4 0 0 (fl [wdK (xk x) aK sK]) [(0, .ref (aK 0)), (1, .int p1), (2, .int p2)] 0 [] := by
  unfold wp_X2_prepare at h
  refine x_aload_n C 0 0 rfl 0 rfl rfl ?_
  refine x_get (v := .ref (aK 7)) C 1 1 rfl fi_X2 0 rfl rfl 6 (by decide) (mc wq_3_21) rfl ?_
  refine x_iload_n C 2 4 rfl 1 rfl rfl ?_
  obtain ⟨hi, h⟩ := h
  refine x_iald (f := sK 6) C 3 5 rfl 7 rfl hi ?_
  refine x_iload_n C 4 6 rfl 2 rfl rfl ?_
  refine x_icmp_ne C 5 7 11 rfl rfl (fun c1 => ?_) (fun c1 => ?_)
  · replace h := h.2 c1
    refine x_iconst (v := (0 : Int32)) C 7 11 rfl (by decide) ?_
    refine x_istore_n (lv' := [(0, .ref (aK 0)), (1, .int p1), (2, .int p2), (3, .int (0 : Int32))]) C 8 12 rfl rfl (by decide) [1, 2, 3, 0] rfl ?_
    refine x_sub (lv' := [(0, .ref (aK 0)), (1, .int p1), (2, .int p2), (3, .int (0 : Int32))]) [0, 1, 2, 3] rfl (w_X2_prepare_13 C rt h)
  · replace h := h.1 c1
    exact x_vret C rt 6 10 rfl sK rfl h
theorem c_X2_prepare (l : Launch) (D : va_G) (k : ClassId × ClassId) (g : Nat → Nat) (aK : Nat → Nat) (sK : St) (p1 : Int32) (p2 : Int32) (K : St → Prop) (h : wp_X2_prepare sK p1 p2 K) : ConV l yX2_prepare (Cond.code yX2_prepare cX2_prepare 4 none :: wsL_law) ({ frames := 1, cells := 0, slots := 0, locals := 25 } : Room) D k g [.ref (aK 0), .int p1, .int p2] (fl [wdK k aK sK]) (fun (u : St) => fl [wdK k aK u]) (fun (u : St) => K u) := by
  refine ConV.of (tb := tb_X2_prepare) (cc := cX2_prepare) (nL := 4) (by decide) rfl tbk_X2_prepare (Nat.le_of_ble_eq_true rfl) ?_
  intro x hl hD hk hg C rt
  subst hl hD hk hg
  exact w_X2_prepare C rt h
set_option maxHeartbeats 4000000 in
set_option maxRecDepth 100000 in
theorem w_X2_freeSlotFor_10 {x : CT} {aK : Nat → Nat} {sK : St} {x1 : Int32} {x2 : Int32} {K : Int32 → Prop} (C : Cx x cX2_freeSlotFor tb_X2_freeSlotFor 5 RX2 (Cond.code yX2_freeSlotFor cX2_freeSlotFor 5 (some .int) :: wsL_law) ({ frames := 0, cells := 0, slots := 0, locals := 0 } : Room)) (rt : RetI x 0 0 (fun (u : Unit) => fl [wdK (xk x) aK sK]) (fun (r : Int32) (_ : Unit) => K r))  {q2 : Int32} (h : Lp (F_X2_freeSlotFor_10 sK x1 x2 K) q2) : Wx x 5 0 0 (fl [wdK (xk x) aK sK]) [(0, .ref (aK 0)), (1, .int x1), (2, .int x2), (3, .int q2)] 10 [] := by
  refine lp_walk (P := fun q2 => Wx x 5 0 0 (fl [wdK (xk x) aK sK]) [(0, .ref (aK 0)), (1, .int x1), (2, .int x2), (3, .int q2)] 10 []) (fun q2 R10 hR10 h => ?_) h
  refine x_iload_n C 8 10 rfl 3 rfl rfl ?_
  refine x_sipush (v := (2048 : Int32)) C 9 11 rfl (by decide) ?_
  refine x_icmp_ge C 10 14 60 rfl rfl (fun c3 => ?_) (fun c3 => ?_)
  · replace h := h.1 c3
    refine x_iconst (v := (-1 : Int32)) C 36 60 rfl (by decide) ?_
    exact x_iret C rt 37 61 rfl () rfl h
  · replace h := h.2 c3
    refine x_iload_n C 11 17 rfl 2 rfl rfl ?_
    refine x_iload_n C 12 18 rfl 3 rfl rfl ?_
    refine x_iadd C 13 19 rfl ?_
    refine x_sipush (v := (2047 : Int32)) C 14 20 rfl (by decide) ?_
    refine x_iand C 15 23 rfl ?_
    refine x_topi (fun y4 ey4 => ?_)
    replace h := h y4 ey4
    refine x_istore (lv' := [(0, .ref (aK 0)), (1, .int x1), (2, .int x2), (3, .int q2), (4, .int y4)]) C 16 24 rfl (by decide) [1, 2, 3, 4, 0] rfl ?_
    refine x_aload_n C 17 26 rfl 0 rfl rfl ?_
    refine x_get (v := .ref (aK 4)) C 18 27 rfl fi_X2 0 rfl rfl 3 (by decide) (mc wq_3_18) rfl ?_
    refine x_iload C 19 30 rfl 4 rfl ?_
    obtain ⟨hi, h⟩ := h
    refine x_iald (f := sK 3) C 20 32 rfl 4 rfl hi ?_
    refine x_if_ne C 21 33 39 rfl rfl (fun c5 => ?_) (fun c5 => ?_)
    · replace h := h.2 c5
      refine x_aload_n C 24 39 rfl 0 rfl rfl ?_
      refine x_get (v := .ref (aK 4)) C 25 40 rfl fi_X2 0 rfl rfl 3 (by decide) (mc wq_3_18) rfl ?_
      refine x_iload C 26 43 rfl 4 rfl ?_
      obtain ⟨hi, h⟩ := h
      refine x_iald (f := sK 3) C 27 45 rfl 4 rfl hi ?_
      refine x_iload_n C 28 46 rfl 1 rfl rfl ?_
      refine x_iconst (v := (1 : Int32)) C 29 47 rfl (by decide) ?_
      refine x_iadd C 30 48 rfl ?_
      refine x_icmp_ne C 31 49 54 rfl rfl (fun c6 => ?_) (fun c6 => ?_)
      · replace h := h.2 c6
        obtain ⟨y7, ey7⟩ : ∃ y : Int32, y = q2 + (1 : Int32) := ⟨_, rfl⟩
        replace h := h y7 ey7
        refine x_iinc (v := y7) (lv' := [(0, .ref (aK 0)), (1, .int x1), (2, .int x2), (3, .int y7)]) C 34 54 rfl 3 rfl (by rw [ey7]; rfl) (by decide) [1, 2, 3, 0] rfl ?_
        refine x_goto C 35 57 10 rfl rfl ?_
        exact x_sub [0, 1, 2, 3] rfl (hR10 y7 h)
      · replace h := h.1 c6
        refine x_iconst (v := (-1 : Int32)) C 32 52 rfl (by decide) ?_
        exact x_iret C rt 33 53 rfl () rfl h
    · replace h := h.1 c5
      refine x_iload C 22 36 rfl 4 rfl ?_
      exact x_iret C rt 23 38 rfl () rfl h
set_option maxHeartbeats 4000000 in
set_option maxRecDepth 100000 in
theorem w_X2_freeSlotFor {x : CT} {aK : Nat → Nat} {sK : St} {p1 : Int32} {K : Int32 → Prop} (C : Cx x cX2_freeSlotFor tb_X2_freeSlotFor 5 RX2 (Cond.code yX2_freeSlotFor cX2_freeSlotFor 5 (some .int) :: wsL_law) ({ frames := 0, cells := 0, slots := 0, locals := 0 } : Room)) (rt : RetI x 0 0 (fun (u : Unit) => fl [wdK (xk x) aK sK]) (fun (r : Int32) (_ : Unit) => K r)) (h : wp_X2_freeSlotFor sK p1 K) : Wx x 5 0 0 (fl [wdK (xk x) aK sK]) [(0, .ref (aK 0)), (1, .int p1)] 0 [] := by
  unfold wp_X2_freeSlotFor at h
  refine x_iload_n C 0 0 rfl 1 rfl rfl ?_
  refine x_ldc (v := (-1640531535 : Int32)) C 1 1 rfl (mc wq_20_15) ?_
  refine x_imul C 2 3 rfl ?_
  refine x_bipush (v := (21 : Int32)) C 3 4 rfl (by decide) ?_
  refine x_iushr C 4 6 rfl ?_
  refine x_topi (fun y1 ey1 => ?_)
  replace h := h y1 ey1
  refine x_istore_n (lv' := [(0, .ref (aK 0)), (1, .int p1), (2, .int y1)]) C 5 7 rfl rfl (by decide) [1, 2, 0] rfl ?_
  refine x_iconst (v := (0 : Int32)) C 6 8 rfl (by decide) ?_
  refine x_istore_n (lv' := [(0, .ref (aK 0)), (1, .int p1), (2, .int y1), (3, .int (0 : Int32))]) C 7 9 rfl rfl (by decide) [1, 2, 3, 0] rfl ?_
  refine x_sub (lv' := [(0, .ref (aK 0)), (1, .int p1), (2, .int y1), (3, .int (0 : Int32))]) [0, 1, 2, 3] rfl (w_X2_freeSlotFor_10 C rt h)
theorem c_X2_freeSlotFor (l : Launch) (D : va_G) (k : ClassId × ClassId) (g : Nat → Nat) (aK : Nat → Nat) (sK : St) (p1 : Int32) (K : Int32 → Prop) (h : wp_X2_freeSlotFor sK p1 K) : ConI l yX2_freeSlotFor (Cond.code yX2_freeSlotFor cX2_freeSlotFor 5 (some .int) :: wsL_law) ({ frames := 0, cells := 0, slots := 0, locals := 0 } : Room) D k g [.ref (aK 0), .int p1] (fl [wdK k aK sK]) (fun (u : Unit) => fl [wdK k aK sK]) (fun (r : Int32) (_ : Unit) => K r) := by
  refine ConI.of (tb := tb_X2_freeSlotFor) (cc := cX2_freeSlotFor) (nL := 5) (by decide) rfl tbk_X2_freeSlotFor (Nat.le_of_ble_eq_true rfl) ?_
  intro x hl hD hk hg C rt
  subst hl hD hk hg
  exact w_X2_freeSlotFor C rt h
set_option maxHeartbeats 4000000 in
set_option maxRecDepth 100000 in
theorem w_X2_add {x : CT} {aK : Nat → Nat} {sK : St} {p1 : Int32} {p2 : Int32} {p3 : Int32} {K : St → Prop} (C : Cx x cX2_add tb_X2_add 5 RX2 (Cond.code yX2_add cX2_add 5 none :: wsL_law) ({ frames := 1, cells := 0, slots := 0, locals := 24 } : Room)) (rt : RetV x 0 0 (fun (u : St) => fl [wdK (xk x) aK u]) (fun (u : St) => K u)) (h : wp_X2_add sK p1 p2 p3 K) : Wx x 5 0 0 (fl [wdK (xk x) aK sK]) [(0, .ref (aK 0)), (1, .int p1), (2, .int p2), (3, .int p3)] 0 [] := by
  unfold wp_X2_add at h
  refine x_aload_n C 0 0 rfl 0 rfl rfl ?_
  refine x_iload_n C 1 1 rfl 1 rfl rfl ?_
  refine x_callWVI (ci := 1) (q0 := 0) (q := (RX2, TX2, 12)) C 2 2 (c_X2_freeSlotFor (xl x) (xD x) (xk x) (xg x) aK sK p1 _ h) rfl wwGood (mem4 wq_20_11 wq_20_12 wq_20_13 wq_2_4) wq_20_14 1 ok_X2_freeSlotFor rfl ⟨by decide, by decide⟩ (Nat.le_of_ble_eq_true rfl) ⟨Nat.le_refl _, Nat.le_refl _⟩ ⟨rfl, rfl⟩ rfl rfl rfl (fun r1 _ h => ?_)
  refine x_istore (lv' := [(0, .ref (aK 0)), (1, .int p1), (2, .int p2), (3, .int p3), (4, .int r1)]) C 3 5 rfl (by decide) [1, 2, 3, 4, 0] rfl ?_
  refine x_iload C 4 7 rfl 4 rfl ?_
  refine x_if_ge C 5 9 13 rfl rfl (fun c2 => ?_) (fun c2 => ?_)
  · replace h := h.1 c2
    refine x_aload_n C 7 13 rfl 0 rfl rfl ?_
    refine x_get (v := .int (sK 7 0)) C 8 14 rfl fi_X2 0 rfl rfl 7 (by decide) (mc wq_19_12) rfl ?_
    refine x_sipush (v := (1000 : Int32)) C 9 17 rfl (by decide) ?_
    refine x_icmp_lt C 10 20 29 rfl rfl (fun c3 => ?_) (fun c3 => ?_)
    · replace h := h.1 c3
      refine x_aload_n C 15 29 rfl 0 rfl rfl ?_
      refine x_get (v := .ref (aK 4)) C 16 30 rfl fi_X2 0 rfl rfl 3 (by decide) (mc wq_3_18) rfl ?_
      refine x_iload C 17 33 rfl 4 rfl ?_
      refine x_iload_n C 18 35 rfl 1 rfl rfl ?_
      refine x_iconst (v := (1 : Int32)) C 19 36 rfl (by decide) ?_
      refine x_iadd C 20 37 rfl ?_
      obtain ⟨hi, h⟩ := h
      obtain ⟨z4, ez4⟩ : ∃ z : St, z = ua sK 3 r1 (p1 + (1 : Int32)) := ⟨_, rfl⟩
      replace h := h z4 ez4
      refine x_iast (f := sK 3) (ws' := fl [wdK (xk x) aK z4]) C 21 38 rfl 4 rfl hi (by rw [ez4]; rfl) ?_
      refine x_aload_n C 22 39 rfl 0 rfl rfl ?_
      refine x_get (v := .ref (aK 1)) C 23 40 rfl fi_X2 0 rfl rfl 0 (by decide) (mc wq_3_15) rfl ?_
      refine x_aload_n C 24 43 rfl 0 rfl rfl ?_
      refine x_get (v := .int (z4 7 0)) C 25 44 rfl fi_X2 0 rfl rfl 7 (by decide) (mc wq_19_12) rfl ?_
      refine x_iload_n C 26 47 rfl 1 rfl rfl ?_
      obtain ⟨hi, h⟩ := h
      obtain ⟨z5, ez5⟩ : ∃ z : St, z = ua z4 0 (z4 7 0) p1 := ⟨_, rfl⟩
      replace h := h z5 ez5
      refine x_iast (f := z4 0) (ws' := fl [wdK (xk x) aK z5]) C 27 48 rfl 1 rfl hi (by rw [ez5]; rfl) ?_
      refine x_aload_n C 28 49 rfl 0 rfl rfl ?_
      refine x_get (v := .ref (aK 2)) C 29 50 rfl fi_X2 0 rfl rfl 1 (by decide) (mc wq_3_16) rfl ?_
      refine x_aload_n C 30 53 rfl 0 rfl rfl ?_
      refine x_get (v := .int (z5 7 0)) C 31 54 rfl fi_X2 0 rfl rfl 7 (by decide) (mc wq_19_12) rfl ?_
      refine x_iload_n C 32 57 rfl 2 rfl rfl ?_
      obtain ⟨hi, h⟩ := h
      obtain ⟨z6, ez6⟩ : ∃ z : St, z = ua z5 1 (z5 7 0) p2 := ⟨_, rfl⟩
      replace h := h z6 ez6
      refine x_iast (f := z5 1) (ws' := fl [wdK (xk x) aK z6]) C 33 58 rfl 2 rfl hi (by rw [ez6]; rfl) ?_
      refine x_aload_n C 34 59 rfl 0 rfl rfl ?_
      refine x_get (v := .ref (aK 3)) C 35 60 rfl fi_X2 0 rfl rfl 2 (by decide) (mc wq_3_17) rfl ?_
      refine x_aload_n C 36 63 rfl 0 rfl rfl ?_
      refine x_get (v := .int (z6 7 0)) C 37 64 rfl fi_X2 0 rfl rfl 7 (by decide) (mc wq_19_12) rfl ?_
      refine x_iload_n C 38 67 rfl 3 rfl rfl ?_
      obtain ⟨hi, h⟩ := h
      obtain ⟨z7, ez7⟩ : ∃ z : St, z = ua z6 2 (z6 7 0) p3 := ⟨_, rfl⟩
      replace h := h z7 ez7
      refine x_iast (f := z6 2) (ws' := fl [wdK (xk x) aK z7]) C 39 68 rfl 3 rfl hi (by rw [ez7]; rfl) ?_
      refine x_aload_n C 40 69 rfl 0 rfl rfl ?_
      refine x_dup C 41 70 rfl rfl ?_
      refine x_get (v := .int (z7 7 0)) C 42 71 rfl fi_X2 0 rfl rfl 7 (by decide) (mc wq_19_12) rfl ?_
      refine x_iconst (v := (1 : Int32)) C 43 74 rfl (by decide) ?_
      refine x_iadd C 44 75 rfl ?_
      obtain ⟨z8, ez8⟩ : ∃ z : St, z = us z7 7 (z7 7 0 + (1 : Int32)) := ⟨_, rfl⟩
      replace h := h z8 ez8
      refine x_put (ws' := fl [wdK (xk x) aK z8]) C 45 76 rfl fi_X2 tyX2 tyX2_ok nmX2 0 rfl rfl 7 (by decide) (mc wq_19_12) rfl rfl rfl (Nat.le_of_ble_eq_true rfl) (by rw [ez8]; rfl) ?_
      exact x_vret C rt 46 79 rfl z8 rfl h
    · replace h := h.2 c3
      refine x_aload_n C 11 23 rfl 0 rfl rfl ?_
      refine x_iconst (v := (1 : Int32)) C 12 24 rfl (by decide) ?_
      obtain ⟨z9, ez9⟩ : ∃ z : St, z = us sK 8 (1 : Int32) := ⟨_, rfl⟩
      replace h := h z9 ez9
      refine x_put (ws' := fl [wdK (xk x) aK z9]) C 13 25 rfl fi_X2 tyX2 tyX2_ok nmX2 0 rfl rfl 8 (by decide) (mc wq_19_13) rfl (zb_n zb_1) (zb_f zb_1) (Nat.le_of_ble_eq_true rfl) (by rw [ez9]; rfl) ?_
      exact x_vret C rt 14 28 rfl z9 rfl h
  · replace h := h.2 c2
    exact x_vret C rt 6 12 rfl sK rfl h
theorem c_X2_add (l : Launch) (D : va_G) (k : ClassId × ClassId) (g : Nat → Nat) (aK : Nat → Nat) (sK : St) (p1 : Int32) (p2 : Int32) (p3 : Int32) (K : St → Prop) (h : wp_X2_add sK p1 p2 p3 K) : ConV l yX2_add (Cond.code yX2_add cX2_add 5 none :: wsL_law) ({ frames := 1, cells := 0, slots := 0, locals := 24 } : Room) D k g [.ref (aK 0), .int p1, .int p2, .int p3] (fl [wdK k aK sK]) (fun (u : St) => fl [wdK k aK u]) (fun (u : St) => K u) := by
  refine ConV.of (tb := tb_X2_add) (cc := cX2_add) (nL := 5) (by decide) rfl tbk_X2_add (Nat.le_of_ble_eq_true rfl) ?_
  intro x hl hD hk hg C rt
  subst hl hD hk hg
  exact w_X2_add C rt h
set_option maxHeartbeats 4000000 in
set_option maxRecDepth 100000 in
theorem w_X2_noteBad {x : CT} {aK : Nat → Nat} {sK : St} {p1 : Int32} {K : St → Prop} (C : Cx x cX2_noteBad tb_X2_noteBad 2 RX2 (Cond.code yX2_noteBad cX2_noteBad 2 none :: wsL_law) ({ frames := 1, cells := 0, slots := 0, locals := 20 } : Room)) (rt : RetV x 0 0 (fun (u : St) => fl [wdK (xk x) aK u]) (fun (u : St) => K u)) (h : wp_X2_noteBad sK p1 K) : Wx x 2 0 0 (fl [wdK (xk x) aK sK]) [(0, .ref (aK 0)), (1, .int p1)] 0 [] := by
  unfold wp_X2_noteBad at h
  refine x_aload_n C 0 0 rfl 0 rfl rfl ?_
  refine x_dup C 1 1 rfl rfl ?_
  refine x_get (v := .int (sK 11 0)) C 2 2 rfl fi_X2 0 rfl rfl 11 (by decide) (mc wq_19_15) rfl ?_
  refine x_iconst (v := (1 : Int32)) C 3 5 rfl (by decide) ?_
  refine x_aload_n C 4 6 rfl 0 rfl rfl ?_
  refine x_get (v := .ref (aK 1)) C 5 7 rfl fi_X2 0 rfl rfl 0 (by decide) (mc wq_3_15) rfl ?_
  refine x_iload_n C 6 10 rfl 1 rfl rfl ?_
  obtain ⟨hi, h⟩ := h
  refine x_iald (f := sK 0) C 7 11 rfl 1 rfl hi ?_
  refine x_call0SI C 8 12 (c_X3_from (xl x) (xD x) (xk x) (xg x) (sK 0 p1.toNatClampNeg) _ h) rfl wwGood (mem3 wq_21_17 wq_20_21 wq_20_5) wq_20_22 1 ok_X3_from rfl ⟨by decide, by decide⟩ (Nat.le_of_ble_eq_true rfl) ⟨Nat.le_refl _, Nat.le_refl _⟩ ⟨rfl, rfl⟩ rfl (fun r1 _ h => ?_)
  refine x_ishl C 9 15 rfl ?_
  refine x_ior C 10 16 rfl ?_
  obtain ⟨z2, ez2⟩ : ∃ z : St, z = us sK 11 (sK 11 0 ||| ((1 : Int32) <<< (r1 &&& 31))) := ⟨_, rfl⟩
  replace h := h z2 ez2
  refine x_put (ws' := fl [wdK (xk x) aK z2]) C 11 17 rfl fi_X2 tyX2 tyX2_ok nmX2 0 rfl rfl 11 (by decide) (mc wq_19_15) rfl rfl rfl (Nat.le_of_ble_eq_true rfl) (by rw [ez2]; rfl) ?_
  refine x_aload_n C 12 20 rfl 0 rfl rfl ?_
  refine x_get (v := .int (z2 10 0)) C 13 21 rfl fi_X2 0 rfl rfl 10 (by decide) (mc wq_3_22) rfl ?_
  refine x_if_ge C 14 24 32 rfl rfl (fun c3 => ?_) (fun c3 => ?_)
  · replace h := h.1 c3
    exact x_vret C rt 18 32 rfl z2 rfl h
  · replace h := h.2 c3
    refine x_aload_n C 15 27 rfl 0 rfl rfl ?_
    refine x_iload_n C 16 28 rfl 1 rfl rfl ?_
    obtain ⟨z4, ez4⟩ : ∃ z : St, z = us z2 10 p1 := ⟨_, rfl⟩
    replace h := h z4 ez4
    refine x_put (ws' := fl [wdK (xk x) aK z4]) C 17 29 rfl fi_X2 tyX2 tyX2_ok nmX2 0 rfl rfl 10 (by decide) (mc wq_3_22) rfl rfl rfl (Nat.le_of_ble_eq_true rfl) (by rw [ez4]; rfl) ?_
    exact x_vret C rt 18 32 rfl z4 rfl h
theorem c_X2_noteBad (l : Launch) (D : va_G) (k : ClassId × ClassId) (g : Nat → Nat) (aK : Nat → Nat) (sK : St) (p1 : Int32) (K : St → Prop) (h : wp_X2_noteBad sK p1 K) : ConV l yX2_noteBad (Cond.code yX2_noteBad cX2_noteBad 2 none :: wsL_law) ({ frames := 1, cells := 0, slots := 0, locals := 20 } : Room) D k g [.ref (aK 0), .int p1] (fl [wdK k aK sK]) (fun (u : St) => fl [wdK k aK u]) (fun (u : St) => K u) := by
  refine ConV.of (tb := tb_X2_noteBad) (cc := cX2_noteBad) (nL := 2) (by decide) rfl tbk_X2_noteBad (Nat.le_of_ble_eq_true rfl) ?_
  intro x hl hD hk hg C rt
  subst hl hD hk hg
  exact w_X2_noteBad C rt h
set_option maxHeartbeats 4000000 in
set_option maxRecDepth 100000 in
theorem w_X2_joinedWithCall {x : CT} {aK : Nat → Nat} {sK : St} {p1 : Int32} {p2 : Int32} {K : Int32 → Prop} (C : Cx x cX2_joinedWithCall tb_X2_joinedWithCall 4 RX2 (Cond.code yX2_joinedWithCall cX2_joinedWithCall 4 (some .int) :: wsL_law) ({ frames := 1, cells := 0, slots := 0, locals := 21 } : Room)) (rt : RetI x 0 0 (fun (u : Unit) => fl [wdK (xk x) aK sK]) (fun (r : Int32) (_ : Unit) => K r)) (h : wp_X2_joinedWithCall sK p1 p2 K) : Wx x 4 0 0 (fl [wdK (xk x) aK sK]) [(0, .ref (aK 0)), (1, .int p1), (2, .int p2)] 0 [] := by
  unfold wp_X2_joinedWithCall at h
  refine x_iload_n C 0 0 rfl 2 rfl rfl ?_
  refine x_bipush (v := (64 : Int32)) C 1 1 rfl (by decide) ?_
  refine x_imul C 2 3 rfl ?_
  refine x_topi (fun y1 ey1 => ?_)
  replace h := h y1 ey1
  refine x_istore_n (lv' := [(0, .ref (aK 0)), (1, .int p1), (3, .int y1)]) C 3 4 rfl rfl (by decide) [1, 2, 0] rfl ?_
  refine x_aload_n C 4 5 rfl 0 rfl rfl ?_
  refine x_get (v := .ref (aK 6)) C 5 6 rfl fi_X2 0 rfl rfl 5 (by decide) (mc wq_3_20) rfl ?_
  refine x_iload_n C 6 9 rfl 2 rfl rfl ?_
  refine x_iload_n C 7 10 rfl 1 rfl rfl ?_
  refine x_iconst (v := (0 : Int32)) C 8 11 rfl (by decide) ?_
  refine x_call0SI C 9 12 (c_X0_row (xl x) (xD x) (xk x) (xg x) p1 (0 : Int32) _ h) rfl wwGood (mem3 wq_22_3 wq_21_10 wq_12_20) wq_21_11 2 ok_X0_row rfl ⟨by decide, by decide⟩ (Nat.le_of_ble_eq_true rfl) ⟨Nat.le_refl _, Nat.le_refl _⟩ ⟨rfl, rfl⟩ rfl (fun r2 _ h => ?_)
  refine x_iadd C 10 15 rfl ?_
  obtain ⟨hi, h⟩ := h
  refine x_iald (f := sK 5) C 11 16 rfl 6 rfl hi ?_
  refine x_aload_n C 12 17 rfl 0 rfl rfl ?_
  refine x_get (v := .ref (aK 6)) C 13 18 rfl fi_X2 0 rfl rfl 5 (by decide) (mc wq_3_20) rfl ?_
  refine x_iload_n C 14 21 rfl 2 rfl rfl ?_
  refine x_iload_n C 15 22 rfl 1 rfl rfl ?_
  refine x_iconst (v := (1 : Int32)) C 16 23 rfl (by decide) ?_
  refine x_call0SI C 17 24 (c_X0_row (xl x) (xD x) (xk x) (xg x) p1 (1 : Int32) _ h) rfl wwGood (mem3 wq_22_3 wq_21_10 wq_12_20) wq_21_11 2 ok_X0_row rfl ⟨by decide, by decide⟩ (Nat.le_of_ble_eq_true rfl) ⟨Nat.le_refl _, Nat.le_refl _⟩ ⟨rfl, rfl⟩ rfl (fun r3 _ h => ?_)
  refine x_iadd C 18 27 rfl ?_
  obtain ⟨hi, h⟩ := h
  refine x_iald (f := sK 5) C 19 28 rfl 6 rfl hi ?_
  refine x_bipush (v := (6 : Int32)) C 20 29 rfl (by decide) ?_
  refine x_ishl C 21 31 rfl ?_
  refine x_ior C 22 32 rfl ?_
  refine x_aload_n C 23 33 rfl 0 rfl rfl ?_
  refine x_get (v := .ref (aK 6)) C 24 34 rfl fi_X2 0 rfl rfl 5 (by decide) (mc wq_3_20) rfl ?_
  refine x_iload_n C 25 37 rfl 2 rfl rfl ?_
  refine x_iload_n C 26 38 rfl 1 rfl rfl ?_
  refine x_iconst (v := (2 : Int32)) C 27 39 rfl (by decide) ?_
  refine x_call0SI C 28 40 (c_X0_row (xl x) (xD x) (xk x) (xg x) p1 (2 : Int32) _ h) rfl wwGood (mem3 wq_22_3 wq_21_10 wq_12_20) wq_21_11 2 ok_X0_row rfl ⟨by decide, by decide⟩ (Nat.le_of_ble_eq_true rfl) ⟨Nat.le_refl _, Nat.le_refl _⟩ ⟨rfl, rfl⟩ rfl (fun r4 _ h => ?_)
  refine x_iadd C 29 43 rfl ?_
  obtain ⟨hi, h⟩ := h
  refine x_iald (f := sK 5) C 30 44 rfl 6 rfl hi ?_
  refine x_bipush (v := (12 : Int32)) C 31 45 rfl (by decide) ?_
  refine x_ishl C 32 47 rfl ?_
  refine x_ior C 33 48 rfl ?_
  exact x_iret C rt 34 49 rfl () rfl h
theorem c_X2_joinedWithCall (l : Launch) (D : va_G) (k : ClassId × ClassId) (g : Nat → Nat) (aK : Nat → Nat) (sK : St) (p1 : Int32) (p2 : Int32) (K : Int32 → Prop) (h : wp_X2_joinedWithCall sK p1 p2 K) : ConI l yX2_joinedWithCall (Cond.code yX2_joinedWithCall cX2_joinedWithCall 4 (some .int) :: wsL_law) ({ frames := 1, cells := 0, slots := 0, locals := 21 } : Room) D k g [.ref (aK 0), .int p1, .int p2] (fl [wdK k aK sK]) (fun (u : Unit) => fl [wdK k aK sK]) (fun (r : Int32) (_ : Unit) => K r) := by
  refine ConI.of (tb := tb_X2_joinedWithCall) (cc := cX2_joinedWithCall) (nL := 4) (by decide) rfl tbk_X2_joinedWithCall (Nat.le_of_ble_eq_true rfl) ?_
  intro x hl hD hk hg C rt
  subst hl hD hk hg
  exact w_X2_joinedWithCall C rt h
set_option maxHeartbeats 4000000 in
set_option maxRecDepth 100000 in
theorem w_X2_goOnFrom_25 {x : CT} {aK aB : Nat → Nat} {sB : St} {x1 : Int32} {x3 : Int32} {x4 : Int32} {x5 : Int32} {x6 : Int32} {K : St → Prop} (C : Cx x cX2_goOnFrom tb_X2_goOnFrom 8 RX2 (Cond.code yX2_goOnFrom cX2_goOnFrom 8 none :: wsL_law) ({ frames := 2, cells := 0, slots := 0, locals := 48 } : Room)) (rt : RetV x 0 0 (fun (u : St) => fl [wdK (xk x) aK u, wdB (xk x) aB sB]) (fun (u : St) => K u))  {q4 : Int32 × St} (h : Lp (F_X2_goOnFrom_25 sB x1 x3 x4 x5 x6 K) q4) : Wx x 8 0 0 (fl [wdK (xk x) aK q4.2, wdB (xk x) aB sB]) [(0, .ref (aK 0)), (1, .int x1), (2, .ref (aB 0)), (3, .int x3), (4, .int x4), (5, .int x5), (6, .int x6), (7, .int q4.1)] 25 [] := by
  refine lp_walk (P := fun q4 => Wx x 8 0 0 (fl [wdK (xk x) aK q4.2, wdB (xk x) aB sB]) [(0, .ref (aK 0)), (1, .int x1), (2, .ref (aB 0)), (3, .int x3), (4, .int x4), (5, .int x5), (6, .int x6), (7, .int q4.1)] 25 []) (fun q4 R25 hR25 h => ?_) h
  refine x_iload C 13 25 rfl 7 rfl ?_
  refine x_aload_n C 14 27 rfl 2 rfl rfl ?_
  refine x_get (v := .int (sB 4 0)) C 15 28 rfl fi_X1 8 rfl rfl 4 (by decide) (mc wq_19_16) rfl ?_
  refine x_icmp_ge C 16 31 88 rfl rfl (fun c5 => ?_) (fun c5 => ?_)
  · replace h := h.1 c5
    exact x_vret C rt 45 88 rfl q4.2 rfl h
  · replace h := h.2 c5
    refine x_aload_n C 17 34 rfl 2 rfl rfl ?_
    refine x_get (v := .ref (aB 2)) C 18 35 rfl fi_X1 8 rfl rfl 1 (by decide) (mc wq_19_18) rfl ?_
    refine x_iload C 19 38 rfl 7 rfl ?_
    obtain ⟨hi, h⟩ := h
    refine x_iald (f := sB 1) C 20 40 rfl 10 rfl hi ?_
    refine x_iload C 21 41 rfl 6 rfl ?_
    refine x_icmp_ne C 22 43 82 rfl rfl (fun c6 => ?_) (fun c6 => ?_)
    · replace h := h.2 c6
      obtain ⟨y7, ey7⟩ : ∃ y : Int32, y = q4.1 + (1 : Int32) := ⟨_, rfl⟩
      replace h := h y7 ey7
      refine x_iinc (v := y7) (lv' := [(0, .ref (aK 0)), (1, .int x1), (2, .ref (aB 0)), (3, .int x3), (4, .int x4), (5, .int x5), (6, .int x6), (7, .int y7)]) C 43 82 rfl 7 rfl (by rw [ey7]; rfl) (by decide) [1, 2, 3, 4, 5, 6, 7, 0] rfl ?_
      refine x_goto C 44 85 25 rfl rfl ?_
      exact x_sub [0, 1, 2, 3, 4, 5, 6, 7] rfl (hR25 (y7, q4.2) h)
    · replace h := h.1 c6
      refine x_iload_n C 23 46 rfl 3 rfl rfl ?_
      refine x_iload C 24 47 rfl 7 rfl ?_
      refine x_ishr C 25 49 rfl ?_
      refine x_iconst (v := (1 : Int32)) C 26 50 rfl (by decide) ?_
      refine x_iand C 27 51 rfl ?_
      refine x_if_ne C 28 52 82 rfl rfl (fun c8 => ?_) (fun c8 => ?_)
      · replace h := h.2 c8
        obtain ⟨y9, ey9⟩ : ∃ y : Int32, y = q4.1 + (1 : Int32) := ⟨_, rfl⟩
        replace h := h y9 ey9
        refine x_iinc (v := y9) (lv' := [(0, .ref (aK 0)), (1, .int x1), (2, .ref (aB 0)), (3, .int x3), (4, .int x4), (5, .int x5), (6, .int x6), (7, .int y9)]) C 43 82 rfl 7 rfl (by rw [ey9]; rfl) (by decide) [1, 2, 3, 4, 5, 6, 7, 0] rfl ?_
        refine x_goto C 44 85 25 rfl rfl ?_
        exact x_sub [0, 1, 2, 3, 4, 5, 6, 7] rfl (hR25 (y9, q4.2) h)
      · replace h := h.1 c8
        refine x_aload_n C 29 55 rfl 0 rfl rfl ?_
        refine x_iload C 30 56 rfl 5 rfl ?_
        refine x_aload_n C 31 58 rfl 2 rfl rfl ?_
        refine x_get (v := .ref (aB 3)) C 32 59 rfl fi_X1 8 rfl rfl 2 (by decide) (mc wq_19_19) rfl ?_
        refine x_iload C 33 62 rfl 7 rfl ?_
        obtain ⟨hi, h⟩ := h
        refine x_iald (f := sB 2) C 34 64 rfl 11 rfl hi ?_
        refine x_aload_n C 35 65 rfl 0 rfl rfl ?_
        refine x_iload C 36 66 rfl 4 rfl ?_
        refine x_iload C 37 68 rfl 7 rfl ?_
        refine x_callGVI (ci := 1) (q0 := 0) (q := (RX2, TX2, 12)) C 38 70 (c_X2_joinedWithCall (xl x) (xD x) (xk x) (xg x) aK q4.2 x4 q4.1 _ h) rfl wwGood (mem4 wq_21_23 wq_22_0 wq_22_1 wq_2_4) wq_22_2 2 ok_X2_joinedWithCall rfl ⟨by decide, by decide⟩ (Nat.le_of_ble_eq_true rfl) ⟨Nat.le_refl _, Nat.le_refl _⟩ ⟨rfl, rfl⟩ rfl rfl [wdB (xk x) aB sB] (fun (u : Unit) => [wdK (xk x) aK q4.2, wdB (xk x) aB sB]) [1, 0] [1, 0] (show List.Perm [1, 0] (List.range 2) by decide) rfl 2 (fun _ => rfl) (by decide) (fun _ => rfl) (fun r10 _ h => ?_)
        refine x_call0SI C 39 73 (c_X3_of (xl x) (xD x) (xk x) (xg x) x5 (sB 2 q4.1.toNatClampNeg) r10 _ h) rfl wwGood (mem3 wq_20_3 wq_20_4 wq_20_5) wq_20_6 3 ok_X3_of rfl ⟨by decide, by decide⟩ (Nat.le_of_ble_eq_true rfl) ⟨Nat.le_refl _, Nat.le_refl _⟩ ⟨rfl, rfl⟩ rfl (fun r11 _ h => ?_)
        refine x_iload_n C 40 76 rfl 1 rfl rfl ?_
        refine x_iload C 41 77 rfl 7 rfl ?_
        refine x_callGVV (ci := 1) (q0 := 0) (q := (RX2, TX2, 12)) C 42 79 (c_X2_add (xl x) (xD x) (xk x) (xg x) aK q4.2 r11 x1 q4.1 _ h) rfl wwGood (mem4 wq_20_7 wq_20_8 wq_20_9 wq_2_4) wq_20_10 3 ok_X2_add rfl ⟨by decide, by decide⟩ (Nat.le_of_ble_eq_true rfl) ⟨Nat.le_refl _, Nat.le_refl _⟩ ⟨rfl, rfl⟩ rfl rfl [wdB (xk x) aB sB] (fun (u : St) => [wdK (xk x) aK u, wdB (xk x) aB sB]) [1, 0] [1, 0] (show List.Perm [1, 0] (List.range 2) by decide) rfl 2 (fun _ => rfl) (by decide) (fun _ => rfl) (fun u12 h => ?_)
        obtain ⟨y13, ey13⟩ : ∃ y : Int32, y = q4.1 + (1 : Int32) := ⟨_, rfl⟩
        replace h := h y13 ey13
        refine x_iinc (v := y13) (lv' := [(0, .ref (aK 0)), (1, .int x1), (2, .ref (aB 0)), (3, .int x3), (4, .int x4), (5, .int x5), (6, .int x6), (7, .int y13)]) C 43 82 rfl 7 rfl (by rw [ey13]; rfl) (by decide) [1, 2, 3, 4, 5, 6, 7, 0] rfl ?_
        refine x_goto C 44 85 25 rfl rfl ?_
        exact x_sub [0, 1, 2, 3, 4, 5, 6, 7] rfl (hR25 (y13, u12) h)
set_option maxHeartbeats 4000000 in
set_option maxRecDepth 100000 in
theorem w_X2_goOnFrom {x : CT} {aK aB : Nat → Nat} {sK : St} {sB : St} {p1 : Int32} {p3 : Int32} {K : St → Prop} (C : Cx x cX2_goOnFrom tb_X2_goOnFrom 8 RX2 (Cond.code yX2_goOnFrom cX2_goOnFrom 8 none :: wsL_law) ({ frames := 2, cells := 0, slots := 0, locals := 48 } : Room)) (rt : RetV x 0 0 (fun (u : St) => fl [wdK (xk x) aK u, wdB (xk x) aB sB]) (fun (u : St) => K u)) (h : wp_X2_goOnFrom sK sB p1 p3 K) : Wx x 8 0 0 (fl [wdK (xk x) aK sK, wdB (xk x) aB sB]) [(0, .ref (aK 0)), (1, .int p1), (2, .ref (aB 0)), (3, .int p3)] 0 [] := by
  unfold wp_X2_goOnFrom at h
  refine x_aload_n C 0 0 rfl 0 rfl rfl ?_
  refine x_get (v := .ref (aK 1)) C 1 1 rfl fi_X2 0 rfl rfl 0 (by decide) (mc wq_3_15) rfl ?_
  refine x_iload_n C 2 4 rfl 1 rfl rfl ?_
  obtain ⟨hi, h⟩ := h
  refine x_iald (f := sK 0) C 3 5 rfl 1 rfl hi ?_
  refine x_topi (fun y1 ey1 => ?_)
  replace h := h y1 ey1
  refine x_istore (lv' := [(0, .ref (aK 0)), (1, .int p1), (2, .ref (aB 0)), (3, .int p3), (4, .int y1)]) C 4 6 rfl (by decide) [1, 2, 3, 4, 0] rfl ?_
  refine x_iload C 5 8 rfl 4 rfl ?_
  refine x_call0SI C 6 10 (c_X3_from (xl x) (xD x) (xk x) (xg x) y1 _ h) rfl wwGood (mem3 wq_21_17 wq_20_21 wq_20_5) wq_20_22 1 ok_X3_from rfl ⟨by decide, by decide⟩ (Nat.le_of_ble_eq_true rfl) ⟨Nat.le_refl _, Nat.le_refl _⟩ ⟨rfl, rfl⟩ rfl (fun r2 _ h => ?_)
  refine x_istore (lv' := [(0, .ref (aK 0)), (1, .int p1), (2, .ref (aB 0)), (3, .int p3), (4, .int y1), (5, .int r2)]) C 7 13 rfl (by decide) [1, 2, 3, 4, 5, 0] rfl ?_
  refine x_iload C 8 15 rfl 4 rfl ?_
  refine x_call0SI C 9 17 (c_X3_to (xl x) (xD x) (xk x) (xg x) y1 _ h) rfl wwGood (mem3 wq_21_22 wq_21_0 wq_20_5) wq_21_1 1 ok_X3_to rfl ⟨by decide, by decide⟩ (Nat.le_of_ble_eq_true rfl) ⟨Nat.le_refl _, Nat.le_refl _⟩ ⟨rfl, rfl⟩ rfl (fun r3 _ h => ?_)
  refine x_istore (lv' := [(0, .ref (aK 0)), (1, .int p1), (2, .ref (aB 0)), (3, .int p3), (4, .int y1), (5, .int r2), (6, .int r3)]) C 10 20 rfl (by decide) [1, 2, 3, 4, 5, 6, 0] rfl ?_
  refine x_iconst (v := (0 : Int32)) C 11 22 rfl (by decide) ?_
  refine x_istore (lv' := [(0, .ref (aK 0)), (1, .int p1), (2, .ref (aB 0)), (3, .int p3), (4, .int y1), (5, .int r2), (6, .int r3), (7, .int (0 : Int32))]) C 12 23 rfl (by decide) [1, 2, 3, 4, 5, 6, 7, 0] rfl ?_
  refine x_sub (lv' := [(0, .ref (aK 0)), (1, .int p1), (2, .ref (aB 0)), (3, .int p3), (4, .int y1), (5, .int r2), (6, .int r3), (7, .int (0 : Int32))]) [0, 1, 2, 3, 4, 5, 6, 7] rfl (w_X2_goOnFrom_25 C rt h)
theorem c_X2_goOnFrom (l : Launch) (D : va_G) (k : ClassId × ClassId) (g : Nat → Nat) (aK aB : Nat → Nat) (sK : St) (sB : St) (p1 : Int32) (p3 : Int32) (K : St → Prop) (h : wp_X2_goOnFrom sK sB p1 p3 K) : ConV l yX2_goOnFrom (Cond.code yX2_goOnFrom cX2_goOnFrom 8 none :: wsL_law) ({ frames := 2, cells := 0, slots := 0, locals := 48 } : Room) D k g [.ref (aK 0), .int p1, .ref (aB 0), .int p3] (fl [wdK k aK sK, wdB k aB sB]) (fun (u : St) => fl [wdK k aK u, wdB k aB sB]) (fun (u : St) => K u) := by
  refine ConV.of (tb := tb_X2_goOnFrom) (cc := cX2_goOnFrom) (nL := 8) (by decide) rfl tbk_X2_goOnFrom (Nat.le_of_ble_eq_true rfl) ?_
  intro x hl hD hk hg C rt
  subst hl hD hk hg
  exact w_X2_goOnFrom C rt h
set_option maxHeartbeats 4000000 in
set_option maxRecDepth 100000 in
theorem w_X2_grow_36 {x : CT} {aK aB : Nat → Nat} {sB : St} {x2 : Int32} {x3 : Int32} {K : St → Prop} {E104 : St → Prop} (C : Cx x cX2_grow tb_X2_grow 5 RX2 (Cond.code yX2_grow cX2_grow 5 none :: wsL_law) ({ frames := 3, cells := 0, slots := 0, locals := 75 } : Room)) (rt : RetV x 0 0 (fun (u : St) => fl [wdK (xk x) aK u, wdB (xk x) aB sB]) (fun (u : St) => K u)) (hE104 : ∀ q : St, E104 q → Wx x 5 0 0 (fl [wdK (xk x) aK q, wdB (xk x) aB sB]) [(0, .ref (aK 0)), (1, .ref (aB 0)), (2, .int x2), (3, .int x3)] 104 []) {q7 : Int32 × St} (h : Lp (F_X2_grow_36 sB x2 E104) q7) : Wx x 5 0 0 (fl [wdK (xk x) aK q7.2, wdB (xk x) aB sB]) [(0, .ref (aK 0)), (1, .ref (aB 0)), (2, .int x2), (3, .int x3), (4, .int q7.1)] 36 [] := by
  refine lp_walk (P := fun q7 => Wx x 5 0 0 (fl [wdK (xk x) aK q7.2, wdB (xk x) aB sB]) [(0, .ref (aK 0)), (1, .ref (aB 0)), (2, .int x2), (3, .int x3), (4, .int q7.1)] 36 []) (fun q7 R36 hR36 h => ?_) h
  refine x_iload C 21 36 rfl 4 rfl ?_
  refine x_aload_n C 22 38 rfl 1 rfl rfl ?_
  refine x_get (v := .int (sB 4 0)) C 23 39 rfl fi_X1 8 rfl rfl 4 (by decide) (mc wq_19_16) rfl ?_
  refine x_icmp_ge C 24 42 104 rfl rfl (fun c8 => ?_) (fun c8 => ?_)
  · replace h := h.1 c8
    exact x_sub [0, 1, 2, 3] rfl (hE104 q7.2 h)
  · replace h := h.2 c8
    refine x_iload_n C 25 45 rfl 2 rfl rfl ?_
    refine x_iload C 26 46 rfl 4 rfl ?_
    refine x_ishr C 27 48 rfl ?_
    refine x_iconst (v := (1 : Int32)) C 28 49 rfl (by decide) ?_
    refine x_iand C 29 50 rfl ?_
    refine x_if_ne C 30 51 98 rfl rfl (fun c9 => ?_) (fun c9 => ?_)
    · replace h := h.2 c9
      obtain ⟨y10, ey10⟩ : ∃ y : Int32, y = q7.1 + (1 : Int32) := ⟨_, rfl⟩
      replace h := h y10 ey10
      refine x_iinc (v := y10) (lv' := [(0, .ref (aK 0)), (1, .ref (aB 0)), (2, .int x2), (3, .int x3), (4, .int y10)]) C 55 98 rfl 4 rfl (by rw [ey10]; rfl) (by decide) [1, 2, 3, 4, 0] rfl ?_
      refine x_goto C 56 101 36 rfl rfl ?_
      exact x_sub [0, 1, 2, 3, 4] rfl (hR36 (y10, q7.2) h)
    · replace h := h.1 c9
      refine x_aload_n C 31 54 rfl 0 rfl rfl ?_
      refine x_iload C 32 55 rfl 4 rfl ?_
      refine x_aload_n C 33 57 rfl 1 rfl rfl ?_
      refine x_get (v := .ref (aB 4)) C 34 58 rfl fi_X1 8 rfl rfl 3 (by decide) (mc wq_19_17) rfl ?_
      refine x_iload C 35 61 rfl 4 rfl ?_
      obtain ⟨hi, h⟩ := h
      refine x_iald (f := sB 3) C 36 63 rfl 12 rfl hi ?_
      refine x_callGVV (ci := 1) (q0 := 0) (q := (RX2, TX2, 12)) C 37 64 (c_X2_prepare (xl x) (xD x) (xk x) (xg x) aK q7.2 q7.1 (sB 3 q7.1.toNatClampNeg) _ h) rfl wwGood (mem4 wq_19_20 wq_19_21 wq_19_22 wq_2_4) wq_19_23 2 ok_X2_prepare rfl ⟨by decide, by decide⟩ (Nat.le_of_ble_eq_true rfl) ⟨Nat.le_refl _, Nat.le_refl _⟩ ⟨rfl, rfl⟩ rfl rfl [wdB (xk x) aB sB] (fun (u : St) => [wdK (xk x) aK u, wdB (xk x) aB sB]) [1, 0] [1, 0] (show List.Perm [1, 0] (List.range 2) by decide) rfl 2 (fun _ => rfl) (by decide) (fun _ => rfl) (fun u11 h => ?_)
      refine x_aload_n C 38 67 rfl 0 rfl rfl ?_
      refine x_aload_n C 39 68 rfl 1 rfl rfl ?_
      refine x_get (v := .ref (aB 2)) C 40 69 rfl fi_X1 8 rfl rfl 1 (by decide) (mc wq_19_18) rfl ?_
      refine x_iload C 41 72 rfl 4 rfl ?_
      obtain ⟨hi, h⟩ := h
      refine x_iald (f := sB 1) C 42 74 rfl 10 rfl hi ?_
      refine x_aload_n C 43 75 rfl 1 rfl rfl ?_
      refine x_get (v := .ref (aB 3)) C 44 76 rfl fi_X1 8 rfl rfl 2 (by decide) (mc wq_19_19) rfl ?_
      refine x_iload C 45 79 rfl 4 rfl ?_
      obtain ⟨hi, h⟩ := h
      refine x_iald (f := sB 2) C 46 81 rfl 11 rfl hi ?_
      refine x_aload_n C 47 82 rfl 1 rfl rfl ?_
      refine x_get (v := .ref (aB 4)) C 48 83 rfl fi_X1 8 rfl rfl 3 (by decide) (mc wq_19_17) rfl ?_
      refine x_iload C 49 86 rfl 4 rfl ?_
      obtain ⟨hi, h⟩ := h
      refine x_iald (f := sB 3) C 50 88 rfl 12 rfl hi ?_
      refine x_call0SI C 51 89 (c_X3_of (xl x) (xD x) (xk x) (xg x) (sB 1 q7.1.toNatClampNeg) (sB 2 q7.1.toNatClampNeg) (sB 3 q7.1.toNatClampNeg) _ h) rfl wwGood (mem3 wq_20_3 wq_20_4 wq_20_5) wq_20_6 3 ok_X3_of rfl ⟨by decide, by decide⟩ (Nat.le_of_ble_eq_true rfl) ⟨Nat.le_refl _, Nat.le_refl _⟩ ⟨rfl, rfl⟩ rfl (fun r12 _ h => ?_)
      refine x_iconst (v := (-1 : Int32)) C 52 92 rfl (by decide) ?_
      refine x_iload C 53 93 rfl 4 rfl ?_
      refine x_callGVV (ci := 1) (q0 := 0) (q := (RX2, TX2, 12)) C 54 95 (c_X2_add (xl x) (xD x) (xk x) (xg x) aK u11 r12 (-1 : Int32) q7.1 _ h) rfl wwGood (mem4 wq_20_7 wq_20_8 wq_20_9 wq_2_4) wq_20_10 3 ok_X2_add rfl ⟨by decide, by decide⟩ (Nat.le_of_ble_eq_true rfl) ⟨Nat.le_refl _, Nat.le_refl _⟩ ⟨rfl, rfl⟩ rfl rfl [wdB (xk x) aB sB] (fun (u : St) => [wdK (xk x) aK u, wdB (xk x) aB sB]) [1, 0] [1, 0] (show List.Perm [1, 0] (List.range 2) by decide) rfl 2 (fun _ => rfl) (by decide) (fun _ => rfl) (fun u13 h => ?_)
      obtain ⟨y14, ey14⟩ : ∃ y : Int32, y = q7.1 + (1 : Int32) := ⟨_, rfl⟩
      replace h := h y14 ey14
      refine x_iinc (v := y14) (lv' := [(0, .ref (aK 0)), (1, .ref (aB 0)), (2, .int x2), (3, .int x3), (4, .int y14)]) C 55 98 rfl 4 rfl (by rw [ey14]; rfl) (by decide) [1, 2, 3, 4, 0] rfl ?_
      refine x_goto C 56 101 36 rfl rfl ?_
      exact x_sub [0, 1, 2, 3, 4] rfl (hR36 (y14, u13) h)
set_option maxHeartbeats 4000000 in
set_option maxRecDepth 100000 in
theorem wj_X2_grow_155 {x : CT} {aK aB : Nat → Nat} {sK : St} {sB : St} {x2 : Int32} {x3 : Int32} {x4 : Int32} {K : St → Prop} {R107 : Int32 × St → Prop} (C : Cx x cX2_grow tb_X2_grow 5 RX2 (Cond.code yX2_grow cX2_grow 5 none :: wsL_law) ({ frames := 3, cells := 0, slots := 0, locals := 75 } : Room)) (rt : RetV x 0 0 (fun (u : St) => fl [wdK (xk x) aK u, wdB (xk x) aB sB]) (fun (u : St) => K u)) (hR107 : ∀ q : Int32 × St, R107 q → Wx x 5 0 0 (fl [wdK (xk x) aK q.2, wdB (xk x) aB sB]) [(0, .ref (aK 0)), (1, .ref (aB 0)), (2, .int x2), (3, .int x3), (4, .int q.1)] 107 []) (h : J_X2_grow_155 sK sB x2 x4 R107) : Wx x 5 0 0 (fl [wdK (xk x) aK sK, wdB (xk x) aB sB]) [(0, .ref (aK 0)), (1, .ref (aB 0)), (2, .int x2), (3, .int x3), (4, .int x4)] 155 [] := by
  unfold J_X2_grow_155 at h
  refine x_aload_n C 81 155 rfl 0 rfl rfl ?_
  refine x_iload C 82 156 rfl 4 rfl ?_
  refine x_aload_n C 83 158 rfl 1 rfl rfl ?_
  refine x_iload_n C 84 159 rfl 2 rfl rfl ?_
  refine x_callWVV (ci := 1) (q0 := 0) (q := (RX2, TX2, 12)) C 85 160 (c_X2_goOnFrom (xl x) (xD x) (xk x) (xg x) aK aB sK sB x4 x2 _ h) rfl wwGood (mem4 wq_21_18 wq_21_19 wq_21_20 wq_2_4) wq_21_21 3 ok_X2_goOnFrom rfl ⟨by decide, by decide⟩ (Nat.le_of_ble_eq_true rfl) ⟨Nat.le_refl _, Nat.le_refl _⟩ ⟨rfl, rfl⟩ rfl rfl rfl (fun u22 h => ?_)
  obtain ⟨y23, ey23⟩ : ∃ y : Int32, y = x4 + (1 : Int32) := ⟨_, rfl⟩
  replace h := h y23 ey23
  refine x_iinc (v := y23) (lv' := [(0, .ref (aK 0)), (1, .ref (aB 0)), (2, .int x2), (3, .int x3), (4, .int y23)]) C 86 163 rfl 4 rfl (by rw [ey23]; rfl) (by decide) [1, 2, 3, 4, 0] rfl ?_
  refine x_goto C 87 166 107 rfl rfl ?_
  exact x_sub [0, 1, 2, 3, 4] rfl (hR107 (y23, u22) h)
set_option maxHeartbeats 4000000 in
set_option maxRecDepth 100000 in
theorem w_X2_grow_107 {x : CT} {aK aB : Nat → Nat} {sB : St} {x2 : Int32} {x3 : Int32} {K : St → Prop} (C : Cx x cX2_grow tb_X2_grow 5 RX2 (Cond.code yX2_grow cX2_grow 5 none :: wsL_law) ({ frames := 3, cells := 0, slots := 0, locals := 75 } : Room)) (rt : RetV x 0 0 (fun (u : St) => fl [wdK (xk x) aK u, wdB (xk x) aB sB]) (fun (u : St) => K u))  {q16 : Int32 × St} (h : Lp (F_X2_grow_107 sB x2 x3 K) q16) : Wx x 5 0 0 (fl [wdK (xk x) aK q16.2, wdB (xk x) aB sB]) [(0, .ref (aK 0)), (1, .ref (aB 0)), (2, .int x2), (3, .int x3), (4, .int q16.1)] 107 [] := by
  refine lp_walk (P := fun q16 => Wx x 5 0 0 (fl [wdK (xk x) aK q16.2, wdB (xk x) aB sB]) [(0, .ref (aK 0)), (1, .ref (aB 0)), (2, .int x2), (3, .int x3), (4, .int q16.1)] 107 []) (fun q16 R107 hR107 h => ?_) h
  refine x_iload C 59 107 rfl 4 rfl ?_
  refine x_aload_n C 60 109 rfl 0 rfl rfl ?_
  refine x_get (v := .int (q16.2 7 0)) C 61 110 rfl fi_X2 0 rfl rfl 7 (by decide) (mc wq_19_12) rfl ?_
  refine x_icmp_ge C 62 113 169 rfl rfl (fun c17 => ?_) (fun c17 => ?_)
  · replace h := h.1 c17
    exact x_vret C rt 88 169 rfl q16.2 rfl h
  · replace h := h.2 c17
    refine x_iload C 63 116 rfl 4 rfl ?_
    refine x_sipush (v := (1000 : Int32)) C 64 118 rfl (by decide) ?_
    refine x_icmp_ge C 65 121 169 rfl rfl (fun c18 => ?_) (fun c18 => ?_)
    · replace h := h.1 c18
      exact x_vret C rt 88 169 rfl q16.2 rfl h
    · replace h := h.2 c18
      refine x_aload_n C 66 124 rfl 0 rfl rfl ?_
      refine x_get (v := .int (q16.2 8 0)) C 67 125 rfl fi_X2 0 rfl rfl 8 (by decide) (mc wq_19_13) rfl ?_
      refine x_if_ne C 68 128 169 rfl rfl (fun c19 => ?_) (fun c19 => ?_)
      · replace h := h.2 c19
        exact x_vret C rt 88 169 rfl q16.2 rfl h
      · replace h := h.1 c19
        refine x_aload_n C 69 131 rfl 0 rfl rfl ?_
        refine x_get (v := .ref (aK 1)) C 70 132 rfl fi_X2 0 rfl rfl 0 (by decide) (mc wq_3_15) rfl ?_
        refine x_iload C 71 135 rfl 4 rfl ?_
        obtain ⟨hi, h⟩ := h
        refine x_iald (f := q16.2 0) C 72 137 rfl 1 rfl hi ?_
        refine x_call0SZ C 73 138 (c_X3_isBad (xl x) (xD x) (xk x) (xg x) (q16.2 0 q16.1.toNatClampNeg) _ h) rfl wwGood (mem3 wq_20_16 wq_20_17 wq_20_5) wq_20_18 1 ok_X3_isBad rfl ⟨by decide, by decide⟩ (Nat.le_of_ble_eq_true rfl) ⟨Nat.le_refl _, Nat.le_refl _⟩ ⟨rfl, rfl⟩ rfl (fun r20 _ h => ?_)
        refine x_if_eq C 74 141 155 rfl rfl (fun c21 => ?_) (fun c21 => ?_)
        · replace h := h.1 c21
          exact x_sub (lv' := [(0, .ref (aK 0)), (1, .ref (aB 0)), (2, .int x2), (3, .int x3), (4, .int q16.1)]) [0, 1, 2, 3, 4] rfl (wj_X2_grow_155 C rt hR107 h)
        · replace h := h.2 c21
          refine x_aload_n C 75 144 rfl 0 rfl rfl ?_
          refine x_iload C 76 145 rfl 4 rfl ?_
          refine x_callGVV (ci := 1) (q0 := 0) (q := (RX2, TX2, 12)) C 77 147 (c_X2_noteBad (xl x) (xD x) (xk x) (xg x) aK q16.2 q16.1 _ h) rfl wwGood (mem4 wq_21_13 wq_21_14 wq_21_15 wq_2_4) wq_21_16 1 ok_X2_noteBad rfl ⟨by decide, by decide⟩ (Nat.le_of_ble_eq_true rfl) ⟨Nat.le_refl _, Nat.le_refl _⟩ ⟨rfl, rfl⟩ rfl rfl [wdB (xk x) aB sB] (fun (u : St) => [wdK (xk x) aK u, wdB (xk x) aB sB]) [1, 0] [1, 0] (show List.Perm [1, 0] (List.range 2) by decide) rfl 2 (fun _ => rfl) (by decide) (fun _ => rfl) (fun u24 h => ?_)
          refine x_iload_n C 78 150 rfl 3 rfl rfl ?_
          refine x_if_eq C 79 151 155 rfl rfl (fun c25 => ?_) (fun c25 => ?_)
          · replace h := h.1 c25
            exact x_sub (lv' := [(0, .ref (aK 0)), (1, .ref (aB 0)), (2, .int x2), (3, .int x3), (4, .int q16.1)]) [0, 1, 2, 3, 4] rfl (wj_X2_grow_155 C rt hR107 h)
          · replace h := h.2 c25
            exact x_vret C rt 80 154 rfl u24 rfl h
set_option maxHeartbeats 4000000 in
set_option maxRecDepth 100000 in
theorem w_X2_grow {x : CT} {aK aB : Nat → Nat} {sK : St} {sB : St} {p2 : Int32} {p3 : Int32} {K : St → Prop} (C : Cx x cX2_grow tb_X2_grow 5 RX2 (Cond.code yX2_grow cX2_grow 5 none :: wsL_law) ({ frames := 3, cells := 0, slots := 0, locals := 75 } : Room)) (rt : RetV x 0 0 (fun (u : St) => fl [wdK (xk x) aK u, wdB (xk x) aB sB]) (fun (u : St) => K u)) (h : wp_X2_grow sK sB p2 p3 K) : Wx x 5 0 0 (fl [wdK (xk x) aK sK, wdB (xk x) aB sB]) [(0, .ref (aK 0)), (1, .ref (aB 0)), (2, .int p2), (3, .int p3)] 0 [] := by
  unfold wp_X2_grow at h
  refine x_aload_n C 0 0 rfl 0 rfl rfl ?_
  refine x_iconst (v := (0 : Int32)) C 1 1 rfl (by decide) ?_
  obtain ⟨z1, ez1⟩ : ∃ z : St, z = us sK 7 (0 : Int32) := ⟨_, rfl⟩
  replace h := h z1 ez1
  refine x_put (ws' := fl [wdK (xk x) aK z1, wdB (xk x) aB sB]) C 2 2 rfl fi_X2 tyX2 tyX2_ok nmX2 0 rfl rfl 7 (by decide) (mc wq_19_12) rfl rfl rfl (Nat.le_of_ble_eq_true rfl) (by rw [ez1]; rfl) ?_
  refine x_aload_n C 3 5 rfl 0 rfl rfl ?_
  refine x_iconst (v := (0 : Int32)) C 4 6 rfl (by decide) ?_
  obtain ⟨z2, ez2⟩ : ∃ z : St, z = us z1 8 (0 : Int32) := ⟨_, rfl⟩
  replace h := h z2 ez2
  refine x_put (ws' := fl [wdK (xk x) aK z2, wdB (xk x) aB sB]) C 5 7 rfl fi_X2 tyX2 tyX2_ok nmX2 0 rfl rfl 8 (by decide) (mc wq_19_13) rfl (zb_n zb_0) (zb_f zb_0) (Nat.le_of_ble_eq_true rfl) (by rw [ez2]; rfl) ?_
  refine x_aload_n C 6 10 rfl 0 rfl rfl ?_
  refine x_iconst (v := (0 : Int32)) C 7 11 rfl (by decide) ?_
  obtain ⟨z3, ez3⟩ : ∃ z : St, z = us z2 9 (0 : Int32) := ⟨_, rfl⟩
  replace h := h z3 ez3
  refine x_put (ws' := fl [wdK (xk x) aK z3, wdB (xk x) aB sB]) C 8 12 rfl fi_X2 tyX2 tyX2_ok nmX2 0 rfl rfl 9 (by decide) (mc wq_19_14) rfl (zb_n zb_0) (zb_f zb_0) (Nat.le_of_ble_eq_true rfl) (by rw [ez3]; rfl) ?_
  refine x_aload_n C 9 15 rfl 0 rfl rfl ?_
  refine x_iconst (v := (-1 : Int32)) C 10 16 rfl (by decide) ?_
  obtain ⟨z4, ez4⟩ : ∃ z : St, z = us z3 10 (-1 : Int32) := ⟨_, rfl⟩
  replace h := h z4 ez4
  refine x_put (ws' := fl [wdK (xk x) aK z4, wdB (xk x) aB sB]) C 11 17 rfl fi_X2 tyX2 tyX2_ok nmX2 0 rfl rfl 10 (by decide) (mc wq_3_22) rfl rfl rfl (Nat.le_of_ble_eq_true rfl) (by rw [ez4]; rfl) ?_
  refine x_aload_n C 12 20 rfl 0 rfl rfl ?_
  refine x_iconst (v := (0 : Int32)) C 13 21 rfl (by decide) ?_
  obtain ⟨z5, ez5⟩ : ∃ z : St, z = us z4 11 (0 : Int32) := ⟨_, rfl⟩
  replace h := h z5 ez5
  refine x_put (ws' := fl [wdK (xk x) aK z5, wdB (xk x) aB sB]) C 14 22 rfl fi_X2 tyX2 tyX2_ok nmX2 0 rfl rfl 11 (by decide) (mc wq_19_15) rfl rfl rfl (Nat.le_of_ble_eq_true rfl) (by rw [ez5]; rfl) ?_
  refine x_aload_n C 15 25 rfl 0 rfl rfl ?_
  refine x_get (v := .ref (aK 4)) C 16 26 rfl fi_X2 0 rfl rfl 3 (by decide) (mc wq_3_18) rfl ?_
  refine x_iconst (v := (0 : Int32)) C 17 29 rfl (by decide) ?_
  obtain ⟨z6, ez6⟩ : ∃ z : St, z = uf z5 3 2048 (0 : Int32) := ⟨_, rfl⟩
  replace h := h z6 ez6
  refine x_fill (f := z5 3) (ws' := fl [wdK (xk x) aK z6, wdB (xk x) aB sB]) C 18 30 rfl (mem3 wq_3_23 wq_4_0 wq_4_1) ⟨by decide, by decide⟩ (Nat.le_of_ble_eq_true rfl) ⟨Nat.le_refl _, Nat.le_refl _⟩ 4 rfl (by decide) (by rw [ez6]; rfl) ?_
  refine x_iconst (v := (0 : Int32)) C 19 33 rfl (by decide) ?_
  refine x_istore (lv' := [(0, .ref (aK 0)), (1, .ref (aB 0)), (2, .int p2), (3, .int p3), (4, .int (0 : Int32))]) C 20 34 rfl (by decide) [1, 2, 3, 4, 0] rfl ?_
  refine x_sub (lv' := [(0, .ref (aK 0)), (1, .ref (aB 0)), (2, .int p2), (3, .int p3), (4, .int (0 : Int32))]) [0, 1, 2, 3, 4] rfl (w_X2_grow_36 C rt (fun q15 h => ?_) h)
  · refine x_iconst (v := (0 : Int32)) C 57 104 rfl (by decide) ?_
    refine x_istore (lv' := [(0, .ref (aK 0)), (1, .ref (aB 0)), (2, .int p2), (3, .int p3), (4, .int (0 : Int32))]) C 58 105 rfl (by decide) [1, 2, 3, 4, 0] rfl ?_
    refine x_sub (lv' := [(0, .ref (aK 0)), (1, .ref (aB 0)), (2, .int p2), (3, .int p3), (4, .int (0 : Int32))]) [0, 1, 2, 3, 4] rfl (w_X2_grow_107 C rt h)
theorem c_X2_grow (l : Launch) (D : va_G) (k : ClassId × ClassId) (g : Nat → Nat) (aK aB : Nat → Nat) (sK : St) (sB : St) (p2 : Int32) (p3 : Int32) (K : St → Prop) (h : wp_X2_grow sK sB p2 p3 K) : ConV l yX2_grow (Cond.code yX2_grow cX2_grow 5 none :: wsL_law) ({ frames := 3, cells := 0, slots := 0, locals := 75 } : Room) D k g [.ref (aK 0), .ref (aB 0), .int p2, .int p3] (fl [wdK k aK sK, wdB k aB sB]) (fun (u : St) => fl [wdK k aK u, wdB k aB sB]) (fun (u : St) => K u) := by
  refine ConV.of (tb := tb_X2_grow) (cc := cX2_grow) (nL := 5) (by decide) rfl tbk_X2_grow (Nat.le_of_ble_eq_true rfl) ?_
  intro x hl hD hk hg C rt
  subst hl hD hk hg
  exact w_X2_grow C rt h
set_option maxHeartbeats 4000000 in
set_option maxRecDepth 100000 in
theorem w_X2_wayLength_4 {x : CT} {aK : Nat → Nat} {sK : St} {K : Int32 → Prop} (C : Cx x cX2_wayLength tb_X2_wayLength 4 RX2 (Cond.code yX2_wayLength cX2_wayLength 4 (some .int) :: wsL_law) ({ frames := 0, cells := 0, slots := 0, locals := 0 } : Room)) (rt : RetI x 0 0 (fun (u : Unit) => fl [wdK (xk x) aK sK]) (fun (r : Int32) (_ : Unit) => K r))  {q1 : Int32 × Int32} (h : Lp (F_X2_wayLength_4 sK K) q1) : Wx x 4 0 0 (fl [wdK (xk x) aK sK]) [(0, .ref (aK 0)), (2, .int q1.1), (3, .int q1.2)] 4 [] := by
  refine lp_walk (P := fun q1 => Wx x 4 0 0 (fl [wdK (xk x) aK sK]) [(0, .ref (aK 0)), (2, .int q1.1), (3, .int q1.2)] 4 []) (fun q1 R4 hR4 h => ?_) h
  refine x_iload_n C 4 4 rfl 2 rfl rfl ?_
  refine x_if_lt C 5 5 36 rfl rfl (fun c2 => ?_) (fun c2 => ?_)
  · replace h := h.1 c2
    refine x_iload_n C 20 36 rfl 1 rfl rfl ?_
    exact x_iret C rt 21 37 rfl () rfl h
  · replace h := h.2 c2
    refine x_iload_n C 6 8 rfl 2 rfl rfl ?_
    refine x_aload_n C 7 9 rfl 0 rfl rfl ?_
    refine x_get (v := .int (sK 7 0)) C 8 10 rfl fi_X2 0 rfl rfl 7 (by decide) (mc wq_19_12) rfl ?_
    refine x_icmp_ge C 9 13 36 rfl rfl (fun c3 => ?_) (fun c3 => ?_)
    · replace h := h.1 c3
      refine x_iload_n C 20 36 rfl 1 rfl rfl ?_
      exact x_iret C rt 21 37 rfl () rfl h
    · replace h := h.2 c3
      refine x_iload_n C 10 16 rfl 1 rfl rfl ?_
      refine x_sipush (v := (1000 : Int32)) C 11 17 rfl (by decide) ?_
      refine x_icmp_ge C 12 20 36 rfl rfl (fun c4 => ?_) (fun c4 => ?_)
      · replace h := h.1 c4
        refine x_iload_n C 20 36 rfl 1 rfl rfl ?_
        exact x_iret C rt 21 37 rfl () rfl h
      · replace h := h.2 c4
        obtain ⟨y5, ey5⟩ : ∃ y : Int32, y = q1.1 + (1 : Int32) := ⟨_, rfl⟩
        replace h := h y5 ey5
        refine x_iinc (v := y5) (lv' := [(0, .ref (aK 0)), (2, .int y5), (3, .int q1.2)]) C 13 23 rfl 1 rfl (by rw [ey5]; rfl) (by decide) [1, 0, 2] rfl ?_
        refine x_aload_n C 14 26 rfl 0 rfl rfl ?_
        refine x_get (v := .ref (aK 2)) C 15 27 rfl fi_X2 0 rfl rfl 1 (by decide) (mc wq_3_16) rfl ?_
        refine x_iload_n C 16 30 rfl 2 rfl rfl ?_
        obtain ⟨hi, h⟩ := h
        refine x_iald (f := sK 1) C 17 31 rfl 2 rfl hi ?_
        refine x_topi (fun y6 ey6 => ?_)
        replace h := h y6 ey6
        refine x_istore_n (lv' := [(0, .ref (aK 0)), (2, .int y5), (3, .int y6)]) C 18 32 rfl rfl (by decide) [1, 2, 0] rfl ?_
        refine x_goto C 19 33 4 rfl rfl ?_
        exact x_sub [0, 1, 2] rfl (hR4 (y5, y6) h)
set_option maxHeartbeats 4000000 in
set_option maxRecDepth 100000 in
theorem w_X2_wayLength {x : CT} {aK : Nat → Nat} {sK : St} {p1 : Int32} {K : Int32 → Prop} (C : Cx x cX2_wayLength tb_X2_wayLength 4 RX2 (Cond.code yX2_wayLength cX2_wayLength 4 (some .int) :: wsL_law) ({ frames := 0, cells := 0, slots := 0, locals := 0 } : Room)) (rt : RetI x 0 0 (fun (u : Unit) => fl [wdK (xk x) aK sK]) (fun (r : Int32) (_ : Unit) => K r)) (h : wp_X2_wayLength sK p1 K) : Wx x 4 0 0 (fl [wdK (xk x) aK sK]) [(0, .ref (aK 0)), (1, .int p1)] 0 [] := by
  unfold wp_X2_wayLength at h
  refine x_iconst (v := (0 : Int32)) C 0 0 rfl (by decide) ?_
  refine x_istore_n (lv' := [(0, .ref (aK 0)), (1, .int p1), (2, .int (0 : Int32))]) C 1 1 rfl rfl (by decide) [1, 2, 0] rfl ?_
  refine x_iload_n C 2 2 rfl 1 rfl rfl ?_
  refine x_istore_n (lv' := [(0, .ref (aK 0)), (2, .int (0 : Int32)), (3, .int p1)]) C 3 3 rfl rfl (by decide) [1, 3, 0] rfl ?_
  refine x_sub (lv' := [(0, .ref (aK 0)), (2, .int (0 : Int32)), (3, .int p1)]) [0, 1, 2] rfl (w_X2_wayLength_4 C rt h)
theorem c_X2_wayLength (l : Launch) (D : va_G) (k : ClassId × ClassId) (g : Nat → Nat) (aK : Nat → Nat) (sK : St) (p1 : Int32) (K : Int32 → Prop) (h : wp_X2_wayLength sK p1 K) : ConI l yX2_wayLength (Cond.code yX2_wayLength cX2_wayLength 4 (some .int) :: wsL_law) ({ frames := 0, cells := 0, slots := 0, locals := 0 } : Room) D k g [.ref (aK 0), .int p1] (fl [wdK k aK sK]) (fun (u : Unit) => fl [wdK k aK sK]) (fun (r : Int32) (_ : Unit) => K r) := by
  refine ConI.of (tb := tb_X2_wayLength) (cc := cX2_wayLength) (nL := 4) (by decide) rfl tbk_X2_wayLength (Nat.le_of_ble_eq_true rfl) ?_
  intro x hl hD hk hg C rt
  subst hl hD hk hg
  exact w_X2_wayLength C rt h
set_option maxHeartbeats 4000000 in
set_option maxRecDepth 100000 in
theorem w_X2_callOnWay_13 {x : CT} {aK : Nat → Nat} {sK : St} {K : Int32 → Prop} {E43 : Int32 → Prop} (C : Cx x cX2_callOnWay tb_X2_callOnWay 5 RX2 (Cond.code yX2_callOnWay cX2_callOnWay 5 (some .int) :: wsL_law) ({ frames := 1, cells := 0, slots := 0, locals := 23 } : Room)) (rt : RetI x 0 0 (fun (u : Unit) => fl [wdK (xk x) aK sK]) (fun (r : Int32) (_ : Unit) => K r)) (hE43 : ∀ q : Int32, E43 q → Wx x 5 0 0 (fl [wdK (xk x) aK sK]) [(0, .ref (aK 0)), (3, .int q)] 43 []) {q3 : Int32 × Int32} (h : Lp (F_X2_callOnWay_13 sK E43) q3) : Wx x 5 0 0 (fl [wdK (xk x) aK sK]) [(0, .ref (aK 0)), (3, .int q3.1), (4, .int q3.2)] 13 [] := by
  refine lp_walk (P := fun q3 => Wx x 5 0 0 (fl [wdK (xk x) aK sK]) [(0, .ref (aK 0)), (3, .int q3.1), (4, .int q3.2)] 13 []) (fun q3 R13 hR13 h => ?_) h
  refine x_iload C 10 13 rfl 2 rfl ?_
  refine x_if_le C 11 15 43 rfl rfl (fun c4 => ?_) (fun c4 => ?_)
  · replace h := h.1 c4
    exact x_sub [0, 1] rfl (hE43 q3.1 h)
  · replace h := h.2 c4
    refine x_iload_n C 12 18 rfl 1 rfl rfl ?_
    refine x_if_lt C 13 19 43 rfl rfl (fun c5 => ?_) (fun c5 => ?_)
    · replace h := h.1 c5
      exact x_sub [0, 1] rfl (hE43 q3.1 h)
    · replace h := h.2 c5
      refine x_iload_n C 14 22 rfl 1 rfl rfl ?_
      refine x_aload_n C 15 23 rfl 0 rfl rfl ?_
      refine x_get (v := .int (sK 7 0)) C 16 24 rfl fi_X2 0 rfl rfl 7 (by decide) (mc wq_19_12) rfl ?_
      refine x_icmp_ge C 17 27 43 rfl rfl (fun c6 => ?_) (fun c6 => ?_)
      · replace h := h.1 c6
        exact x_sub [0, 1] rfl (hE43 q3.1 h)
      · replace h := h.2 c6
        refine x_aload_n C 18 30 rfl 0 rfl rfl ?_
        refine x_get (v := .ref (aK 2)) C 19 31 rfl fi_X2 0 rfl rfl 1 (by decide) (mc wq_3_16) rfl ?_
        refine x_iload_n C 20 34 rfl 1 rfl rfl ?_
        obtain ⟨hi, h⟩ := h
        refine x_iald (f := sK 1) C 21 35 rfl 2 rfl hi ?_
        refine x_topi (fun y7 ey7 => ?_)
        replace h := h y7 ey7
        refine x_istore_n (lv' := [(0, .ref (aK 0)), (3, .int y7), (4, .int q3.2)]) C 22 36 rfl rfl (by decide) [1, 0, 2] rfl ?_
        obtain ⟨y8, ey8⟩ : ∃ y : Int32, y = q3.2 + (-1 : Int32) := ⟨_, rfl⟩
        replace h := h y8 ey8
        refine x_iinc (v := y8) (lv' := [(0, .ref (aK 0)), (3, .int y7), (4, .int y8)]) C 23 37 rfl 2 rfl (by rw [ey8]; rfl) (by decide) [1, 2, 0] rfl ?_
        refine x_goto C 24 40 13 rfl rfl ?_
        exact x_sub [0, 1, 2] rfl (hR13 (y7, y8) h)
set_option maxHeartbeats 4000000 in
set_option maxRecDepth 100000 in
theorem wj_X2_callOnWay_43 {x : CT} {aK : Nat → Nat} {sK : St} {x3 : Int32} {K : Int32 → Prop} (C : Cx x cX2_callOnWay tb_X2_callOnWay 5 RX2 (Cond.code yX2_callOnWay cX2_callOnWay 5 (some .int) :: wsL_law) ({ frames := 1, cells := 0, slots := 0, locals := 23 } : Room)) (rt : RetI x 0 0 (fun (u : Unit) => fl [wdK (xk x) aK sK]) (fun (r : Int32) (_ : Unit) => K r))  (h : J_X2_callOnWay_43 sK x3 K) : Wx x 5 0 0 (fl [wdK (xk x) aK sK]) [(0, .ref (aK 0)), (3, .int x3)] 43 [] := by
  unfold J_X2_callOnWay_43 at h
  refine x_iload_n C 25 43 rfl 1 rfl rfl ?_
  refine x_if_lt C 26 44 64 rfl rfl (fun c10 => ?_) (fun c10 => ?_)
  · replace h := h.1 c10
    refine x_bipush (v := (-9 : Int32)) C 36 64 rfl (by decide) ?_
    exact x_iret C rt 37 66 rfl () rfl h
  · replace h := h.2 c10
    refine x_iload_n C 27 47 rfl 1 rfl rfl ?_
    refine x_aload_n C 28 48 rfl 0 rfl rfl ?_
    refine x_get (v := .int (sK 7 0)) C 29 49 rfl fi_X2 0 rfl rfl 7 (by decide) (mc wq_19_12) rfl ?_
    refine x_icmp_ge C 30 52 64 rfl rfl (fun c11 => ?_) (fun c11 => ?_)
    · replace h := h.1 c11
      refine x_bipush (v := (-9 : Int32)) C 36 64 rfl (by decide) ?_
      exact x_iret C rt 37 66 rfl () rfl h
    · replace h := h.2 c11
      refine x_aload_n C 31 55 rfl 0 rfl rfl ?_
      refine x_get (v := .ref (aK 3)) C 32 56 rfl fi_X2 0 rfl rfl 2 (by decide) (mc wq_3_17) rfl ?_
      refine x_iload_n C 33 59 rfl 1 rfl rfl ?_
      obtain ⟨hi, h⟩ := h
      refine x_iald (f := sK 2) C 34 60 rfl 3 rfl hi ?_
      refine x_goto C 35 61 66 rfl rfl ?_
      exact x_iret C rt 37 66 rfl () rfl h
set_option maxHeartbeats 4000000 in
set_option maxRecDepth 100000 in
theorem w_X2_callOnWay {x : CT} {aK : Nat → Nat} {sK : St} {p1 : Int32} {p2 : Int32} {K : Int32 → Prop} (C : Cx x cX2_callOnWay tb_X2_callOnWay 5 RX2 (Cond.code yX2_callOnWay cX2_callOnWay 5 (some .int) :: wsL_law) ({ frames := 1, cells := 0, slots := 0, locals := 23 } : Room)) (rt : RetI x 0 0 (fun (u : Unit) => fl [wdK (xk x) aK sK]) (fun (r : Int32) (_ : Unit) => K r)) (h : wp_X2_callOnWay sK p1 p2 K) : Wx x 5 0 0 (fl [wdK (xk x) aK sK]) [(0, .ref (aK 0)), (1, .int p1), (2, .int p2)] 0 [] := by
  unfold wp_X2_callOnWay at h
  refine x_iload_n C 0 0 rfl 1 rfl rfl ?_
  refine x_istore_n (lv' := [(0, .ref (aK 0)), (1, .int p1), (2, .int p2), (3, .int p1)]) C 1 1 rfl rfl (by decide) [1, 2, 3, 0] rfl ?_
  refine x_aload_n C 2 2 rfl 0 rfl rfl ?_
  refine x_iload_n C 3 3 rfl 1 rfl rfl ?_
  refine x_callWVI (ci := 1) (q0 := 0) (q := (RX2, TX2, 12)) C 4 4 (c_X2_wayLength (xl x) (xD x) (xk x) (xg x) aK sK p1 _ h) rfl wwGood (mem4 wq_26_20 wq_26_13 wq_26_14 wq_2_4) wq_26_15 1 ok_X2_wayLength rfl ⟨by decide, by decide⟩ (Nat.le_of_ble_eq_true rfl) ⟨Nat.le_refl _, Nat.le_refl _⟩ ⟨rfl, rfl⟩ rfl rfl rfl (fun r1 _ h => ?_)
  refine x_iconst (v := (1 : Int32)) C 5 7 rfl (by decide) ?_
  refine x_isub C 6 8 rfl ?_
  refine x_iload_n C 7 9 rfl 2 rfl rfl ?_
  refine x_isub C 8 10 rfl ?_
  refine x_topi (fun y2 ey2 => ?_)
  replace h := h y2 ey2
  refine x_istore (lv' := [(0, .ref (aK 0)), (3, .int p1), (4, .int y2)]) C 9 11 rfl (by decide) [1, 4, 0] rfl ?_
  refine x_sub (lv' := [(0, .ref (aK 0)), (3, .int p1), (4, .int y2)]) [0, 1, 2] rfl (w_X2_callOnWay_13 C rt (fun q9 h => ?_) h)
  · exact x_sub (lv' := [(0, .ref (aK 0)), (3, .int q9)]) [0, 1] rfl (wj_X2_callOnWay_43 C rt h)
theorem c_X2_callOnWay (l : Launch) (D : va_G) (k : ClassId × ClassId) (g : Nat → Nat) (aK : Nat → Nat) (sK : St) (p1 : Int32) (p2 : Int32) (K : Int32 → Prop) (h : wp_X2_callOnWay sK p1 p2 K) : ConI l yX2_callOnWay (Cond.code yX2_callOnWay cX2_callOnWay 5 (some .int) :: wsL_law) ({ frames := 1, cells := 0, slots := 0, locals := 23 } : Room) D k g [.ref (aK 0), .int p1, .int p2] (fl [wdK k aK sK]) (fun (u : Unit) => fl [wdK k aK sK]) (fun (r : Int32) (_ : Unit) => K r) := by
  refine ConI.of (tb := tb_X2_callOnWay) (cc := cX2_callOnWay) (nL := 5) (by decide) rfl tbk_X2_callOnWay (Nat.le_of_ble_eq_true rfl) ?_
  intro x hl hD hk hg C rt
  subst hl hD hk hg
  exact w_X2_callOnWay C rt h
set_option maxHeartbeats 4000000 in
set_option maxRecDepth 100000 in
theorem w_X2_callsOnWay_7 {x : CT} {aK : Nat → Nat} {sK : St} {K : Int32 → Prop} (C : Cx x cX2_callsOnWay tb_X2_callsOnWay 5 RX2 (Cond.code yX2_callsOnWay cX2_callsOnWay 5 (some .int) :: wsL_law) ({ frames := 0, cells := 0, slots := 0, locals := 0 } : Room)) (rt : RetI x 0 0 (fun (u : Unit) => fl [wdK (xk x) aK sK]) (fun (r : Int32) (_ : Unit) => K r))  {q1 : Int32 × Int32 × Int32} (h : Lp (F_X2_callsOnWay_7 sK K) q1) : Wx x 5 0 0 (fl [wdK (xk x) aK sK]) [(0, .ref (aK 0)), (2, .int q1.1), (3, .int q1.2.1), (4, .int q1.2.2)] 7 [] := by
  refine lp_walk (P := fun q1 => Wx x 5 0 0 (fl [wdK (xk x) aK sK]) [(0, .ref (aK 0)), (2, .int q1.1), (3, .int q1.2.1), (4, .int q1.2.2)] 7 []) (fun q1 R7 hR7 h => ?_) h
  refine x_iload C 6 7 rfl 3 rfl ?_
  refine x_if_lt C 7 9 55 rfl rfl (fun c2 => ?_) (fun c2 => ?_)
  · replace h := h.1 c2
    refine x_iload_n C 31 55 rfl 1 rfl rfl ?_
    exact x_iret C rt 32 56 rfl () rfl h
  · replace h := h.2 c2
    refine x_iload C 8 12 rfl 3 rfl ?_
    refine x_aload_n C 9 14 rfl 0 rfl rfl ?_
    refine x_get (v := .int (sK 7 0)) C 10 15 rfl fi_X2 0 rfl rfl 7 (by decide) (mc wq_19_12) rfl ?_
    refine x_icmp_ge C 11 18 55 rfl rfl (fun c3 => ?_) (fun c3 => ?_)
    · replace h := h.1 c3
      refine x_iload_n C 31 55 rfl 1 rfl rfl ?_
      exact x_iret C rt 32 56 rfl () rfl h
    · replace h := h.2 c3
      refine x_iload_n C 12 21 rfl 2 rfl rfl ?_
      refine x_sipush (v := (1000 : Int32)) C 13 22 rfl (by decide) ?_
      refine x_icmp_ge C 14 25 55 rfl rfl (fun c4 => ?_) (fun c4 => ?_)
      · replace h := h.1 c4
        refine x_iload_n C 31 55 rfl 1 rfl rfl ?_
        exact x_iret C rt 32 56 rfl () rfl h
      · replace h := h.2 c4
        refine x_iload_n C 15 28 rfl 1 rfl rfl ?_
        refine x_iconst (v := (1 : Int32)) C 16 29 rfl (by decide) ?_
        refine x_aload_n C 17 30 rfl 0 rfl rfl ?_
        refine x_get (v := .ref (aK 3)) C 18 31 rfl fi_X2 0 rfl rfl 2 (by decide) (mc wq_3_17) rfl ?_
        refine x_iload C 19 34 rfl 3 rfl ?_
        obtain ⟨hi, h⟩ := h
        refine x_iald (f := sK 2) C 20 36 rfl 3 rfl hi ?_
        refine x_ishl C 21 37 rfl ?_
        refine x_ior C 22 38 rfl ?_
        refine x_topi (fun y5 ey5 => ?_)
        replace h := h y5 ey5
        refine x_istore_n (lv' := [(0, .ref (aK 0)), (2, .int y5), (3, .int q1.2.1), (4, .int q1.2.2)]) C 23 39 rfl rfl (by decide) [1, 0, 2, 3] rfl ?_
        obtain ⟨y6, ey6⟩ : ∃ y : Int32, y = q1.2.1 + (1 : Int32) := ⟨_, rfl⟩
        replace h := h y6 ey6
        refine x_iinc (v := y6) (lv' := [(0, .ref (aK 0)), (2, .int y5), (3, .int y6), (4, .int q1.2.2)]) C 24 40 rfl 2 rfl (by rw [ey6]; rfl) (by decide) [1, 2, 0, 3] rfl ?_
        refine x_aload_n C 25 43 rfl 0 rfl rfl ?_
        refine x_get (v := .ref (aK 2)) C 26 44 rfl fi_X2 0 rfl rfl 1 (by decide) (mc wq_3_16) rfl ?_
        refine x_iload C 27 47 rfl 3 rfl ?_
        obtain ⟨hi, h⟩ := h
        refine x_iald (f := sK 1) C 28 49 rfl 2 rfl hi ?_
        refine x_topi (fun y7 ey7 => ?_)
        replace h := h y7 ey7
        refine x_istore (lv' := [(0, .ref (aK 0)), (2, .int y5), (3, .int y6), (4, .int y7)]) C 29 50 rfl (by decide) [1, 2, 3, 0] rfl ?_
        refine x_goto C 30 52 7 rfl rfl ?_
        exact x_sub [0, 1, 2, 3] rfl (hR7 (y5, y6, y7) h)
set_option maxHeartbeats 4000000 in
set_option maxRecDepth 100000 in
theorem w_X2_callsOnWay {x : CT} {aK : Nat → Nat} {sK : St} {p1 : Int32} {K : Int32 → Prop} (C : Cx x cX2_callsOnWay tb_X2_callsOnWay 5 RX2 (Cond.code yX2_callsOnWay cX2_callsOnWay 5 (some .int) :: wsL_law) ({ frames := 0, cells := 0, slots := 0, locals := 0 } : Room)) (rt : RetI x 0 0 (fun (u : Unit) => fl [wdK (xk x) aK sK]) (fun (r : Int32) (_ : Unit) => K r)) (h : wp_X2_callsOnWay sK p1 K) : Wx x 5 0 0 (fl [wdK (xk x) aK sK]) [(0, .ref (aK 0)), (1, .int p1)] 0 [] := by
  unfold wp_X2_callsOnWay at h
  refine x_iconst (v := (0 : Int32)) C 0 0 rfl (by decide) ?_
  refine x_istore_n (lv' := [(0, .ref (aK 0)), (1, .int p1), (2, .int (0 : Int32))]) C 1 1 rfl rfl (by decide) [1, 2, 0] rfl ?_
  refine x_iconst (v := (0 : Int32)) C 2 2 rfl (by decide) ?_
  refine x_istore_n (lv' := [(0, .ref (aK 0)), (1, .int p1), (2, .int (0 : Int32)), (3, .int (0 : Int32))]) C 3 3 rfl rfl (by decide) [1, 2, 3, 0] rfl ?_
  refine x_iload_n C 4 4 rfl 1 rfl rfl ?_
  refine x_istore (lv' := [(0, .ref (aK 0)), (2, .int (0 : Int32)), (3, .int (0 : Int32)), (4, .int p1)]) C 5 5 rfl (by decide) [1, 3, 4, 0] rfl ?_
  refine x_sub (lv' := [(0, .ref (aK 0)), (2, .int (0 : Int32)), (3, .int (0 : Int32)), (4, .int p1)]) [0, 1, 2, 3] rfl (w_X2_callsOnWay_7 C rt h)
theorem c_X2_callsOnWay (l : Launch) (D : va_G) (k : ClassId × ClassId) (g : Nat → Nat) (aK : Nat → Nat) (sK : St) (p1 : Int32) (K : Int32 → Prop) (h : wp_X2_callsOnWay sK p1 K) : ConI l yX2_callsOnWay (Cond.code yX2_callsOnWay cX2_callsOnWay 5 (some .int) :: wsL_law) ({ frames := 0, cells := 0, slots := 0, locals := 0 } : Room) D k g [.ref (aK 0), .int p1] (fl [wdK k aK sK]) (fun (u : Unit) => fl [wdK k aK sK]) (fun (r : Int32) (_ : Unit) => K r) := by
  refine ConI.of (tb := tb_X2_callsOnWay) (cc := cX2_callsOnWay) (nL := 5) (by decide) rfl tbk_X2_callsOnWay (Nat.le_of_ble_eq_true rfl) ?_
  intro x hl hD hk hg C rt
  subst hl hD hk hg
  exact w_X2_callsOnWay C rt h
set_option maxHeartbeats 4000000 in
set_option maxRecDepth 100000 in
theorem w_X2_sortByGap_20 {x : CT} {aK : Nat → Nat} {x1 : Int32} {x2 : Int32} {x3 : Int32} {K : St → Prop} {E64 : Int32 × St → Prop} (C : Cx x cX2_sortByGap tb_X2_sortByGap 5 RX2 (Cond.code yX2_sortByGap cX2_sortByGap 5 none :: wsL_law) ({ frames := 0, cells := 0, slots := 0, locals := 0 } : Room)) (rt : RetV x 0 0 (fun (u : St) => fl [wdK (xk x) aK u]) (fun (u : St) => K u)) (hE64 : ∀ q : Int32 × St, E64 q → Wx x 5 0 0 (fl [wdK (xk x) aK q.2]) [(0, .ref (aK 0)), (1, .int x1), (2, .int x2), (3, .int x3), (4, .int q.1)] 64 []) {q4 : Int32 × St} (h : Lp (F_X2_sortByGap_20 x1 x3 E64) q4) : Wx x 5 0 0 (fl [wdK (xk x) aK q4.2]) [(0, .ref (aK 0)), (1, .int x1), (2, .int x2), (3, .int x3), (4, .int q4.1)] 20 [] := by
  refine lp_walk (P := fun q4 => Wx x 5 0 0 (fl [wdK (xk x) aK q4.2]) [(0, .ref (aK 0)), (1, .int x1), (2, .int x2), (3, .int x3), (4, .int q4.1)] 20 []) (fun q4 R20 hR20 h => ?_) h
  refine x_iload C 13 20 rfl 4 rfl ?_
  refine x_iload_n C 14 22 rfl 1 rfl rfl ?_
  refine x_icmp_lt C 15 23 64 rfl rfl (fun c5 => ?_) (fun c5 => ?_)
  · replace h := h.1 c5
    exact x_sub [0, 1, 2, 3, 4] rfl (hE64 (q4.1, q4.2) h)
  · replace h := h.2 c5
    refine x_aload_n C 16 26 rfl 0 rfl rfl ?_
    refine x_get (v := .ref (aK 5)) C 17 27 rfl fi_X2 0 rfl rfl 4 (by decide) (mc wq_3_19) rfl ?_
    refine x_iload C 18 30 rfl 4 rfl ?_
    refine x_iload_n C 19 32 rfl 1 rfl rfl ?_
    refine x_isub C 20 33 rfl ?_
    obtain ⟨hi, h⟩ := h
    refine x_iald (f := q4.2 4) C 21 34 rfl 5 rfl hi ?_
    refine x_iload_n C 22 35 rfl 3 rfl rfl ?_
    refine x_icmp_le C 23 36 64 rfl rfl (fun c6 => ?_) (fun c6 => ?_)
    · replace h := h.1 c6
      exact x_sub [0, 1, 2, 3, 4] rfl (hE64 (q4.1, q4.2) h)
    · replace h := h.2 c6
      refine x_aload_n C 24 39 rfl 0 rfl rfl ?_
      refine x_get (v := .ref (aK 5)) C 25 40 rfl fi_X2 0 rfl rfl 4 (by decide) (mc wq_3_19) rfl ?_
      refine x_iload C 26 43 rfl 4 rfl ?_
      refine x_aload_n C 27 45 rfl 0 rfl rfl ?_
      refine x_get (v := .ref (aK 5)) C 28 46 rfl fi_X2 0 rfl rfl 4 (by decide) (mc wq_3_19) rfl ?_
      refine x_iload C 29 49 rfl 4 rfl ?_
      refine x_iload_n C 30 51 rfl 1 rfl rfl ?_
      refine x_isub C 31 52 rfl ?_
      obtain ⟨hi, h⟩ := h
      refine x_iald (f := q4.2 4) C 32 53 rfl 5 rfl hi ?_
      obtain ⟨hi, h⟩ := h
      obtain ⟨z7, ez7⟩ : ∃ z : St, z = ua q4.2 4 q4.1 (q4.2 4 (q4.1 - x1).toNatClampNeg) := ⟨_, rfl⟩
      replace h := h z7 ez7
      refine x_iast (f := q4.2 4) (ws' := fl [wdK (xk x) aK z7]) C 33 54 rfl 5 rfl hi (by rw [ez7]; rfl) ?_
      refine x_iload C 34 55 rfl 4 rfl ?_
      refine x_iload_n C 35 57 rfl 1 rfl rfl ?_
      refine x_isub C 36 58 rfl ?_
      refine x_topi (fun y8 ey8 => ?_)
      replace h := h y8 ey8
      refine x_istore (lv' := [(0, .ref (aK 0)), (1, .int x1), (2, .int x2), (3, .int x3), (4, .int y8)]) C 37 59 rfl (by decide) [1, 2, 3, 4, 0] rfl ?_
      refine x_goto C 38 61 20 rfl rfl ?_
      exact x_sub [0, 1, 2, 3, 4] rfl (hR20 (y8, z7) h)
set_option maxHeartbeats 4000000 in
set_option maxRecDepth 100000 in
theorem w_X2_sortByGap_2 {x : CT} {aK : Nat → Nat} {x1 : Int32} {K : St → Prop} (C : Cx x cX2_sortByGap tb_X2_sortByGap 5 RX2 (Cond.code yX2_sortByGap cX2_sortByGap 5 none :: wsL_law) ({ frames := 0, cells := 0, slots := 0, locals := 0 } : Room)) (rt : RetV x 0 0 (fun (u : St) => fl [wdK (xk x) aK u]) (fun (u : St) => K u))  {q1 : Int32 × St} (h : Lp (F_X2_sortByGap_2 x1 K) q1) : Wx x 5 0 0 (fl [wdK (xk x) aK q1.2]) [(0, .ref (aK 0)), (1, .int x1), (2, .int q1.1)] 2 [] := by
  refine lp_walk (P := fun q1 => Wx x 5 0 0 (fl [wdK (xk x) aK q1.2]) [(0, .ref (aK 0)), (1, .int x1), (2, .int q1.1)] 2 []) (fun q1 R2 hR2 h => ?_) h
  refine x_iload_n C 2 2 rfl 2 rfl rfl ?_
  refine x_aload_n C 3 3 rfl 0 rfl rfl ?_
  refine x_get (v := .int (q1.2 7 0)) C 4 4 rfl fi_X2 0 rfl rfl 7 (by decide) (mc wq_19_12) rfl ?_
  refine x_icmp_ge C 5 7 78 rfl rfl (fun c2 => ?_) (fun c2 => ?_)
  · replace h := h.1 c2
    exact x_vret C rt 46 78 rfl q1.2 rfl h
  · replace h := h.2 c2
    refine x_aload_n C 6 10 rfl 0 rfl rfl ?_
    refine x_get (v := .ref (aK 5)) C 7 11 rfl fi_X2 0 rfl rfl 4 (by decide) (mc wq_3_19) rfl ?_
    refine x_iload_n C 8 14 rfl 2 rfl rfl ?_
    obtain ⟨hi, h⟩ := h
    refine x_iald (f := q1.2 4) C 9 15 rfl 5 rfl hi ?_
    refine x_topi (fun y3 ey3 => ?_)
    replace h := h y3 ey3
    refine x_istore_n (lv' := [(0, .ref (aK 0)), (1, .int x1), (2, .int q1.1), (3, .int y3)]) C 10 16 rfl rfl (by decide) [1, 2, 3, 0] rfl ?_
    refine x_iload_n C 11 17 rfl 2 rfl rfl ?_
    refine x_istore (lv' := [(0, .ref (aK 0)), (1, .int x1), (2, .int q1.1), (3, .int y3), (4, .int q1.1)]) C 12 18 rfl (by decide) [1, 2, 3, 4, 0] rfl ?_
    refine x_sub (lv' := [(0, .ref (aK 0)), (1, .int x1), (2, .int q1.1), (3, .int y3), (4, .int q1.1)]) [0, 1, 2, 3, 4] rfl (w_X2_sortByGap_20 C rt (fun q9 h => ?_) h)
    · refine x_aload_n C 39 64 rfl 0 rfl rfl ?_
      refine x_get (v := .ref (aK 5)) C 40 65 rfl fi_X2 0 rfl rfl 4 (by decide) (mc wq_3_19) rfl ?_
      refine x_iload C 41 68 rfl 4 rfl ?_
      refine x_iload_n C 42 70 rfl 3 rfl rfl ?_
      obtain ⟨hi, h⟩ := h
      obtain ⟨z10, ez10⟩ : ∃ z : St, z = ua q9.2 4 q9.1 y3 := ⟨_, rfl⟩
      replace h := h z10 ez10
      refine x_iast (f := q9.2 4) (ws' := fl [wdK (xk x) aK z10]) C 43 71 rfl 5 rfl hi (by rw [ez10]; rfl) ?_
      obtain ⟨y11, ey11⟩ : ∃ y : Int32, y = q1.1 + (1 : Int32) := ⟨_, rfl⟩
      replace h := h y11 ey11
      refine x_iinc (v := y11) (lv' := [(0, .ref (aK 0)), (1, .int x1), (2, .int y11)]) C 44 72 rfl 2 rfl (by rw [ey11]; rfl) (by decide) [1, 2, 0] rfl ?_
      refine x_goto C 45 75 2 rfl rfl ?_
      exact x_sub [0, 1, 2] rfl (hR2 (y11, z10) h)
set_option maxHeartbeats 4000000 in
set_option maxRecDepth 100000 in
theorem w_X2_sortByGap {x : CT} {aK : Nat → Nat} {sK : St} {p1 : Int32} {K : St → Prop} (C : Cx x cX2_sortByGap tb_X2_sortByGap 5 RX2 (Cond.code yX2_sortByGap cX2_sortByGap 5 none :: wsL_law) ({ frames := 0, cells := 0, slots := 0, locals := 0 } : Room)) (rt : RetV x 0 0 (fun (u : St) => fl [wdK (xk x) aK u]) (fun (u : St) => K u)) (h : wp_X2_sortByGap sK p1 K) : Wx x 5 0 0 (fl [wdK (xk x) aK sK]) [(0, .ref (aK 0)), (1, .int p1)] 0 [] := by
  unfold wp_X2_sortByGap at h
  refine x_iload_n C 0 0 rfl 1 rfl rfl ?_
  refine x_istore_n (lv' := [(0, .ref (aK 0)), (1, .int p1), (2, .int p1)]) C 1 1 rfl rfl (by decide) [1, 2, 0] rfl ?_
  refine x_sub (lv' := [(0, .ref (aK 0)), (1, .int p1), (2, .int p1)]) [0, 1, 2] rfl (w_X2_sortByGap_2 C rt h)
theorem c_X2_sortByGap (l : Launch) (D : va_G) (k : ClassId × ClassId) (g : Nat → Nat) (aK : Nat → Nat) (sK : St) (p1 : Int32) (K : St → Prop) (h : wp_X2_sortByGap sK p1 K) : ConV l yX2_sortByGap (Cond.code yX2_sortByGap cX2_sortByGap 5 none :: wsL_law) ({ frames := 0, cells := 0, slots := 0, locals := 0 } : Room) D k g [.ref (aK 0), .int p1] (fl [wdK k aK sK]) (fun (u : St) => fl [wdK k aK u]) (fun (u : St) => K u) := by
  refine ConV.of (tb := tb_X2_sortByGap) (cc := cX2_sortByGap) (nL := 5) (by decide) rfl tbk_X2_sortByGap (Nat.le_of_ble_eq_true rfl) ?_
  intro x hl hD hk hg C rt
  subst hl hD hk hg
  exact w_X2_sortByGap C rt h
set_option maxHeartbeats 4000000 in
set_option maxRecDepth 100000 in
theorem wj_X2_keyInOrder_54 {x : CT} {aK : Nat → Nat} {sK : St} {x1 : Int32} {K : Int32 → St → Prop} (C : Cx x cX2_keyInOrder tb_X2_keyInOrder 3 RX2 (Cond.code yX2_keyInOrder cX2_keyInOrder 3 (some .int) :: wsL_law) ({ frames := 1, cells := 0, slots := 0, locals := 60 } : Room)) (rt : RetI x 0 0 (fun (u : St) => fl [wdK (xk x) aK u]) (fun (r : Int32) (u : St) => K r u))  (h : J_X2_keyInOrder_54 sK x1 K) : Wx x 3 0 0 (fl [wdK (xk x) aK sK]) [(0, .ref (aK 0)), (1, .int x1)] 54 [] := by
  unfold J_X2_keyInOrder_54 at h
  refine x_iload_n C 28 54 rfl 1 rfl rfl ?_
  refine x_if_lt C 29 55 75 rfl rfl (fun c2 => ?_) (fun c2 => ?_)
  · replace h := h.1 c2
    refine x_bipush (v := (-9 : Int32)) C 39 75 rfl (by decide) ?_
    exact x_iret C rt 40 77 rfl sK rfl h
  · replace h := h.2 c2
    refine x_iload_n C 30 58 rfl 1 rfl rfl ?_
    refine x_aload_n C 31 59 rfl 0 rfl rfl ?_
    refine x_get (v := .int (sK 7 0)) C 32 60 rfl fi_X2 0 rfl rfl 7 (by decide) (mc wq_19_12) rfl ?_
    refine x_icmp_ge C 33 63 75 rfl rfl (fun c3 => ?_) (fun c3 => ?_)
    · replace h := h.1 c3
      refine x_bipush (v := (-9 : Int32)) C 39 75 rfl (by decide) ?_
      exact x_iret C rt 40 77 rfl sK rfl h
    · replace h := h.2 c3
      refine x_aload_n C 34 66 rfl 0 rfl rfl ?_
      refine x_get (v := .ref (aK 5)) C 35 67 rfl fi_X2 0 rfl rfl 4 (by decide) (mc wq_3_19) rfl ?_
      refine x_iload_n C 36 70 rfl 1 rfl rfl ?_
      obtain ⟨hi, h⟩ := h
      refine x_iald (f := sK 4) C 37 71 rfl 5 rfl hi ?_
      refine x_goto C 38 72 77 rfl rfl ?_
      exact x_iret C rt 40 77 rfl sK rfl h
set_option maxHeartbeats 4000000 in
set_option maxRecDepth 100000 in
theorem w_X2_keyInOrder_26 {x : CT} {aK : Nat → Nat} {x1 : Int32} {K : Int32 → St → Prop} {E49 : St → Prop} (C : Cx x cX2_keyInOrder tb_X2_keyInOrder 3 RX2 (Cond.code yX2_keyInOrder cX2_keyInOrder 3 (some .int) :: wsL_law) ({ frames := 1, cells := 0, slots := 0, locals := 60 } : Room)) (rt : RetI x 0 0 (fun (u : St) => fl [wdK (xk x) aK u]) (fun (r : Int32) (u : St) => K r u)) (hE49 : ∀ q : St, E49 q → Wx x 3 0 0 (fl [wdK (xk x) aK q]) [(0, .ref (aK 0)), (1, .int x1)] 49 []) {q5 : Int32 × St} (h : Lp (F_X2_keyInOrder_26 E49) q5) : Wx x 3 0 0 (fl [wdK (xk x) aK q5.2]) [(0, .ref (aK 0)), (1, .int x1), (2, .int q5.1)] 26 [] := by
  refine lp_walk (P := fun q5 => Wx x 3 0 0 (fl [wdK (xk x) aK q5.2]) [(0, .ref (aK 0)), (1, .int x1), (2, .int q5.1)] 26 []) (fun q5 R26 hR26 h => ?_) h
  refine x_iload_n C 14 26 rfl 2 rfl rfl ?_
  refine x_gets1 C 15 27 rfl (mc wq_23_18) ?_
  refine x_tlen1 C 16 30 rfl ?_
  refine x_icmp_ge C 17 31 49 rfl rfl (fun c6 => ?_) (fun c6 => ?_)
  · replace h := h.1 c6
    exact x_sub [0, 1] rfl (hE49 q5.2 h)
  · replace h := h.2 c6
    refine x_aload_n C 18 34 rfl 0 rfl rfl ?_
    refine x_gets1 C 19 35 rfl (mc wq_23_18) ?_
    refine x_iload_n C 20 38 rfl 2 rfl rfl ?_
    obtain ⟨hi, h⟩ := h
    refine x_tld1 C 21 39 rfl hi ?_
    refine x_callWVV (ci := 1) (q0 := 0) (q := (RX2, TX2, 12)) C 22 40 (c_X2_sortByGap (xl x) (xD x) (xk x) (xg x) aK q5.2 (GAP q5.1.toNatClampNeg) _ h) rfl wwGood (mem4 wq_23_19 wq_23_20 wq_23_21 wq_2_4) wq_23_22 1 ok_X2_sortByGap rfl ⟨by decide, by decide⟩ (Nat.le_of_ble_eq_true rfl) ⟨Nat.le_refl _, Nat.le_refl _⟩ ⟨rfl, rfl⟩ rfl rfl rfl (fun u7 h => ?_)
    obtain ⟨y8, ey8⟩ : ∃ y : Int32, y = q5.1 + (1 : Int32) := ⟨_, rfl⟩
    replace h := h y8 ey8
    refine x_iinc (v := y8) (lv' := [(0, .ref (aK 0)), (1, .int x1), (2, .int y8)]) C 23 43 rfl 2 rfl (by rw [ey8]; rfl) (by decide) [1, 2, 0] rfl ?_
    refine x_goto C 24 46 26 rfl rfl ?_
    exact x_sub [0, 1, 2] rfl (hR26 (y8, u7) h)
set_option maxHeartbeats 4000000 in
set_option maxRecDepth 100000 in
theorem w_X2_keyInOrder {x : CT} {aK : Nat → Nat} {sK : St} {p1 : Int32} {K : Int32 → St → Prop} (C : Cx x cX2_keyInOrder tb_X2_keyInOrder 3 RX2 (Cond.code yX2_keyInOrder cX2_keyInOrder 3 (some .int) :: wsL_law) ({ frames := 1, cells := 0, slots := 0, locals := 60 } : Room)) (rt : RetI x 0 0 (fun (u : St) => fl [wdK (xk x) aK u]) (fun (r : Int32) (u : St) => K r u)) (h : wp_X2_keyInOrder sK p1 K) : Wx x 3 0 0 (fl [wdK (xk x) aK sK]) [(0, .ref (aK 0)), (1, .int p1)] 0 [] := by
  unfold wp_X2_keyInOrder at h
  refine x_aload_n C 0 0 rfl 0 rfl rfl ?_
  refine x_get (v := .int (sK 9 0)) C 1 1 rfl fi_X2 0 rfl rfl 9 (by decide) (mc wq_19_14) rfl ?_
  refine x_if_ne C 2 4 54 rfl rfl (fun c1 => ?_) (fun c1 => ?_)
  · replace h := h.2 c1
    exact x_sub (lv' := [(0, .ref (aK 0)), (1, .int p1)]) [0, 1] rfl (wj_X2_keyInOrder_54 C rt h)
  · replace h := h.1 c1
    refine x_aload_n C 3 7 rfl 0 rfl rfl ?_
    refine x_get (v := .ref (aK 1)) C 4 8 rfl fi_X2 0 rfl rfl 0 (by decide) (mc wq_3_15) rfl ?_
    refine x_iconst (v := (0 : Int32)) C 5 11 rfl (by decide) ?_
    refine x_aload_n C 6 12 rfl 0 rfl rfl ?_
    refine x_get (v := .ref (aK 5)) C 7 13 rfl fi_X2 0 rfl rfl 4 (by decide) (mc wq_3_19) rfl ?_
    refine x_iconst (v := (0 : Int32)) C 8 16 rfl (by decide) ?_
    refine x_aload_n C 9 17 rfl 0 rfl rfl ?_
    refine x_get (v := .int (sK 7 0)) C 10 18 rfl fi_X2 0 rfl rfl 7 (by decide) (mc wq_19_12) rfl ?_
    obtain ⟨hn, h5, h6, h⟩ := h
    obtain ⟨z4, ez4⟩ : ∃ z : St, z = uc sK 4 (sK 0) (0 : Int32) (0 : Int32) (sK 7 0) := ⟨_, rfl⟩
    replace h := h z4 ez4
    refine x_copy (f0 := sK 0) (f1 := sK 4) (ws' := fl [wdK (xk x) aK z4]) C 11 21 rfl (mc wq_23_17) (mc wq_13_6) (mc wq_13_7) (mc wq_13_8) 1 5 rfl rfl (by decide) (by decide) hn h5 h6 ⟨by decide, Nat.le_of_ble_eq_true rfl⟩ (by rw [ez4]; rfl) ?_
    refine x_iconst (v := (0 : Int32)) C 12 24 rfl (by decide) ?_
    refine x_istore_n (lv' := [(0, .ref (aK 0)), (1, .int p1), (2, .int (0 : Int32))]) C 13 25 rfl rfl (by decide) [1, 2, 0] rfl ?_
    refine x_sub (lv' := [(0, .ref (aK 0)), (1, .int p1), (2, .int (0 : Int32))]) [0, 1, 2] rfl (w_X2_keyInOrder_26 C rt (fun q9 h => ?_) h)
    · refine x_aload_n C 25 49 rfl 0 rfl rfl ?_
      refine x_iconst (v := (1 : Int32)) C 26 50 rfl (by decide) ?_
      obtain ⟨z10, ez10⟩ : ∃ z : St, z = us q9 9 (1 : Int32) := ⟨_, rfl⟩
      replace h := h z10 ez10
      refine x_put (ws' := fl [wdK (xk x) aK z10]) C 27 51 rfl fi_X2 tyX2 tyX2_ok nmX2 0 rfl rfl 9 (by decide) (mc wq_19_14) rfl (zb_n zb_1) (zb_f zb_1) (Nat.le_of_ble_eq_true rfl) (by rw [ez10]; rfl) ?_
      exact x_sub (lv' := [(0, .ref (aK 0)), (1, .int p1)]) [0, 1] rfl (wj_X2_keyInOrder_54 C rt h)
theorem c_X2_keyInOrder (l : Launch) (D : va_G) (k : ClassId × ClassId) (g : Nat → Nat) (aK : Nat → Nat) (sK : St) (p1 : Int32) (K : Int32 → St → Prop) (h : wp_X2_keyInOrder sK p1 K) : ConI l yX2_keyInOrder (Cond.code yX2_keyInOrder cX2_keyInOrder 3 (some .int) :: wsL_law) ({ frames := 1, cells := 0, slots := 0, locals := 60 } : Room) D k g [.ref (aK 0), .int p1] (fl [wdK k aK sK]) (fun (u : St) => fl [wdK k aK u]) (fun (r : Int32) (u : St) => K r u) := by
  refine ConI.of (tb := tb_X2_keyInOrder) (cc := cX2_keyInOrder) (nL := 3) (by decide) rfl tbk_X2_keyInOrder (Nat.le_of_ble_eq_true rfl) ?_
  intro x hl hD hk hg C rt
  subst hl hD hk hg
  exact w_X2_keyInOrder C rt h
set_option maxHeartbeats 4000000 in
set_option maxRecDepth 100000 in
theorem wj_X2_fallsByOrder_26 {x : CT} {x1 : Int32} {x2 : Int32} {t0 : Int32} {K : Int32 → Prop} {E34 : Int32 → Prop} {R2 : Int32 → Prop} (C : Cx x cX2_fallsByOrder tb_X2_fallsByOrder 5 RX2 (Cond.code yX2_fallsByOrder cX2_fallsByOrder 5 (some .boolean) :: wsL_law) ({ frames := 1, cells := 0, slots := 0, locals := 22 } : Room)) (rt : RetZ x 0 0 (fun (u : Unit) => fl []) (fun (r : Int32) (_ : Unit) => K r)) (hE34 : ∀ q : Int32, E34 q → Wx x 5 0 0 (fl []) [(4, .int q)] 34 []) (hR2 : ∀ q : Int32, R2 q → Wx x 5 0 0 (fl []) [(1, .int x1), (2, .int q)] 2 []) (h : J_X2_fallsByOrder_26 x2 t0 E34 R2) : Wx x 5 0 0 (fl []) [(1, .int x1), (2, .int x2)] 26 [.int t0] := by
  unfold J_X2_fallsByOrder_26 at h
  refine x_istore (lv' := [(1, .int x1), (2, .int x2), (4, .int t0)]) C 18 26 rfl (by decide) [1, 2, 0] rfl ?_
  refine x_iload C 19 28 rfl 2 rfl ?_
  refine x_iconst (v := (1 : Int32)) C 20 30 rfl (by decide) ?_
  refine x_icmp_eq C 21 31 46 rfl rfl (fun c6 => ?_) (fun c6 => ?_)
  · replace h := h.1 c6
    refine x_iload_n C 29 46 rfl 1 rfl rfl ?_
    refine x_iconst (v := (2 : Int32)) C 30 47 rfl (by decide) ?_
    refine x_ishr C 31 48 rfl ?_
    refine x_topi (fun y7 ey7 => ?_)
    replace h := h y7 ey7
    refine x_istore_n (lv' := [(1, .int x1), (2, .int y7)]) C 32 49 rfl rfl (by decide) [1, 0] rfl ?_
    refine x_goto C 33 50 2 rfl rfl ?_
    exact x_sub [0, 1] rfl (hR2 y7 h)
  · replace h := h.2 c6
    exact x_sub [2] rfl (hE34 t0 h)
set_option maxHeartbeats 4000000 in
set_option maxRecDepth 100000 in
theorem w_X2_fallsByOrder_2 {x : CT} {x1 : Int32} {K : Int32 → Prop} {E34 : Int32 → Prop} (C : Cx x cX2_fallsByOrder tb_X2_fallsByOrder 5 RX2 (Cond.code yX2_fallsByOrder cX2_fallsByOrder 5 (some .boolean) :: wsL_law) ({ frames := 1, cells := 0, slots := 0, locals := 22 } : Room)) (rt : RetZ x 0 0 (fun (u : Unit) => fl []) (fun (r : Int32) (_ : Unit) => K r)) (hE34 : ∀ q : Int32, E34 q → Wx x 5 0 0 (fl []) [(4, .int q)] 34 []) {q1 : Int32} (h : Lp (F_X2_fallsByOrder_2 x1 K E34) q1) : Wx x 5 0 0 (fl []) [(1, .int x1), (2, .int q1)] 2 [] := by
  refine lp_walk (P := fun q1 => Wx x 5 0 0 (fl []) [(1, .int x1), (2, .int q1)] 2 []) (fun q1 R2 hR2 h => ?_) h
  refine x_iload_n C 2 2 rfl 1 rfl rfl ?_
  refine x_if_le C 3 3 53 rfl rfl (fun c2 => ?_) (fun c2 => ?_)
  · replace h := h.1 c2
    refine x_iconst (v := (0 : Int32)) C 34 53 rfl (by decide) ?_
    exact x_zret C rt 35 54 rfl zb_0 () rfl h
  · replace h := h.2 c2
    refine x_iload_n C 4 6 rfl 1 rfl rfl ?_
    refine x_iconst (v := (3 : Int32)) C 5 7 rfl (by decide) ?_
    refine x_iand C 6 8 rfl ?_
    refine x_iconst (v := (1 : Int32)) C 7 9 rfl (by decide) ?_
    refine x_isub C 8 10 rfl ?_
    refine x_topi (fun y3 ey3 => ?_)
    replace h := h y3 ey3
    refine x_istore_n (lv' := [(1, .int x1), (2, .int q1), (3, .int y3)]) C 9 11 rfl rfl (by decide) [1, 2, 0] rfl ?_
    refine x_iload_n C 10 12 rfl 2 rfl rfl ?_
    refine x_if_ge C 11 13 20 rfl rfl (fun c4 => ?_) (fun c4 => ?_)
    · replace h := h.1 c4
      refine x_iload_n C 14 20 rfl 0 rfl rfl ?_
      refine x_iload_n C 15 21 rfl 2 rfl rfl ?_
      refine x_iload_n C 16 22 rfl 2 rfl rfl ?_
      refine x_call0SI C 17 23 (c_X0_at (xl x) (xD x) (xk x) (xg x) x1 y3 y3 _ h) rfl wwGood (mem3 wq_30_15 wq_12_19 wq_12_20) wq_12_21 3 ok_X0_at rfl ⟨by decide, by decide⟩ (Nat.le_of_ble_eq_true rfl) ⟨Nat.le_refl _, Nat.le_refl _⟩ ⟨rfl, rfl⟩ rfl (fun r5 _ h => ?_)
      exact x_sub (lv' := [(1, .int x1), (2, .int q1)]) [0, 1] rfl (wj_X2_fallsByOrder_26 C rt hE34 hR2 h)
    · replace h := h.2 c4
      refine x_iconst (v := (0 : Int32)) C 12 16 rfl (by decide) ?_
      refine x_goto C 13 17 26 rfl rfl ?_
      exact x_sub (lv' := [(1, .int x1), (2, .int q1)]) [0, 1] rfl (wj_X2_fallsByOrder_26 C rt hE34 hR2 h)
set_option maxHeartbeats 4000000 in
set_option maxRecDepth 100000 in
theorem w_X2_fallsByOrder {x : CT} {p1 : Int32} {p2 : Int32} {K : Int32 → Prop} (C : Cx x cX2_fallsByOrder tb_X2_fallsByOrder 5 RX2 (Cond.code yX2_fallsByOrder cX2_fallsByOrder 5 (some .boolean) :: wsL_law) ({ frames := 1, cells := 0, slots := 0, locals := 22 } : Room)) (rt : RetZ x 0 0 (fun (u : Unit) => fl []) (fun (r : Int32) (_ : Unit) => K r)) (h : wp_X2_fallsByOrder p1 p2 K) : Wx x 5 0 0 (fl []) [(0, .int p1), (1, .int p2)] 0 [] := by
  unfold wp_X2_fallsByOrder at h
  refine x_iload_n C 0 0 rfl 0 rfl rfl ?_
  refine x_istore_n (lv' := [(1, .int p2), (2, .int p1)]) C 1 1 rfl rfl (by decide) [2, 0] rfl ?_
  refine x_sub (lv' := [(1, .int p2), (2, .int p1)]) [0, 1] rfl (w_X2_fallsByOrder_2 C rt (fun q8 h => ?_) h)
  · refine x_iload C 22 34 rfl 0 rfl ?_
    refine x_iconst (v := (2 : Int32)) C 23 36 rfl (by decide) ?_
    refine x_icmp_ne C 24 37 44 rfl rfl (fun c9 => ?_) (fun c9 => ?_)
    · replace h := h.2 c9
      refine x_iconst (v := (0 : Int32)) C 27 44 rfl (by decide) ?_
      exact x_zret C rt 28 45 rfl zb_0 () rfl h
    · replace h := h.1 c9
      refine x_iconst (v := (1 : Int32)) C 25 40 rfl (by decide) ?_
      refine x_goto C 26 41 45 rfl rfl ?_
      exact x_zret C rt 28 45 rfl zb_1 () rfl h
theorem c_X2_fallsByOrder (l : Launch) (D : va_G) (k : ClassId × ClassId) (g : Nat → Nat) (p1 : Int32) (p2 : Int32) (K : Int32 → Prop) (h : wp_X2_fallsByOrder p1 p2 K) : ConZ l yX2_fallsByOrder (Cond.code yX2_fallsByOrder cX2_fallsByOrder 5 (some .boolean) :: wsL_law) ({ frames := 1, cells := 0, slots := 0, locals := 22 } : Room) D k g [.int p1, .int p2] (fl []) (fun (u : Unit) => fl []) (fun (r : Int32) (_ : Unit) => K r) := by
  refine ConZ.of (tb := tb_X2_fallsByOrder) (cc := cX2_fallsByOrder) (nL := 5) (by decide) rfl tbk_X2_fallsByOrder (Nat.le_of_ble_eq_true rfl) ?_
  intro x hl hD hk hg C rt
  subst hl hD hk hg
  exact w_X2_fallsByOrder C rt h
set_option maxHeartbeats 4000000 in
set_option maxRecDepth 100000 in
theorem w_X2_fallsBy_2 {x : CT} {aK : Nat → Nat} {sK : St} {x1 : Int32} {x2 : Int32} {K : Int32 → Prop} (C : Cx x cX2_fallsBy tb_X2_fallsBy 5 RX2 (Cond.code yX2_fallsBy cX2_fallsBy 5 (some .boolean) :: wsL_law) ({ frames := 2, cells := 0, slots := 0, locals := 46 } : Room)) (rt : RetZ x 0 0 (fun (u : Unit) => fl [wdK (xk x) aK sK]) (fun (r : Int32) (_ : Unit) => K r))  {q1 : Int32} (h : Lp (F_X2_fallsBy_2 sK x1 x2 K) q1) : Wx x 5 0 0 (fl [wdK (xk x) aK sK]) [(0, .ref (aK 0)), (1, .int x1), (2, .int x2), (3, .int q1)] 2 [] := by
  refine lp_walk (P := fun q1 => Wx x 5 0 0 (fl [wdK (xk x) aK sK]) [(0, .ref (aK 0)), (1, .int x1), (2, .int x2), (3, .int q1)] 2 []) (fun q1 R2 hR2 h => ?_) h
  refine x_iload_n C 2 2 rfl 3 rfl rfl ?_
  refine x_aload_n C 3 3 rfl 0 rfl rfl ?_
  refine x_get (v := .int (sK 7 0)) C 4 4 rfl fi_X2 0 rfl rfl 7 (by decide) (mc wq_19_12) rfl ?_
  refine x_icmp_ge C 5 7 56 rfl rfl (fun c2 => ?_) (fun c2 => ?_)
  · replace h := h.1 c2
    refine x_iconst (v := (1 : Int32)) C 28 56 rfl (by decide) ?_
    exact x_zret C rt 29 57 rfl zb_1 () rfl h
  · replace h := h.2 c2
    refine x_aload_n C 6 10 rfl 0 rfl rfl ?_
    refine x_get (v := .ref (aK 1)) C 7 11 rfl fi_X2 0 rfl rfl 0 (by decide) (mc wq_3_15) rfl ?_
    refine x_iload_n C 8 14 rfl 3 rfl rfl ?_
    obtain ⟨hi, h⟩ := h
    refine x_iald (f := sK 0) C 9 15 rfl 1 rfl hi ?_
    refine x_topi (fun y3 ey3 => ?_)
    replace h := h y3 ey3
    refine x_istore (lv' := [(0, .ref (aK 0)), (1, .int x1), (2, .int x2), (3, .int q1), (4, .int y3)]) C 10 16 rfl (by decide) [1, 2, 3, 4, 0] rfl ?_
    refine x_iload C 11 18 rfl 4 rfl ?_
    refine x_call0SI C 12 20 (c_X3_from (xl x) (xD x) (xk x) (xg x) y3 _ h) rfl wwGood (mem3 wq_21_17 wq_20_21 wq_20_5) wq_20_22 1 ok_X3_from rfl ⟨by decide, by decide⟩ (Nat.le_of_ble_eq_true rfl) ⟨Nat.le_refl _, Nat.le_refl _⟩ ⟨rfl, rfl⟩ rfl (fun r4 _ h => ?_)
    refine x_iload_n C 13 23 rfl 2 rfl rfl ?_
    refine x_icmp_ne C 14 24 50 rfl rfl (fun c5 => ?_) (fun c5 => ?_)
    · replace h := h.2 c5
      obtain ⟨y6, ey6⟩ : ∃ y : Int32, y = q1 + (1 : Int32) := ⟨_, rfl⟩
      replace h := h y6 ey6
      refine x_iinc (v := y6) (lv' := [(0, .ref (aK 0)), (1, .int x1), (2, .int x2), (3, .int y6)]) C 26 50 rfl 3 rfl (by rw [ey6]; rfl) (by decide) [1, 2, 3, 0] rfl ?_
      refine x_goto C 27 53 2 rfl rfl ?_
      exact x_sub [0, 1, 2, 3] rfl (hR2 y6 h)
    · replace h := h.1 c5
      refine x_iload C 15 27 rfl 4 rfl ?_
      refine x_call0SI C 16 29 (c_X3_to (xl x) (xD x) (xk x) (xg x) y3 _ h) rfl wwGood (mem3 wq_21_22 wq_21_0 wq_20_5) wq_21_1 1 ok_X3_to rfl ⟨by decide, by decide⟩ (Nat.le_of_ble_eq_true rfl) ⟨Nat.le_refl _, Nat.le_refl _⟩ ⟨rfl, rfl⟩ rfl (fun r7 _ h => ?_)
      refine x_iload_n C 17 32 rfl 2 rfl rfl ?_
      refine x_icmp_ne C 18 33 50 rfl rfl (fun c8 => ?_) (fun c8 => ?_)
      · replace h := h.2 c8
        obtain ⟨y9, ey9⟩ : ∃ y : Int32, y = q1 + (1 : Int32) := ⟨_, rfl⟩
        replace h := h y9 ey9
        refine x_iinc (v := y9) (lv' := [(0, .ref (aK 0)), (1, .int x1), (2, .int x2), (3, .int y9)]) C 26 50 rfl 3 rfl (by rw [ey9]; rfl) (by decide) [1, 2, 3, 0] rfl ?_
        refine x_goto C 27 53 2 rfl rfl ?_
        exact x_sub [0, 1, 2, 3] rfl (hR2 y9 h)
      · replace h := h.1 c8
        refine x_iload_n C 19 36 rfl 1 rfl rfl ?_
        refine x_iload C 20 37 rfl 4 rfl ?_
        refine x_call0SI C 21 39 (c_X3_arcs (xl x) (xD x) (xk x) (xg x) y3 _ h) rfl wwGood (mem3 wq_30_11 wq_24_2 wq_20_5) wq_24_3 1 ok_X3_arcs rfl ⟨by decide, by decide⟩ (Nat.le_of_ble_eq_true rfl) ⟨Nat.le_refl _, Nat.le_refl _⟩ ⟨rfl, rfl⟩ rfl (fun r10 _ h => ?_)
        refine x_call0SZ C 22 42 (c_X2_fallsByOrder (xl x) (xD x) (xk x) (xg x) x1 r10 _ h) rfl wwGood (mem3 wq_30_12 wq_30_13 wq_2_4) wq_30_14 2 ok_X2_fallsByOrder rfl ⟨by decide, by decide⟩ (Nat.le_of_ble_eq_true rfl) ⟨Nat.le_refl _, Nat.le_refl _⟩ ⟨rfl, rfl⟩ rfl (fun r11 _ h => ?_)
        refine x_if_ne C 23 45 50 rfl rfl (fun c12 => ?_) (fun c12 => ?_)
        · replace h := h.2 c12
          obtain ⟨y13, ey13⟩ : ∃ y : Int32, y = q1 + (1 : Int32) := ⟨_, rfl⟩
          replace h := h y13 ey13
          refine x_iinc (v := y13) (lv' := [(0, .ref (aK 0)), (1, .int x1), (2, .int x2), (3, .int y13)]) C 26 50 rfl 3 rfl (by rw [ey13]; rfl) (by decide) [1, 2, 3, 0] rfl ?_
          refine x_goto C 27 53 2 rfl rfl ?_
          exact x_sub [0, 1, 2, 3] rfl (hR2 y13 h)
        · replace h := h.1 c12
          refine x_iconst (v := (0 : Int32)) C 24 48 rfl (by decide) ?_
          exact x_zret C rt 25 49 rfl zb_0 () rfl h
set_option maxHeartbeats 4000000 in
set_option maxRecDepth 100000 in
theorem w_X2_fallsBy {x : CT} {aK : Nat → Nat} {sK : St} {p1 : Int32} {p2 : Int32} {K : Int32 → Prop} (C : Cx x cX2_fallsBy tb_X2_fallsBy 5 RX2 (Cond.code yX2_fallsBy cX2_fallsBy 5 (some .boolean) :: wsL_law) ({ frames := 2, cells := 0, slots := 0, locals := 46 } : Room)) (rt : RetZ x 0 0 (fun (u : Unit) => fl [wdK (xk x) aK sK]) (fun (r : Int32) (_ : Unit) => K r)) (h : wp_X2_fallsBy sK p1 p2 K) : Wx x 5 0 0 (fl [wdK (xk x) aK sK]) [(0, .ref (aK 0)), (1, .int p1), (2, .int p2)] 0 [] := by
  unfold wp_X2_fallsBy at h
  refine x_iconst (v := (0 : Int32)) C 0 0 rfl (by decide) ?_
  refine x_istore_n (lv' := [(0, .ref (aK 0)), (1, .int p1), (2, .int p2), (3, .int (0 : Int32))]) C 1 1 rfl rfl (by decide) [1, 2, 3, 0] rfl ?_
  refine x_sub (lv' := [(0, .ref (aK 0)), (1, .int p1), (2, .int p2), (3, .int (0 : Int32))]) [0, 1, 2, 3] rfl (w_X2_fallsBy_2 C rt h)
theorem c_X2_fallsBy (l : Launch) (D : va_G) (k : ClassId × ClassId) (g : Nat → Nat) (aK : Nat → Nat) (sK : St) (p1 : Int32) (p2 : Int32) (K : Int32 → Prop) (h : wp_X2_fallsBy sK p1 p2 K) : ConZ l yX2_fallsBy (Cond.code yX2_fallsBy cX2_fallsBy 5 (some .boolean) :: wsL_law) ({ frames := 2, cells := 0, slots := 0, locals := 46 } : Room) D k g [.ref (aK 0), .int p1, .int p2] (fl [wdK k aK sK]) (fun (u : Unit) => fl [wdK k aK sK]) (fun (r : Int32) (_ : Unit) => K r) := by
  refine ConZ.of (tb := tb_X2_fallsBy) (cc := cX2_fallsBy) (nL := 5) (by decide) rfl tbk_X2_fallsBy (Nat.le_of_ble_eq_true rfl) ?_
  intro x hl hD hk hg C rt
  subst hl hD hk hg
  exact w_X2_fallsBy C rt h
