set_option maxHeartbeats 4000000 in
set_option maxRecDepth 100000 in
theorem w_X10_in {x : CT} {p1 : Int64} {p2 : Int64} {p3 : Int64} {K : Int32 → Prop} (C : Cx x cX10_in tb_X10_in 6 RX10 (Cond.code yX10_in cX10_in 6 (some .boolean) :: wsL_law) ({ frames := 0, cells := 0, slots := 0, locals := 0 } : Room)) (rt : RetZ x 0 0 (fun (u : Unit) => fl []) (fun (r : Int32) (_ : Unit) => K r)) (h : wp_X10_in p1 p2 p3 K) : Wx x 6 0 0 (fl []) [(0, .long p1), (2, .long p2), (4, .long p3)] 0 [] := by
  unfold wp_X10_in at h
  refine x_lload_n C 0 0 rfl 0 rfl rfl ?_
  refine x_lload_n C 1 1 rfl 1 rfl rfl ?_
  refine x_lcmp C 2 2 rfl ?_
  refine x_if_lt C 3 3 17 rfl rfl (fun c1 => ?_) (fun c1 => ?_)
  · replace h := h.1 c1
    refine x_iconst (v := (0 : Int32)) C 10 17 rfl (by decide) ?_
    exact x_zret C rt 11 18 rfl zb_0 () rfl h
  · replace h := h.2 c1
    refine x_lload_n C 4 6 rfl 0 rfl rfl ?_
    refine x_lload C 5 7 rfl 2 rfl ?_
    refine x_lcmp C 6 9 rfl ?_
    refine x_if_gt C 7 10 17 rfl rfl (fun c2 => ?_) (fun c2 => ?_)
    · replace h := h.1 c2
      refine x_iconst (v := (0 : Int32)) C 10 17 rfl (by decide) ?_
      exact x_zret C rt 11 18 rfl zb_0 () rfl h
    · replace h := h.2 c2
      refine x_iconst (v := (1 : Int32)) C 8 13 rfl (by decide) ?_
      refine x_goto C 9 14 18 rfl rfl ?_
      exact x_zret C rt 11 18 rfl zb_1 () rfl h
theorem c_X10_in (l : Launch) (D : va_G) (k : ClassId × ClassId) (g : Nat → Nat) (p1 : Int64) (p2 : Int64) (p3 : Int64) (K : Int32 → Prop) (h : wp_X10_in p1 p2 p3 K) : ConZ l yX10_in (Cond.code yX10_in cX10_in 6 (some .boolean) :: wsL_law) ({ frames := 0, cells := 0, slots := 0, locals := 0 } : Room) D k g [.long p1, .long p2, .long p3] (fl []) (fun (u : Unit) => fl []) (fun (r : Int32) (_ : Unit) => K r) := by
  refine ConZ.of (tb := tb_X10_in) (cc := cX10_in) (nL := 6) (by decide) rfl tbk_X10_in (Nat.le_of_ble_eq_true rfl) ?_
  intro x hl hD hk hg C rt
  subst hl hD hk hg
  exact w_X10_in C rt h
set_option maxHeartbeats 4000000 in
set_option maxRecDepth 100000 in
theorem w_X10_type_34 {x : CT} {aS : Nat → Nat} {sL : Int64} {x1 : Int64} {K : Int32 → St → Prop} (C : Cx x cX10_type tb_X10_type 5 RX10 (Cond.code yX10_type cX10_type 5 (some .int) :: wsL_law) ({ frames := 1, cells := 0, slots := 0, locals := 25 } : Room)) (rt : RetI x 0 0 (fun (u : St) => fl [wdS (xk x) aS u sL]) (fun (r : Int32) (u : St) => K r u))  {q5 : Int32 × St} (h : Lp (F_X10_type_34 x1 K) q5) : Wx x 5 0 0 (fl [wdS (xk x) aS q5.2 sL]) [(0, .ref (aS 0)), (1, .long x1), (4, .int q5.1)] 34 [] := by
  refine lp_walk (P := fun q5 => Wx x 5 0 0 (fl [wdS (xk x) aS q5.2 sL]) [(0, .ref (aS 0)), (1, .long x1), (4, .int q5.1)] 34 []) (fun q5 R34 hR34 h => ?_) h
  refine x_iload C 20 34 rfl 2 rfl ?_
  refine x_if_lt C 21 36 76 rfl rfl (fun c6 => ?_) (fun c6 => ?_)
  · replace h := h.1 c6
    refine x_aload_n C 43 76 rfl 0 rfl rfl ?_
    refine x_get (v := .int (q5.2 0 0)) C 44 77 rfl fi_X10 0 rfl rfl 0 (by decide) (mc wq_6_19) rfl ?_
    exact x_iret C rt 45 80 rfl q5.2 rfl h
  · replace h := h.2 c6
    refine x_aload_n C 22 39 rfl 0 rfl rfl ?_
    refine x_get (v := .ref (aS 1)) C 23 40 rfl fi_X10 0 rfl rfl 1 (by decide) (mc wq_5_3) rfl ?_
    refine x_aload_n C 24 43 rfl 0 rfl rfl ?_
    refine x_get (v := .int (q5.2 0 0)) C 25 44 rfl fi_X10 0 rfl rfl 0 (by decide) (mc wq_6_19) rfl ?_
    refine x_lload_n C 26 47 rfl 1 rfl rfl ?_
    refine x_bipush (v := (8 : Int32)) C 27 48 rfl (by decide) ?_
    refine x_iload C 28 50 rfl 2 rfl ?_
    refine x_imul C 29 52 rfl ?_
    refine x_lshr C 30 53 rfl ?_
    refine x_ldc2 (v := (255 : Int64)) C 31 54 rfl (mc wq_6_20) ?_
    refine x_land C 32 57 rfl ?_
    refine x_l2i C 33 58 rfl ?_
    obtain ⟨hi, h⟩ := h
    obtain ⟨z7, ez7⟩ : ∃ z : St, z = ua q5.2 1 (q5.2 0 0) (((x1 >>> (((8 : Int32) * q5.1).toInt64 &&& 63)) &&& (255 : Int64)).toInt32) := ⟨_, rfl⟩
    replace h := h z7 ez7
    refine x_iast (f := q5.2 1) (ws' := fl [wdS (xk x) aS z7 sL]) C 34 59 rfl 1 rfl hi (by rw [ez7]; rfl) ?_
    refine x_aload_n C 35 60 rfl 0 rfl rfl ?_
    refine x_dup C 36 61 rfl rfl ?_
    refine x_get (v := .int (z7 0 0)) C 37 62 rfl fi_X10 0 rfl rfl 0 (by decide) (mc wq_6_19) rfl ?_
    refine x_iconst (v := (1 : Int32)) C 38 65 rfl (by decide) ?_
    refine x_iadd C 39 66 rfl ?_
    obtain ⟨z8, ez8⟩ : ∃ z : St, z = us z7 0 (z7 0 0 + (1 : Int32)) := ⟨_, rfl⟩
    replace h := h z8 ez8
    refine x_put (ws' := fl [wdS (xk x) aS z8 sL]) C 40 67 rfl fi_X10 tyX10 tyX10_ok nmX10 0 rfl rfl 0 (by decide) (mc wq_6_19) rfl rfl rfl (Nat.le_of_ble_eq_true rfl) (by rw [ez8]; rfl) ?_
    obtain ⟨y9, ey9⟩ : ∃ y : Int32, y = q5.1 + (-1 : Int32) := ⟨_, rfl⟩
    replace h := h y9 ey9
    refine x_iinc (v := y9) (lv' := [(0, .ref (aS 0)), (1, .long x1), (4, .int y9)]) C 41 70 rfl 2 rfl (by rw [ey9]; rfl) (by decide) [1, 2, 0] rfl ?_
    refine x_goto C 42 73 34 rfl rfl ?_
    exact x_sub [0, 1, 2] rfl (hR34 (y9, z8) h)
set_option maxHeartbeats 4000000 in
set_option maxRecDepth 100000 in
theorem w_X10_type {x : CT} {aS : Nat → Nat} {sS : St} {sL : Int64} {p1 : Int64} {p2 : Int32} {K : Int32 → St → Prop} (C : Cx x cX10_type tb_X10_type 5 RX10 (Cond.code yX10_type cX10_type 5 (some .int) :: wsL_law) ({ frames := 1, cells := 0, slots := 0, locals := 25 } : Room)) (rt : RetI x 0 0 (fun (u : St) => fl [wdS (xk x) aS u sL]) (fun (r : Int32) (u : St) => K r u)) (h : wp_X10_type sS sL p1 p2 K) : Wx x 5 0 0 (fl [wdS (xk x) aS sS sL]) [(0, .ref (aS 0)), (1, .long p1), (3, .int p2)] 0 [] := by
  unfold wp_X10_type at h
  refine x_iload_n C 0 0 rfl 2 rfl rfl ?_
  refine x_i2l C 1 1 rfl ?_
  refine x_lconst (v := (1 : Int64)) C 2 2 rfl (by decide) ?_
  refine x_ldc2 (v := (8 : Int64)) C 3 3 rfl (mc wq_6_18) ?_
  refine x_call0SZ C 4 6 (c_X10_in (xl x) (xD x) (xk x) (xg x) p2.toInt64 (1 : Int64) (8 : Int64) _ h) rfl wwGood (mem3 wq_6_21 wq_6_22 wq_1_5) wq_6_23 3 ok_X10_in rfl ⟨by decide, by decide⟩ (Nat.le_of_ble_eq_true rfl) ⟨Nat.le_refl _, Nat.le_refl _⟩ ⟨rfl, rfl⟩ rfl (fun r1 _ h => ?_)
  refine x_if_ne C 5 9 14 rfl rfl (fun c2 => ?_) (fun c2 => ?_)
  · replace h := h.2 c2
    refine x_aload_n C 8 14 rfl 0 rfl rfl ?_
    refine x_get (v := .int (sS 0 0)) C 9 15 rfl fi_X10 0 rfl rfl 0 (by decide) (mc wq_6_19) rfl ?_
    refine x_iload_n C 10 18 rfl 2 rfl rfl ?_
    refine x_iadd C 11 19 rfl ?_
    refine x_sipush (v := (300 : Int32)) C 12 20 rfl (by decide) ?_
    refine x_icmp_le C 13 23 29 rfl rfl (fun c3 => ?_) (fun c3 => ?_)
    · replace h := h.1 c3
      refine x_iload_n C 16 29 rfl 2 rfl rfl ?_
      refine x_iconst (v := (1 : Int32)) C 17 30 rfl (by decide) ?_
      refine x_isub C 18 31 rfl ?_
      refine x_topi (fun y4 ey4 => ?_)
      replace h := h y4 ey4
      refine x_istore (lv' := [(0, .ref (aS 0)), (1, .long p1), (4, .int y4)]) C 19 32 rfl (by decide) [1, 2, 0] rfl ?_
      refine x_sub (lv' := [(0, .ref (aS 0)), (1, .long p1), (4, .int y4)]) [0, 1, 2] rfl (w_X10_type_34 C rt h)
    · replace h := h.2 c3
      refine x_bipush (v := (-3 : Int32)) C 14 26 rfl (by decide) ?_
      exact x_iret C rt 15 28 rfl sS rfl h
  · replace h := h.1 c2
    refine x_iconst (v := (-1 : Int32)) C 6 12 rfl (by decide) ?_
    exact x_iret C rt 7 13 rfl sS rfl h
theorem c_X10_type (l : Launch) (D : va_G) (k : ClassId × ClassId) (g : Nat → Nat) (aS : Nat → Nat) (sS : St) (sL : Int64) (p1 : Int64) (p2 : Int32) (K : Int32 → St → Prop) (h : wp_X10_type sS sL p1 p2 K) : ConI l yX10_type (Cond.code yX10_type cX10_type 5 (some .int) :: wsL_law) ({ frames := 1, cells := 0, slots := 0, locals := 25 } : Room) D k g [.ref (aS 0), .long p1, .int p2] (fl [wdS k aS sS sL]) (fun (u : St) => fl [wdS k aS u sL]) (fun (r : Int32) (u : St) => K r u) := by
  refine ConI.of (tb := tb_X10_type) (cc := cX10_type) (nL := 5) (by decide) rfl tbk_X10_type (Nat.le_of_ble_eq_true rfl) ?_
  intro x hl hD hk hg C rt
  subst hl hD hk hg
  exact w_X10_type C rt h
set_option maxHeartbeats 4000000 in
set_option maxRecDepth 100000 in
theorem w_X10_clear {x : CT} {aS : Nat → Nat} {sS : St} {sL : Int64} {K : Int32 → St → Prop} (C : Cx x cX10_clear tb_X10_clear 2 RX10 (Cond.code yX10_clear cX10_clear 2 (some .int) :: wsL_law) ({ frames := 0, cells := 0, slots := 0, locals := 0 } : Room)) (rt : RetI x 0 0 (fun (u : St) => fl [wdS (xk x) aS u sL]) (fun (r : Int32) (u : St) => K r u)) (h : wp_X10_clear sS sL K) : Wx x 2 0 0 (fl [wdS (xk x) aS sS sL]) [(0, .ref (aS 0))] 0 [] := by
  unfold wp_X10_clear at h
  refine x_aload_n C 0 0 rfl 0 rfl rfl ?_
  refine x_get (v := .int (sS 0 0)) C 1 1 rfl fi_X10 0 rfl rfl 0 (by decide) (mc wq_6_19) rfl ?_
  refine x_topi (fun y1 ey1 => ?_)
  replace h := h y1 ey1
  refine x_istore_n (lv' := [(0, .ref (aS 0)), (1, .int y1)]) C 2 4 rfl rfl (by decide) [1, 0] rfl ?_
  refine x_aload_n C 3 5 rfl 0 rfl rfl ?_
  refine x_iconst (v := (0 : Int32)) C 4 6 rfl (by decide) ?_
  obtain ⟨z2, ez2⟩ : ∃ z : St, z = us sS 0 (0 : Int32) := ⟨_, rfl⟩
  replace h := h z2 ez2
  refine x_put (ws' := fl [wdS (xk x) aS z2 sL]) C 5 7 rfl fi_X10 tyX10 tyX10_ok nmX10 0 rfl rfl 0 (by decide) (mc wq_6_19) rfl rfl rfl (Nat.le_of_ble_eq_true rfl) (by rw [ez2]; rfl) ?_
  refine x_iload_n C 6 10 rfl 1 rfl rfl ?_
  exact x_iret C rt 7 11 rfl z2 rfl h
theorem c_X10_clear (l : Launch) (D : va_G) (k : ClassId × ClassId) (g : Nat → Nat) (aS : Nat → Nat) (sS : St) (sL : Int64) (K : Int32 → St → Prop) (h : wp_X10_clear sS sL K) : ConI l yX10_clear (Cond.code yX10_clear cX10_clear 2 (some .int) :: wsL_law) ({ frames := 0, cells := 0, slots := 0, locals := 0 } : Room) D k g [.ref (aS 0)] (fl [wdS k aS sS sL]) (fun (u : St) => fl [wdS k aS u sL]) (fun (r : Int32) (u : St) => K r u) := by
  refine ConI.of (tb := tb_X10_clear) (cc := cX10_clear) (nL := 2) (by decide) rfl tbk_X10_clear (Nat.le_of_ble_eq_true rfl) ?_
  intro x hl hD hk hg C rt
  subst hl hD hk hg
  exact w_X10_clear C rt h
set_option maxHeartbeats 4000000 in
set_option maxRecDepth 100000 in
theorem w_X10_byteAt {x : CT} {aS : Nat → Nat} {sS : St} {sL : Int64} {p1 : Int32} {K : Int32 → Prop} (C : Cx x cX10_byteAt tb_X10_byteAt 2 RX10 (Cond.code yX10_byteAt cX10_byteAt 2 (some .int) :: wsL_law) ({ frames := 0, cells := 0, slots := 0, locals := 0 } : Room)) (rt : RetI x 0 0 (fun (u : Unit) => fl [wdS (xk x) aS sS sL]) (fun (r : Int32) (_ : Unit) => K r)) (h : wp_X10_byteAt sS sL p1 K) : Wx x 2 0 0 (fl [wdS (xk x) aS sS sL]) [(0, .ref (aS 0)), (1, .int p1)] 0 [] := by
  unfold wp_X10_byteAt at h
  refine x_iload_n C 0 0 rfl 1 rfl rfl ?_
  refine x_aload_n C 1 1 rfl 0 rfl rfl ?_
  refine x_get (v := .int (sS 0 0)) C 2 2 rfl fi_X10 0 rfl rfl 0 (by decide) (mc wq_6_19) rfl ?_
  refine x_icmp_ge C 3 5 17 rfl rfl (fun c1 => ?_) (fun c1 => ?_)
  · replace h := h.1 c1
    refine x_iconst (v := (0 : Int32)) C 9 17 rfl (by decide) ?_
    exact x_iret C rt 10 18 rfl () rfl h
  · replace h := h.2 c1
    refine x_aload_n C 4 8 rfl 0 rfl rfl ?_
    refine x_get (v := .ref (aS 1)) C 5 9 rfl fi_X10 0 rfl rfl 1 (by decide) (mc wq_5_3) rfl ?_
    refine x_iload_n C 6 12 rfl 1 rfl rfl ?_
    obtain ⟨hi, h⟩ := h
    refine x_iald (f := sS 1) C 7 13 rfl 1 rfl hi ?_
    refine x_goto C 8 14 18 rfl rfl ?_
    exact x_iret C rt 10 18 rfl () rfl h
theorem c_X10_byteAt (l : Launch) (D : va_G) (k : ClassId × ClassId) (g : Nat → Nat) (aS : Nat → Nat) (sS : St) (sL : Int64) (p1 : Int32) (K : Int32 → Prop) (h : wp_X10_byteAt sS sL p1 K) : ConI l yX10_byteAt (Cond.code yX10_byteAt cX10_byteAt 2 (some .int) :: wsL_law) ({ frames := 0, cells := 0, slots := 0, locals := 0 } : Room) D k g [.ref (aS 0), .int p1] (fl [wdS k aS sS sL]) (fun (u : Unit) => fl [wdS k aS sS sL]) (fun (r : Int32) (_ : Unit) => K r) := by
  refine ConI.of (tb := tb_X10_byteAt) (cc := cX10_byteAt) (nL := 2) (by decide) rfl tbk_X10_byteAt (Nat.le_of_ble_eq_true rfl) ?_
  intro x hl hD hk hg C rt
  subst hl hD hk hg
  exact w_X10_byteAt C rt h
set_option maxHeartbeats 4000000 in
set_option maxRecDepth 100000 in
theorem wj_X10_isWord_46 {x : CT} {aS : Nat → Nat} {sS : St} {sL : Int64} {x1 : Int32} {x5 : Int32} {t0 : Int32} {K : Int32 → Prop} (C : Cx x cX10_isWord tb_X10_isWord 7 RX10 (Cond.code yX10_isWord cX10_isWord 7 (some .boolean) :: wsL_law) ({ frames := 1, cells := 0, slots := 0, locals := 21 } : Room)) (rt : RetZ x 0 0 (fun (u : Unit) => fl [wdS (xk x) aS sS sL]) (fun (r : Int32) (_ : Unit) => K r))  (h : J_X10_isWord_46 sS sL x1 x5 t0 K) : Wx x 7 0 0 (fl [wdS (xk x) aS sS sL]) [(0, .ref (aS 0)), (1, .int x1), (5, .int x5)] 46 [.int t0] := by
  unfold J_X10_isWord_46 at h
  refine x_istore (lv' := [(0, .ref (aS 0)), (1, .int x1), (5, .int x5), (6, .int t0)]) C 25 46 rfl (by decide) [1, 2, 3, 0] rfl ?_
  refine x_iload C 26 48 rfl 3 rfl ?_
  refine x_if_eq C 27 50 100 rfl rfl (fun c3 => ?_) (fun c3 => ?_)
  · replace h := h.1 c3
    refine x_iconst (v := (0 : Int32)) C 53 100 rfl (by decide) ?_
    exact x_zret C rt 54 101 rfl zb_0 () rfl h
  · replace h := h.2 c3
    refine x_iload C 28 53 rfl 2 rfl ?_
    refine x_if_ne C 29 55 71 rfl rfl (fun c4 => ?_) (fun c4 => ?_)
    · replace h := h.2 c4
      refine x_aload_n C 37 71 rfl 0 rfl rfl ?_
      refine x_aload_n C 38 72 rfl 0 rfl rfl ?_
      refine x_get (v := .int (sS 13 0)) C 39 73 rfl fi_X10 0 rfl rfl 13 (by decide) (mc wq_14_12) rfl ?_
      refine x_iconst (v := (3 : Int32)) C 40 76 rfl (by decide) ?_
      refine x_iadd C 41 77 rfl ?_
      refine x_callWVI (ci := 8) (q0 := 0) (q := (RX10, TX10, 34)) C 42 78 (c_X10_byteAt (xl x) (xD x) (xk x) (xg x) aS sS sL (sS 13 0 + (3 : Int32)) _ h) rfl wwGood (mem4 wq_15_0 wq_15_1 wq_15_2 wq_1_5) wq_15_3 1 ok_X10_byteAt rfl ⟨by decide, by decide⟩ (Nat.le_of_ble_eq_true rfl) ⟨Nat.le_refl _, Nat.le_refl _⟩ ⟨rfl, rfl⟩ rfl rfl rfl (fun r5 _ h => ?_)
      refine x_iload C 43 81 rfl 2 rfl ?_
      refine x_icmp_ne C 44 83 100 rfl rfl (fun c6 => ?_) (fun c6 => ?_)
      · replace h := h.2 c6
        refine x_iconst (v := (0 : Int32)) C 53 100 rfl (by decide) ?_
        exact x_zret C rt 54 101 rfl zb_0 () rfl h
      · replace h := h.1 c6
        refine x_iload_n C 45 86 rfl 1 rfl rfl ?_
        refine x_aload_n C 46 87 rfl 0 rfl rfl ?_
        refine x_get (v := .int (sS 13 0)) C 47 88 rfl fi_X10 0 rfl rfl 13 (by decide) (mc wq_14_12) rfl ?_
        refine x_iconst (v := (4 : Int32)) C 48 91 rfl (by decide) ?_
        refine x_iadd C 49 92 rfl ?_
        refine x_icmp_ne C 50 93 100 rfl rfl (fun c7 => ?_) (fun c7 => ?_)
        · replace h := h.2 c7
          refine x_iconst (v := (0 : Int32)) C 53 100 rfl (by decide) ?_
          exact x_zret C rt 54 101 rfl zb_0 () rfl h
        · replace h := h.1 c7
          refine x_iconst (v := (1 : Int32)) C 51 96 rfl (by decide) ?_
          refine x_goto C 52 97 101 rfl rfl ?_
          exact x_zret C rt 54 101 rfl zb_1 () rfl h
    · replace h := h.1 c4
      refine x_iload_n C 30 58 rfl 1 rfl rfl ?_
      refine x_aload_n C 31 59 rfl 0 rfl rfl ?_
      refine x_get (v := .int (sS 13 0)) C 32 60 rfl fi_X10 0 rfl rfl 13 (by decide) (mc wq_14_12) rfl ?_
      refine x_iconst (v := (3 : Int32)) C 33 63 rfl (by decide) ?_
      refine x_iadd C 34 64 rfl ?_
      refine x_icmp_ne C 35 65 100 rfl rfl (fun c8 => ?_) (fun c8 => ?_)
      · replace h := h.2 c8
        refine x_iconst (v := (0 : Int32)) C 53 100 rfl (by decide) ?_
        exact x_zret C rt 54 101 rfl zb_0 () rfl h
      · replace h := h.1 c8
        refine x_goto C 36 68 96 rfl rfl ?_
        refine x_iconst (v := (1 : Int32)) C 51 96 rfl (by decide) ?_
        refine x_goto C 52 97 101 rfl rfl ?_
        exact x_zret C rt 54 101 rfl zb_1 () rfl h
set_option maxHeartbeats 4000000 in
set_option maxRecDepth 100000 in
theorem wj_X10_isWord_45 {x : CT} {aS : Nat → Nat} {sS : St} {sL : Int64} {x1 : Int32} {x5 : Int32} {K : Int32 → Prop} (C : Cx x cX10_isWord tb_X10_isWord 7 RX10 (Cond.code yX10_isWord cX10_isWord 7 (some .boolean) :: wsL_law) ({ frames := 1, cells := 0, slots := 0, locals := 21 } : Room)) (rt : RetZ x 0 0 (fun (u : Unit) => fl [wdS (xk x) aS sS sL]) (fun (r : Int32) (_ : Unit) => K r))  (h : J_X10_isWord_45 sS sL x1 x5 K) : Wx x 7 0 0 (fl [wdS (xk x) aS sS sL]) [(0, .ref (aS 0)), (1, .int x1), (5, .int x5)] 45 [] := by
  unfold J_X10_isWord_45 at h
  refine x_iconst (v := (0 : Int32)) C 24 45 rfl (by decide) ?_
  exact x_sub (lv' := [(0, .ref (aS 0)), (1, .int x1), (5, .int x5)]) [0, 1, 2] rfl (wj_X10_isWord_46 C rt h)
set_option maxHeartbeats 4000000 in
set_option maxRecDepth 100000 in
theorem w_X10_isWord {x : CT} {aS : Nat → Nat} {sS : St} {sL : Int64} {p1 : Int32} {p2 : Int32} {p3 : Int32} {p4 : Int32} {p5 : Int32} {K : Int32 → Prop} (C : Cx x cX10_isWord tb_X10_isWord 7 RX10 (Cond.code yX10_isWord cX10_isWord 7 (some .boolean) :: wsL_law) ({ frames := 1, cells := 0, slots := 0, locals := 21 } : Room)) (rt : RetZ x 0 0 (fun (u : Unit) => fl [wdS (xk x) aS sS sL]) (fun (r : Int32) (_ : Unit) => K r)) (h : wp_X10_isWord sS sL p1 p2 p3 p4 p5 K) : Wx x 7 0 0 (fl [wdS (xk x) aS sS sL]) [(0, .ref (aS 0)), (1, .int p1), (2, .int p2), (3, .int p3), (4, .int p4), (5, .int p5)] 0 [] := by
  unfold wp_X10_isWord at h
  refine x_aload_n C 0 0 rfl 0 rfl rfl ?_
  refine x_aload_n C 1 1 rfl 0 rfl rfl ?_
  refine x_get (v := .int (sS 13 0)) C 2 2 rfl fi_X10 0 rfl rfl 13 (by decide) (mc wq_14_12) rfl ?_
  refine x_callWVI (ci := 8) (q0 := 0) (q := (RX10, TX10, 34)) C 3 5 (c_X10_byteAt (xl x) (xD x) (xk x) (xg x) aS sS sL (sS 13 0) _ h) rfl wwGood (mem4 wq_15_0 wq_15_1 wq_15_2 wq_1_5) wq_15_3 1 ok_X10_byteAt rfl ⟨by decide, by decide⟩ (Nat.le_of_ble_eq_true rfl) ⟨Nat.le_refl _, Nat.le_refl _⟩ ⟨rfl, rfl⟩ rfl rfl rfl (fun r1 _ h => ?_)
  refine x_iload_n C 4 8 rfl 2 rfl rfl ?_
  refine x_icmp_ne C 5 9 45 rfl rfl (fun c2 => ?_) (fun c2 => ?_)
  · replace h := h.2 c2
    exact x_sub (lv' := [(0, .ref (aS 0)), (1, .int p1), (5, .int p5)]) [0, 1, 5] rfl (wj_X10_isWord_45 C rt h)
  · replace h := h.1 c2
    refine x_aload_n C 6 12 rfl 0 rfl rfl ?_
    refine x_aload_n C 7 13 rfl 0 rfl rfl ?_
    refine x_get (v := .int (sS 13 0)) C 8 14 rfl fi_X10 0 rfl rfl 13 (by decide) (mc wq_14_12) rfl ?_
    refine x_iconst (v := (1 : Int32)) C 9 17 rfl (by decide) ?_
    refine x_iadd C 10 18 rfl ?_
    refine x_callWVI (ci := 8) (q0 := 0) (q := (RX10, TX10, 34)) C 11 19 (c_X10_byteAt (xl x) (xD x) (xk x) (xg x) aS sS sL (sS 13 0 + (1 : Int32)) _ h) rfl wwGood (mem4 wq_15_0 wq_15_1 wq_15_2 wq_1_5) wq_15_3 1 ok_X10_byteAt rfl ⟨by decide, by decide⟩ (Nat.le_of_ble_eq_true rfl) ⟨Nat.le_refl _, Nat.le_refl _⟩ ⟨rfl, rfl⟩ rfl rfl rfl (fun r9 _ h => ?_)
    refine x_iload_n C 12 22 rfl 3 rfl rfl ?_
    refine x_icmp_ne C 13 23 45 rfl rfl (fun c10 => ?_) (fun c10 => ?_)
    · replace h := h.2 c10
      exact x_sub (lv' := [(0, .ref (aS 0)), (1, .int p1), (5, .int p5)]) [0, 1, 5] rfl (wj_X10_isWord_45 C rt h)
    · replace h := h.1 c10
      refine x_aload_n C 14 26 rfl 0 rfl rfl ?_
      refine x_aload_n C 15 27 rfl 0 rfl rfl ?_
      refine x_get (v := .int (sS 13 0)) C 16 28 rfl fi_X10 0 rfl rfl 13 (by decide) (mc wq_14_12) rfl ?_
      refine x_iconst (v := (2 : Int32)) C 17 31 rfl (by decide) ?_
      refine x_iadd C 18 32 rfl ?_
      refine x_callWVI (ci := 8) (q0 := 0) (q := (RX10, TX10, 34)) C 19 33 (c_X10_byteAt (xl x) (xD x) (xk x) (xg x) aS sS sL (sS 13 0 + (2 : Int32)) _ h) rfl wwGood (mem4 wq_15_0 wq_15_1 wq_15_2 wq_1_5) wq_15_3 1 ok_X10_byteAt rfl ⟨by decide, by decide⟩ (Nat.le_of_ble_eq_true rfl) ⟨Nat.le_refl _, Nat.le_refl _⟩ ⟨rfl, rfl⟩ rfl rfl rfl (fun r11 _ h => ?_)
      refine x_iload C 20 36 rfl 4 rfl ?_
      refine x_icmp_ne C 21 38 45 rfl rfl (fun c12 => ?_) (fun c12 => ?_)
      · replace h := h.2 c12
        exact x_sub (lv' := [(0, .ref (aS 0)), (1, .int p1), (5, .int p5)]) [0, 1, 5] rfl (wj_X10_isWord_45 C rt h)
      · replace h := h.1 c12
        refine x_iconst (v := (1 : Int32)) C 22 41 rfl (by decide) ?_
        refine x_goto C 23 42 46 rfl rfl ?_
        exact x_sub (lv' := [(0, .ref (aS 0)), (1, .int p1), (5, .int p5)]) [0, 1, 5] rfl (wj_X10_isWord_46 C rt h)
theorem c_X10_isWord (l : Launch) (D : va_G) (k : ClassId × ClassId) (g : Nat → Nat) (aS : Nat → Nat) (sS : St) (sL : Int64) (p1 : Int32) (p2 : Int32) (p3 : Int32) (p4 : Int32) (p5 : Int32) (K : Int32 → Prop) (h : wp_X10_isWord sS sL p1 p2 p3 p4 p5 K) : ConZ l yX10_isWord (Cond.code yX10_isWord cX10_isWord 7 (some .boolean) :: wsL_law) ({ frames := 1, cells := 0, slots := 0, locals := 21 } : Room) D k g [.ref (aS 0), .int p1, .int p2, .int p3, .int p4, .int p5] (fl [wdS k aS sS sL]) (fun (u : Unit) => fl [wdS k aS sS sL]) (fun (r : Int32) (_ : Unit) => K r) := by
  refine ConZ.of (tb := tb_X10_isWord) (cc := cX10_isWord) (nL := 7) (by decide) rfl tbk_X10_isWord (Nat.le_of_ble_eq_true rfl) ?_
  intro x hl hD hk hg C rt
  subst hl hD hk hg
  exact w_X10_isWord C rt h
set_option maxHeartbeats 4000000 in
set_option maxRecDepth 100000 in
theorem w_X10_token_0 {x : CT} {aS : Nat → Nat} {sL : Int64} {K : Int32 → St → Prop} {E26 : St → Prop} (C : Cx x cX10_token tb_X10_token 3 RX10 (Cond.code yX10_token cX10_token 3 (some .int) :: wsL_law) ({ frames := 2, cells := 0, slots := 0, locals := 47 } : Room)) (rt : RetI x 0 0 (fun (u : St) => fl [wdS (xk x) aS u sL]) (fun (r : Int32) (u : St) => K r u)) (hE26 : ∀ q : St, E26 q → Wx x 3 0 0 (fl [wdS (xk x) aS q sL]) [(0, .ref (aS 0))] 26 []) {q1 : St} (h : Lp (F_X10_token_0 sL E26) q1) : Wx x 3 0 0 (fl [wdS (xk x) aS q1 sL]) [(0, .ref (aS 0))] 0 [] := by
  refine lp_walk (P := fun q1 => Wx x 3 0 0 (fl [wdS (xk x) aS q1 sL]) [(0, .ref (aS 0))] 0 []) (fun q1 R0 hR0 h => ?_) h
  refine x_aload_n C 0 0 rfl 0 rfl rfl ?_
  refine x_aload_n C 1 1 rfl 0 rfl rfl ?_
  refine x_get (v := .int (q1 12 0)) C 2 2 rfl fi_X10 0 rfl rfl 12 (by decide) (mc wq_14_11) rfl ?_
  refine x_callWVI (ci := 8) (q0 := 0) (q := (RX10, TX10, 34)) C 3 5 (c_X10_byteAt (xl x) (xD x) (xk x) (xg x) aS q1 sL (q1 12 0) _ h) rfl wwGood (mem4 wq_15_0 wq_15_1 wq_15_2 wq_1_5) wq_15_3 1 ok_X10_byteAt rfl ⟨by decide, by decide⟩ (Nat.le_of_ble_eq_true rfl) ⟨Nat.le_refl _, Nat.le_refl _⟩ ⟨rfl, rfl⟩ rfl rfl rfl (fun r2 _ h => ?_)
  refine x_bipush (v := (32 : Int32)) C 4 8 rfl (by decide) ?_
  refine x_icmp_ne C 5 10 26 rfl rfl (fun c3 => ?_) (fun c3 => ?_)
  · replace h := h.2 c3
    exact x_sub [0] rfl (hE26 q1 h)
  · replace h := h.1 c3
    refine x_aload_n C 6 13 rfl 0 rfl rfl ?_
    refine x_dup C 7 14 rfl rfl ?_
    refine x_get (v := .int (q1 12 0)) C 8 15 rfl fi_X10 0 rfl rfl 12 (by decide) (mc wq_14_11) rfl ?_
    refine x_iconst (v := (1 : Int32)) C 9 18 rfl (by decide) ?_
    refine x_iadd C 10 19 rfl ?_
    obtain ⟨z4, ez4⟩ : ∃ z : St, z = us q1 12 (q1 12 0 + (1 : Int32)) := ⟨_, rfl⟩
    replace h := h z4 ez4
    refine x_put (ws' := fl [wdS (xk x) aS z4 sL]) C 11 20 rfl fi_X10 tyX10 tyX10_ok nmX10 0 rfl rfl 12 (by decide) (mc wq_14_11) rfl rfl rfl (Nat.le_of_ble_eq_true rfl) (by rw [ez4]; rfl) ?_
    refine x_goto C 12 23 0 rfl rfl ?_
    exact x_sub [0] rfl (hR0 z4 h)
set_option maxHeartbeats 4000000 in
set_option maxRecDepth 100000 in
theorem w_X10_token_168 {x : CT} {aS : Nat → Nat} {sL : Int64} {x1 : Int32} {K : Int32 → St → Prop} {E216 : St → Prop} (C : Cx x cX10_token tb_X10_token 3 RX10 (Cond.code yX10_token cX10_token 3 (some .int) :: wsL_law) ({ frames := 2, cells := 0, slots := 0, locals := 47 } : Room)) (rt : RetI x 0 0 (fun (u : St) => fl [wdS (xk x) aS u sL]) (fun (r : Int32) (u : St) => K r u)) (hE216 : ∀ q : St, E216 q → Wx x 3 0 0 (fl [wdS (xk x) aS q sL]) [(0, .ref (aS 0))] 216 []) {q18 : St} (h : Lp (F_X10_token_168 sL x1 E216) q18) : Wx x 3 0 0 (fl [wdS (xk x) aS q18 sL]) [(0, .ref (aS 0)), (1, .int x1)] 168 [] := by
  refine lp_walk (P := fun q18 => Wx x 3 0 0 (fl [wdS (xk x) aS q18 sL]) [(0, .ref (aS 0)), (1, .int x1)] 168 []) (fun q18 R168 hR168 h => ?_) h
  refine x_iload_n C 89 168 rfl 1 rfl rfl ?_
  refine x_i2l C 90 169 rfl ?_
  refine x_ldc2 (v := (97 : Int64)) C 91 170 rfl (mc wq_14_22) ?_
  refine x_ldc2 (v := (122 : Int64)) C 92 173 rfl (mc wq_14_23) ?_
  refine x_call0SZ C 93 176 (c_X10_in (xl x) (xD x) (xk x) (xg x) x1.toInt64 (97 : Int64) (122 : Int64) _ h) rfl wwGood (mem3 wq_6_21 wq_6_22 wq_1_5) wq_6_23 3 ok_X10_in rfl ⟨by decide, by decide⟩ (Nat.le_of_ble_eq_true rfl) ⟨Nat.le_refl _, Nat.le_refl _⟩ ⟨rfl, rfl⟩ rfl (fun r19 _ h => ?_)
  refine x_if_eq C 94 179 216 rfl rfl (fun c20 => ?_) (fun c20 => ?_)
  · replace h := h.1 c20
    exact x_sub [0] rfl (hE216 q18 h)
  · replace h := h.2 c20
    refine x_aload_n C 95 182 rfl 0 rfl rfl ?_
    refine x_aload_n C 96 183 rfl 0 rfl rfl ?_
    refine x_get (v := .int (q18 12 0)) C 97 184 rfl fi_X10 0 rfl rfl 12 (by decide) (mc wq_14_11) rfl ?_
    refine x_callWVI (ci := 8) (q0 := 0) (q := (RX10, TX10, 34)) C 98 187 (c_X10_byteAt (xl x) (xD x) (xk x) (xg x) aS q18 sL (q18 12 0) _ h) rfl wwGood (mem4 wq_15_0 wq_15_1 wq_15_2 wq_1_5) wq_15_3 1 ok_X10_byteAt rfl ⟨by decide, by decide⟩ (Nat.le_of_ble_eq_true rfl) ⟨Nat.le_refl _, Nat.le_refl _⟩ ⟨rfl, rfl⟩ rfl rfl rfl (fun r21 _ h => ?_)
    refine x_i2l C 99 190 rfl ?_
    refine x_ldc2 (v := (97 : Int64)) C 100 191 rfl (mc wq_14_22) ?_
    refine x_ldc2 (v := (122 : Int64)) C 101 194 rfl (mc wq_14_23) ?_
    refine x_call0SZ C 102 197 (c_X10_in (xl x) (xD x) (xk x) (xg x) r21.toInt64 (97 : Int64) (122 : Int64) _ h) rfl wwGood (mem3 wq_6_21 wq_6_22 wq_1_5) wq_6_23 3 ok_X10_in rfl ⟨by decide, by decide⟩ (Nat.le_of_ble_eq_true rfl) ⟨Nat.le_refl _, Nat.le_refl _⟩ ⟨rfl, rfl⟩ rfl (fun r22 _ h => ?_)
    refine x_if_eq C 103 200 216 rfl rfl (fun c23 => ?_) (fun c23 => ?_)
    · replace h := h.1 c23
      exact x_sub [0] rfl (hE216 q18 h)
    · replace h := h.2 c23
      refine x_aload_n C 104 203 rfl 0 rfl rfl ?_
      refine x_dup C 105 204 rfl rfl ?_
      refine x_get (v := .int (q18 12 0)) C 106 205 rfl fi_X10 0 rfl rfl 12 (by decide) (mc wq_14_11) rfl ?_
      refine x_iconst (v := (1 : Int32)) C 107 208 rfl (by decide) ?_
      refine x_iadd C 108 209 rfl ?_
      obtain ⟨z24, ez24⟩ : ∃ z : St, z = us q18 12 (q18 12 0 + (1 : Int32)) := ⟨_, rfl⟩
      replace h := h z24 ez24
      refine x_put (ws' := fl [wdS (xk x) aS z24 sL]) C 109 210 rfl fi_X10 tyX10 tyX10_ok nmX10 0 rfl rfl 12 (by decide) (mc wq_14_11) rfl rfl rfl (Nat.le_of_ble_eq_true rfl) (by rw [ez24]; rfl) ?_
      refine x_goto C 110 213 168 rfl rfl ?_
      exact x_sub [0, 1] rfl (hR168 z24 h)
set_option maxHeartbeats 4000000 in
set_option maxRecDepth 100000 in
theorem wj_X10_token_216 {x : CT} {aS : Nat → Nat} {sS : St} {sL : Int64} {K : Int32 → St → Prop} (C : Cx x cX10_token tb_X10_token 3 RX10 (Cond.code yX10_token cX10_token 3 (some .int) :: wsL_law) ({ frames := 2, cells := 0, slots := 0, locals := 47 } : Room)) (rt : RetI x 0 0 (fun (u : St) => fl [wdS (xk x) aS u sL]) (fun (r : Int32) (u : St) => K r u))  (h : J_X10_token_216 sS sL K) : Wx x 3 0 0 (fl [wdS (xk x) aS sS sL]) [(0, .ref (aS 0))] 216 [] := by
  unfold J_X10_token_216 at h
  refine x_aload_n C 111 216 rfl 0 rfl rfl ?_
  refine x_aload_n C 112 217 rfl 0 rfl rfl ?_
  refine x_get (v := .int (sS 12 0)) C 113 218 rfl fi_X10 0 rfl rfl 12 (by decide) (mc wq_14_11) rfl ?_
  refine x_bipush (v := (97 : Int32)) C 114 221 rfl (by decide) ?_
  refine x_bipush (v := (99 : Int32)) C 115 223 rfl (by decide) ?_
  refine x_bipush (v := (116 : Int32)) C 116 225 rfl (by decide) ?_
  refine x_iconst (v := (0 : Int32)) C 117 227 rfl (by decide) ?_
  refine x_callWVZ (ci := 8) (q0 := 0) (q := (RX10, TX10, 34)) C 118 228 (c_X10_isWord (xl x) (xD x) (xk x) (xg x) aS sS sL (sS 12 0) (97 : Int32) (99 : Int32) (116 : Int32) (0 : Int32) _ h) rfl wwGood (mem4 wq_15_4 wq_15_5 wq_15_6 wq_1_5) wq_15_7 5 ok_X10_isWord rfl ⟨by decide, by decide⟩ (Nat.le_of_ble_eq_true rfl) ⟨Nat.le_refl _, Nat.le_refl _⟩ ⟨rfl, rfl⟩ rfl rfl rfl (fun r26 _ h => ?_)
  refine x_if_eq C 119 231 238 rfl rfl (fun c27 => ?_) (fun c27 => ?_)
  · replace h := h.1 c27
    refine x_aload_n C 122 238 rfl 0 rfl rfl ?_
    refine x_aload_n C 123 239 rfl 0 rfl rfl ?_
    refine x_get (v := .int (sS 12 0)) C 124 240 rfl fi_X10 0 rfl rfl 12 (by decide) (mc wq_14_11) rfl ?_
    refine x_bipush (v := (99 : Int32)) C 125 243 rfl (by decide) ?_
    refine x_bipush (v := (97 : Int32)) C 126 245 rfl (by decide) ?_
    refine x_bipush (v := (108 : Int32)) C 127 247 rfl (by decide) ?_
    refine x_bipush (v := (108 : Int32)) C 128 249 rfl (by decide) ?_
    refine x_callWVZ (ci := 8) (q0 := 0) (q := (RX10, TX10, 34)) C 129 251 (c_X10_isWord (xl x) (xD x) (xk x) (xg x) aS sS sL (sS 12 0) (99 : Int32) (97 : Int32) (108 : Int32) (108 : Int32) _ h) rfl wwGood (mem4 wq_15_4 wq_15_5 wq_15_6 wq_1_5) wq_15_7 5 ok_X10_isWord rfl ⟨by decide, by decide⟩ (Nat.le_of_ble_eq_true rfl) ⟨Nat.le_refl _, Nat.le_refl _⟩ ⟨rfl, rfl⟩ rfl rfl rfl (fun r28 _ h => ?_)
    refine x_if_eq C 130 254 261 rfl rfl (fun c29 => ?_) (fun c29 => ?_)
    · replace h := h.1 c29
      refine x_bipush (v := (6 : Int32)) C 133 261 rfl (by decide) ?_
      exact x_iret C rt 134 263 rfl sS rfl h
    · replace h := h.2 c29
      refine x_iconst (v := (2 : Int32)) C 131 257 rfl (by decide) ?_
      refine x_goto C 132 258 263 rfl rfl ?_
      exact x_iret C rt 134 263 rfl sS rfl h
  · replace h := h.2 c27
    refine x_iconst (v := (1 : Int32)) C 120 234 rfl (by decide) ?_
    refine x_goto C 121 235 263 rfl rfl ?_
    exact x_iret C rt 134 263 rfl sS rfl h
set_option maxHeartbeats 4000000 in
set_option maxRecDepth 100000 in
theorem w_X10_token {x : CT} {aS : Nat → Nat} {sS : St} {sL : Int64} {K : Int32 → St → Prop} (C : Cx x cX10_token tb_X10_token 3 RX10 (Cond.code yX10_token cX10_token 3 (some .int) :: wsL_law) ({ frames := 2, cells := 0, slots := 0, locals := 47 } : Room)) (rt : RetI x 0 0 (fun (u : St) => fl [wdS (xk x) aS u sL]) (fun (r : Int32) (u : St) => K r u)) (h : wp_X10_token sS sL K) : Wx x 3 0 0 (fl [wdS (xk x) aS sS sL]) [(0, .ref (aS 0))] 0 [] := by
  unfold wp_X10_token at h
  refine x_sub (lv' := [(0, .ref (aS 0))]) [0] rfl (w_X10_token_0 C rt (fun q5 h => ?_) h)
  · refine x_aload_n C 13 26 rfl 0 rfl rfl ?_
    refine x_aload_n C 14 27 rfl 0 rfl rfl ?_
    refine x_get (v := .int (q5 12 0)) C 15 28 rfl fi_X10 0 rfl rfl 12 (by decide) (mc wq_14_11) rfl ?_
    obtain ⟨z6, ez6⟩ : ∃ z : St, z = us q5 13 (q5 12 0) := ⟨_, rfl⟩
    replace h := h z6 ez6
    refine x_put (ws' := fl [wdS (xk x) aS z6 sL]) C 16 31 rfl fi_X10 tyX10 tyX10_ok nmX10 0 rfl rfl 13 (by decide) (mc wq_14_12) rfl rfl rfl (Nat.le_of_ble_eq_true rfl) (by rw [ez6]; rfl) ?_
    refine x_aload_n C 17 34 rfl 0 rfl rfl ?_
    refine x_get (v := .int (z6 12 0)) C 18 35 rfl fi_X10 0 rfl rfl 12 (by decide) (mc wq_14_11) rfl ?_
    refine x_aload_n C 19 38 rfl 0 rfl rfl ?_
    refine x_get (v := .int (z6 0 0)) C 20 39 rfl fi_X10 0 rfl rfl 0 (by decide) (mc wq_6_19) rfl ?_
    refine x_icmp_lt C 21 42 47 rfl rfl (fun c7 => ?_) (fun c7 => ?_)
    · replace h := h.1 c7
      refine x_aload_n C 24 47 rfl 0 rfl rfl ?_
      refine x_get (v := .ref (aS 1)) C 25 48 rfl fi_X10 0 rfl rfl 1 (by decide) (mc wq_5_3) rfl ?_
      refine x_aload_n C 26 51 rfl 0 rfl rfl ?_
      refine x_get (v := .int (z6 12 0)) C 27 52 rfl fi_X10 0 rfl rfl 12 (by decide) (mc wq_14_11) rfl ?_
      obtain ⟨hi, h⟩ := h
      refine x_iald (f := z6 1) C 28 55 rfl 1 rfl hi ?_
      refine x_topi (fun y8 ey8 => ?_)
      replace h := h y8 ey8
      refine x_istore_n (lv' := [(0, .ref (aS 0)), (1, .int y8)]) C 29 56 rfl rfl (by decide) [1, 0] rfl ?_
      refine x_aload_n C 30 57 rfl 0 rfl rfl ?_
      refine x_dup C 31 58 rfl rfl ?_
      refine x_get (v := .int (z6 12 0)) C 32 59 rfl fi_X10 0 rfl rfl 12 (by decide) (mc wq_14_11) rfl ?_
      refine x_iconst (v := (1 : Int32)) C 33 62 rfl (by decide) ?_
      refine x_iadd C 34 63 rfl ?_
      obtain ⟨z9, ez9⟩ : ∃ z : St, z = us z6 12 (z6 12 0 + (1 : Int32)) := ⟨_, rfl⟩
      replace h := h z9 ez9
      refine x_put (ws' := fl [wdS (xk x) aS z9 sL]) C 35 64 rfl fi_X10 tyX10 tyX10_ok nmX10 0 rfl rfl 12 (by decide) (mc wq_14_11) rfl rfl rfl (Nat.le_of_ble_eq_true rfl) (by rw [ez9]; rfl) ?_
      refine x_aload_n C 36 67 rfl 0 rfl rfl ?_
      refine x_iload_n C 37 68 rfl 1 rfl rfl ?_
      obtain ⟨z10, ez10⟩ : ∃ z : St, z = us z9 14 y8 := ⟨_, rfl⟩
      replace h := h z10 ez10
      refine x_put (ws' := fl [wdS (xk x) aS z10 sL]) C 38 69 rfl fi_X10 tyX10 tyX10_ok nmX10 0 rfl rfl 14 (by decide) (mc wq_14_17) rfl rfl rfl (Nat.le_of_ble_eq_true rfl) (by rw [ez10]; rfl) ?_
      refine x_iload_n C 39 72 rfl 1 rfl rfl ?_
      refine x_i2l C 40 73 rfl ?_
      refine x_ldc2 (v := (65 : Int64)) C 41 74 rfl (mc wq_14_18) ?_
      refine x_ldc2 (v := (68 : Int64)) C 42 77 rfl (mc wq_14_19) ?_
      refine x_call0SZ C 43 80 (c_X10_in (xl x) (xD x) (xk x) (xg x) y8.toInt64 (65 : Int64) (68 : Int64) _ h) rfl wwGood (mem3 wq_6_21 wq_6_22 wq_1_5) wq_6_23 3 ok_X10_in rfl ⟨by decide, by decide⟩ (Nat.le_of_ble_eq_true rfl) ⟨Nat.le_refl _, Nat.le_refl _⟩ ⟨rfl, rfl⟩ rfl (fun r11 _ h => ?_)
      refine x_if_eq C 44 83 96 rfl rfl (fun c12 => ?_) (fun c12 => ?_)
      · replace h := h.1 c12
        refine x_iload_n C 52 96 rfl 1 rfl rfl ?_
        refine x_bipush (v := (62 : Int32)) C 53 97 rfl (by decide) ?_
        refine x_icmp_eq C 54 99 114 rfl rfl (fun c13 => ?_) (fun c13 => ?_)
        · replace h := h.1 c13
          refine x_iconst (v := (5 : Int32)) C 61 114 rfl (by decide) ?_
          exact x_iret C rt 62 115 rfl z10 rfl h
        · replace h := h.2 c13
          refine x_iload_n C 55 102 rfl 1 rfl rfl ?_
          refine x_bipush (v := (61 : Int32)) C 56 103 rfl (by decide) ?_
          refine x_icmp_eq C 57 105 114 rfl rfl (fun c14 => ?_) (fun c14 => ?_)
          · replace h := h.1 c14
            refine x_iconst (v := (5 : Int32)) C 61 114 rfl (by decide) ?_
            exact x_iret C rt 62 115 rfl z10 rfl h
          · replace h := h.2 c14
            refine x_iload_n C 58 108 rfl 1 rfl rfl ?_
            refine x_bipush (v := (59 : Int32)) C 59 109 rfl (by decide) ?_
            refine x_icmp_ne C 60 111 116 rfl rfl (fun c15 => ?_) (fun c15 => ?_)
            · replace h := h.2 c15
              refine x_iload_n C 63 116 rfl 1 rfl rfl ?_
              refine x_i2l C 64 117 rfl ?_
              refine x_ldc2 (v := (48 : Int64)) C 65 118 rfl (mc wq_14_20) ?_
              refine x_ldc2 (v := (57 : Int64)) C 66 121 rfl (mc wq_14_21) ?_
              refine x_call0SZ C 67 124 (c_X10_in (xl x) (xD x) (xk x) (xg x) y8.toInt64 (48 : Int64) (57 : Int64) _ h) rfl wwGood (mem3 wq_6_21 wq_6_22 wq_1_5) wq_6_23 3 ok_X10_in rfl ⟨by decide, by decide⟩ (Nat.le_of_ble_eq_true rfl) ⟨Nat.le_refl _, Nat.le_refl _⟩ ⟨rfl, rfl⟩ rfl (fun r16 _ h => ?_)
              refine x_if_eq C 68 127 168 rfl rfl (fun c17 => ?_) (fun c17 => ?_)
              · replace h := h.1 c17
                refine x_sub (lv' := [(0, .ref (aS 0)), (1, .int y8)]) [0, 1] rfl (w_X10_token_168 C rt (fun q25 h => ?_) h)
                · exact x_sub (lv' := [(0, .ref (aS 0))]) [0] rfl (wj_X10_token_216 C rt h)
              · replace h := h.2 c17
                refine x_aload_n C 69 130 rfl 0 rfl rfl ?_
                refine x_iload_n C 70 131 rfl 1 rfl rfl ?_
                refine x_bipush (v := (48 : Int32)) C 71 132 rfl (by decide) ?_
                refine x_isub C 72 134 rfl ?_
                obtain ⟨z30, ez30⟩ : ∃ z : St, z = us z10 14 (y8 - (48 : Int32)) := ⟨_, rfl⟩
                replace h := h z30 ez30
                refine x_put (ws' := fl [wdS (xk x) aS z30 sL]) C 73 135 rfl fi_X10 tyX10 tyX10_ok nmX10 0 rfl rfl 14 (by decide) (mc wq_14_17) rfl rfl rfl (Nat.le_of_ble_eq_true rfl) (by rw [ez30]; rfl) ?_
                refine x_aload_n C 74 138 rfl 0 rfl rfl ?_
                refine x_aload_n C 75 139 rfl 0 rfl rfl ?_
                refine x_get (v := .int (z30 12 0)) C 76 140 rfl fi_X10 0 rfl rfl 12 (by decide) (mc wq_14_11) rfl ?_
                refine x_callWVI (ci := 8) (q0 := 0) (q := (RX10, TX10, 34)) C 77 143 (c_X10_byteAt (xl x) (xD x) (xk x) (xg x) aS z30 sL (z30 12 0) _ h) rfl wwGood (mem4 wq_15_0 wq_15_1 wq_15_2 wq_1_5) wq_15_3 1 ok_X10_byteAt rfl ⟨by decide, by decide⟩ (Nat.le_of_ble_eq_true rfl) ⟨Nat.le_refl _, Nat.le_refl _⟩ ⟨rfl, rfl⟩ rfl rfl rfl (fun r31 _ h => ?_)
                refine x_i2l C 78 146 rfl ?_
                refine x_ldc2 (v := (48 : Int64)) C 79 147 rfl (mc wq_14_20) ?_
                refine x_ldc2 (v := (57 : Int64)) C 80 150 rfl (mc wq_14_21) ?_
                refine x_call0SZ C 81 153 (c_X10_in (xl x) (xD x) (xk x) (xg x) r31.toInt64 (48 : Int64) (57 : Int64) _ h) rfl wwGood (mem3 wq_6_21 wq_6_22 wq_1_5) wq_6_23 3 ok_X10_in rfl ⟨by decide, by decide⟩ (Nat.le_of_ble_eq_true rfl) ⟨Nat.le_refl _, Nat.le_refl _⟩ ⟨rfl, rfl⟩ rfl (fun r32 _ h => ?_)
                refine x_istore_n (lv' := [(2, .int r32)]) C 82 156 rfl rfl (by decide) [0] rfl ?_
                refine x_iload_n C 83 157 rfl 0 rfl rfl ?_
                refine x_if_eq C 84 158 166 rfl rfl (fun c33 => ?_) (fun c33 => ?_)
                · replace h := h.1 c33
                  refine x_iconst (v := (4 : Int32)) C 87 166 rfl (by decide) ?_
                  exact x_iret C rt 88 167 rfl z30 rfl h
                · replace h := h.2 c33
                  refine x_bipush (v := (6 : Int32)) C 85 161 rfl (by decide) ?_
                  refine x_goto C 86 163 167 rfl rfl ?_
                  exact x_iret C rt 88 167 rfl z30 rfl h
            · replace h := h.1 c15
              refine x_iconst (v := (5 : Int32)) C 61 114 rfl (by decide) ?_
              exact x_iret C rt 62 115 rfl z10 rfl h
      · replace h := h.2 c12
        refine x_aload_n C 45 86 rfl 0 rfl rfl ?_
        refine x_iload_n C 46 87 rfl 1 rfl rfl ?_
        refine x_bipush (v := (65 : Int32)) C 47 88 rfl (by decide) ?_
        refine x_isub C 48 90 rfl ?_
        obtain ⟨z34, ez34⟩ : ∃ z : St, z = us z10 14 (y8 - (65 : Int32)) := ⟨_, rfl⟩
        replace h := h z34 ez34
        refine x_put (ws' := fl [wdS (xk x) aS z34 sL]) C 49 91 rfl fi_X10 tyX10 tyX10_ok nmX10 0 rfl rfl 14 (by decide) (mc wq_14_17) rfl rfl rfl (Nat.le_of_ble_eq_true rfl) (by rw [ez34]; rfl) ?_
        refine x_iconst (v := (3 : Int32)) C 50 94 rfl (by decide) ?_
        exact x_iret C rt 51 95 rfl z34 rfl h
    · replace h := h.2 c7
      refine x_iconst (v := (0 : Int32)) C 22 45 rfl (by decide) ?_
      exact x_iret C rt 23 46 rfl z6 rfl h
theorem c_X10_token (l : Launch) (D : va_G) (k : ClassId × ClassId) (g : Nat → Nat) (aS : Nat → Nat) (sS : St) (sL : Int64) (K : Int32 → St → Prop) (h : wp_X10_token sS sL K) : ConI l yX10_token (Cond.code yX10_token cX10_token 3 (some .int) :: wsL_law) ({ frames := 2, cells := 0, slots := 0, locals := 47 } : Room) D k g [.ref (aS 0)] (fl [wdS k aS sS sL]) (fun (u : St) => fl [wdS k aS u sL]) (fun (r : Int32) (u : St) => K r u) := by
  refine ConI.of (tb := tb_X10_token) (cc := cX10_token) (nL := 3) (by decide) rfl tbk_X10_token (Nat.le_of_ble_eq_true rfl) ?_
  intro x hl hD hk hg C rt
  subst hl hD hk hg
  exact w_X10_token C rt h
set_option maxHeartbeats 4000000 in
set_option maxRecDepth 100000 in
theorem w_X10_number {x : CT} {aS : Nat → Nat} {sS : St} {sL : Int64} {p1 : Int32} {K : Int32 → St → Prop} (C : Cx x cX10_number tb_X10_number 2 RX10 (Cond.code yX10_number cX10_number 2 (some .boolean) :: wsL_law) ({ frames := 3, cells := 0, slots := 0, locals := 69 } : Room)) (rt : RetZ x 0 0 (fun (u : St) => fl [wdS (xk x) aS u sL]) (fun (r : Int32) (u : St) => K r u)) (h : wp_X10_number sS sL p1 K) : Wx x 2 0 0 (fl [wdS (xk x) aS sS sL]) [(0, .ref (aS 0)), (1, .int p1)] 0 [] := by
  unfold wp_X10_number at h
  refine x_aload_n C 0 0 rfl 0 rfl rfl ?_
  refine x_callWVI (ci := 8) (q0 := 0) (q := (RX10, TX10, 34)) C 1 1 (c_X10_token (xl x) (xD x) (xk x) (xg x) aS sS sL _ h) rfl wwGood (mem4 wq_14_13 wq_14_14 wq_14_15 wq_1_5) wq_14_16 0 ok_X10_token rfl ⟨by decide, by decide⟩ (Nat.le_of_ble_eq_true rfl) ⟨Nat.le_refl _, Nat.le_refl _⟩ ⟨rfl, rfl⟩ rfl rfl rfl (fun r1 u1 h => ?_)
  refine x_iconst (v := (4 : Int32)) C 2 4 rfl (by decide) ?_
  refine x_icmp_ne C 3 5 20 rfl rfl (fun c2 => ?_) (fun c2 => ?_)
  · replace h := h.2 c2
    refine x_iconst (v := (0 : Int32)) C 10 20 rfl (by decide) ?_
    exact x_zret C rt 11 21 rfl zb_0 u1 rfl h
  · replace h := h.1 c2
    refine x_aload_n C 4 8 rfl 0 rfl rfl ?_
    refine x_get (v := .int (u1 14 0)) C 5 9 rfl fi_X10 0 rfl rfl 14 (by decide) (mc wq_14_17) rfl ?_
    refine x_iload_n C 6 12 rfl 1 rfl rfl ?_
    refine x_icmp_gt C 7 13 20 rfl rfl (fun c3 => ?_) (fun c3 => ?_)
    · replace h := h.1 c3
      refine x_iconst (v := (0 : Int32)) C 10 20 rfl (by decide) ?_
      exact x_zret C rt 11 21 rfl zb_0 u1 rfl h
    · replace h := h.2 c3
      refine x_iconst (v := (1 : Int32)) C 8 16 rfl (by decide) ?_
      refine x_goto C 9 17 21 rfl rfl ?_
      exact x_zret C rt 11 21 rfl zb_1 u1 rfl h
theorem c_X10_number (l : Launch) (D : va_G) (k : ClassId × ClassId) (g : Nat → Nat) (aS : Nat → Nat) (sS : St) (sL : Int64) (p1 : Int32) (K : Int32 → St → Prop) (h : wp_X10_number sS sL p1 K) : ConZ l yX10_number (Cond.code yX10_number cX10_number 2 (some .boolean) :: wsL_law) ({ frames := 3, cells := 0, slots := 0, locals := 69 } : Room) D k g [.ref (aS 0), .int p1] (fl [wdS k aS sS sL]) (fun (u : St) => fl [wdS k aS u sL]) (fun (r : Int32) (u : St) => K r u) := by
  refine ConZ.of (tb := tb_X10_number) (cc := cX10_number) (nL := 2) (by decide) rfl tbk_X10_number (Nat.le_of_ble_eq_true rfl) ?_
  intro x hl hD hk hg C rt
  subst hl hD hk hg
  exact w_X10_number C rt h
set_option maxHeartbeats 4000000 in
set_option maxRecDepth 100000 in
theorem w_X10_sign {x : CT} {aS : Nat → Nat} {sS : St} {sL : Int64} {p1 : Int32} {K : Int32 → St → Prop} (C : Cx x cX10_sign tb_X10_sign 2 RX10 (Cond.code yX10_sign cX10_sign 2 (some .boolean) :: wsL_law) ({ frames := 3, cells := 0, slots := 0, locals := 69 } : Room)) (rt : RetZ x 0 0 (fun (u : St) => fl [wdS (xk x) aS u sL]) (fun (r : Int32) (u : St) => K r u)) (h : wp_X10_sign sS sL p1 K) : Wx x 2 0 0 (fl [wdS (xk x) aS sS sL]) [(0, .ref (aS 0)), (1, .int p1)] 0 [] := by
  unfold wp_X10_sign at h
  refine x_aload_n C 0 0 rfl 0 rfl rfl ?_
  refine x_callWVI (ci := 8) (q0 := 0) (q := (RX10, TX10, 34)) C 1 1 (c_X10_token (xl x) (xD x) (xk x) (xg x) aS sS sL _ h) rfl wwGood (mem4 wq_14_13 wq_14_14 wq_14_15 wq_1_5) wq_14_16 0 ok_X10_token rfl ⟨by decide, by decide⟩ (Nat.le_of_ble_eq_true rfl) ⟨Nat.le_refl _, Nat.le_refl _⟩ ⟨rfl, rfl⟩ rfl rfl rfl (fun r1 u1 h => ?_)
  refine x_iconst (v := (5 : Int32)) C 2 4 rfl (by decide) ?_
  refine x_icmp_ne C 3 5 20 rfl rfl (fun c2 => ?_) (fun c2 => ?_)
  · replace h := h.2 c2
    refine x_iconst (v := (0 : Int32)) C 10 20 rfl (by decide) ?_
    exact x_zret C rt 11 21 rfl zb_0 u1 rfl h
  · replace h := h.1 c2
    refine x_aload_n C 4 8 rfl 0 rfl rfl ?_
    refine x_get (v := .int (u1 14 0)) C 5 9 rfl fi_X10 0 rfl rfl 14 (by decide) (mc wq_14_17) rfl ?_
    refine x_iload_n C 6 12 rfl 1 rfl rfl ?_
    refine x_icmp_ne C 7 13 20 rfl rfl (fun c3 => ?_) (fun c3 => ?_)
    · replace h := h.2 c3
      refine x_iconst (v := (0 : Int32)) C 10 20 rfl (by decide) ?_
      exact x_zret C rt 11 21 rfl zb_0 u1 rfl h
    · replace h := h.1 c3
      refine x_iconst (v := (1 : Int32)) C 8 16 rfl (by decide) ?_
      refine x_goto C 9 17 21 rfl rfl ?_
      exact x_zret C rt 11 21 rfl zb_1 u1 rfl h
theorem c_X10_sign (l : Launch) (D : va_G) (k : ClassId × ClassId) (g : Nat → Nat) (aS : Nat → Nat) (sS : St) (sL : Int64) (p1 : Int32) (K : Int32 → St → Prop) (h : wp_X10_sign sS sL p1 K) : ConZ l yX10_sign (Cond.code yX10_sign cX10_sign 2 (some .boolean) :: wsL_law) ({ frames := 3, cells := 0, slots := 0, locals := 69 } : Room) D k g [.ref (aS 0), .int p1] (fl [wdS k aS sS sL]) (fun (u : St) => fl [wdS k aS u sL]) (fun (r : Int32) (u : St) => K r u) := by
  refine ConZ.of (tb := tb_X10_sign) (cc := cX10_sign) (nL := 2) (by decide) rfl tbk_X10_sign (Nat.le_of_ble_eq_true rfl) ?_
  intro x hl hD hk hg C rt
  subst hl hD hk hg
  exact w_X10_sign C rt h
set_option maxHeartbeats 4000000 in
set_option maxRecDepth 100000 in
theorem w_X10_actItem {x : CT} {aS : Nat → Nat} {sS : St} {sL : Int64} {K : Int32 → St → Prop} (C : Cx x cX10_actItem tb_X10_actItem 2 RX10 (Cond.code yX10_actItem cX10_actItem 2 (some .boolean) :: wsL_law) ({ frames := 4, cells := 0, slots := 0, locals := 90 } : Room)) (rt : RetZ x 0 0 (fun (u : St) => fl [wdS (xk x) aS u sL]) (fun (r : Int32) (u : St) => K r u)) (h : wp_X10_actItem sS sL K) : Wx x 2 0 0 (fl [wdS (xk x) aS sS sL]) [(0, .ref (aS 0))] 0 [] := by
  unfold wp_X10_actItem at h
  refine x_aload_n C 0 0 rfl 0 rfl rfl ?_
  refine x_callWVI (ci := 8) (q0 := 0) (q := (RX10, TX10, 34)) C 1 1 (c_X10_token (xl x) (xD x) (xk x) (xg x) aS sS sL _ h) rfl wwGood (mem4 wq_14_13 wq_14_14 wq_14_15 wq_1_5) wq_14_16 0 ok_X10_token rfl ⟨by decide, by decide⟩ (Nat.le_of_ble_eq_true rfl) ⟨Nat.le_refl _, Nat.le_refl _⟩ ⟨rfl, rfl⟩ rfl rfl rfl (fun r1 u1 h => ?_)
  refine x_iconst (v := (3 : Int32)) C 2 4 rfl (by decide) ?_
  refine x_icmp_ne C 3 5 20 rfl rfl (fun c2 => ?_) (fun c2 => ?_)
  · replace h := h.2 c2
    refine x_iconst (v := (0 : Int32)) C 10 20 rfl (by decide) ?_
    exact x_zret C rt 11 21 rfl zb_0 u1 rfl h
  · replace h := h.1 c2
    refine x_aload_n C 4 8 rfl 0 rfl rfl ?_
    refine x_get (v := .ref (aS 9)) C 5 9 rfl fi_X10 0 rfl rfl 16 (by decide) (mc wq_5_13) rfl ?_
    refine x_aload_n C 6 12 rfl 0 rfl rfl ?_
    refine x_get (v := .int (u1 14 0)) C 7 13 rfl fi_X10 0 rfl rfl 14 (by decide) (mc wq_14_17) rfl ?_
    obtain ⟨hi, h⟩ := h
    refine x_zald (f := u1 16) C 8 16 rfl 9 rfl hi ?_
    refine x_if_eq C 9 17 22 rfl rfl (fun c3 => ?_) (fun c3 => ?_)
    · replace h := h.1 c3
      refine x_aload_n C 12 22 rfl 0 rfl rfl ?_
      refine x_get (v := .int (u1 14 0)) C 13 23 rfl fi_X10 0 rfl rfl 14 (by decide) (mc wq_14_17) rfl ?_
      refine x_topi (fun y4 ey4 => ?_)
      replace h := h y4 ey4
      refine x_istore_n (lv' := [(0, .ref (aS 0)), (1, .int y4)]) C 14 26 rfl rfl (by decide) [1, 0] rfl ?_
      refine x_aload_n C 15 27 rfl 0 rfl rfl ?_
      refine x_iconst (v := (3 : Int32)) C 16 28 rfl (by decide) ?_
      refine x_callWVZ (ci := 8) (q0 := 0) (q := (RX10, TX10, 34)) C 17 29 (c_X10_number (xl x) (xD x) (xk x) (xg x) aS u1 sL (3 : Int32) _ h) rfl wwGood (mem4 wq_15_12 wq_15_13 wq_15_14 wq_1_5) wq_15_15 1 ok_X10_number rfl ⟨by decide, by decide⟩ (Nat.le_of_ble_eq_true rfl) ⟨Nat.le_refl _, Nat.le_refl _⟩ ⟨rfl, rfl⟩ rfl rfl rfl (fun r5 u5 h => ?_)
      refine x_if_ne C 18 32 37 rfl rfl (fun c6 => ?_) (fun c6 => ?_)
      · replace h := h.2 c6
        refine x_aload_n C 21 37 rfl 0 rfl rfl ?_
        refine x_get (v := .ref (aS 9)) C 22 38 rfl fi_X10 0 rfl rfl 16 (by decide) (mc wq_5_13) rfl ?_
        refine x_iload_n C 23 41 rfl 1 rfl rfl ?_
        refine x_iconst (v := (1 : Int32)) C 24 42 rfl (by decide) ?_
        obtain ⟨hi, h⟩ := h
        obtain ⟨z7, ez7⟩ : ∃ z : St, z = ua u5 16 y4 (1 : Int32) := ⟨_, rfl⟩
        replace h := h z7 ez7
        refine x_zast (f := u5 16) (ws' := fl [wdS (xk x) aS z7 sL]) C 25 43 rfl 9 rfl hi zb_1 (by rw [ez7]; rfl) ?_
        refine x_aload_n C 26 44 rfl 0 rfl rfl ?_
        refine x_get (v := .ref (aS 8)) C 27 45 rfl fi_X10 0 rfl rfl 15 (by decide) (mc wq_5_11) rfl ?_
        refine x_iload_n C 28 48 rfl 1 rfl rfl ?_
        refine x_aload_n C 29 49 rfl 0 rfl rfl ?_
        refine x_get (v := .int (z7 14 0)) C 30 50 rfl fi_X10 0 rfl rfl 14 (by decide) (mc wq_14_17) rfl ?_
        obtain ⟨hi, h⟩ := h
        obtain ⟨z8, ez8⟩ : ∃ z : St, z = ua z7 15 y4 (z7 14 0) := ⟨_, rfl⟩
        replace h := h z8 ez8
        refine x_iast (f := z7 15) (ws' := fl [wdS (xk x) aS z8 sL]) C 31 53 rfl 8 rfl hi (by rw [ez8]; rfl) ?_
        refine x_aload_n C 32 54 rfl 0 rfl rfl ?_
        refine x_bipush (v := (59 : Int32)) C 33 55 rfl (by decide) ?_
        refine x_callWVZ (ci := 8) (q0 := 0) (q := (RX10, TX10, 34)) C 34 57 (c_X10_sign (xl x) (xD x) (xk x) (xg x) aS z8 sL (59 : Int32) _ h) rfl wwGood (mem4 wq_15_16 wq_15_17 wq_15_18 wq_1_5) wq_15_19 1 ok_X10_sign rfl ⟨by decide, by decide⟩ (Nat.le_of_ble_eq_true rfl) ⟨Nat.le_refl _, Nat.le_refl _⟩ ⟨rfl, rfl⟩ rfl rfl rfl (fun r9 u9 h => ?_)
        exact x_zret C rt 35 60 rfl h.1 u9 rfl h.2
      · replace h := h.1 c6
        refine x_iconst (v := (0 : Int32)) C 19 35 rfl (by decide) ?_
        exact x_zret C rt 20 36 rfl zb_0 u5 rfl h
    · replace h := h.2 c3
      refine x_iconst (v := (0 : Int32)) C 10 20 rfl (by decide) ?_
      exact x_zret C rt 11 21 rfl zb_0 u1 rfl h
theorem c_X10_actItem (l : Launch) (D : va_G) (k : ClassId × ClassId) (g : Nat → Nat) (aS : Nat → Nat) (sS : St) (sL : Int64) (K : Int32 → St → Prop) (h : wp_X10_actItem sS sL K) : ConZ l yX10_actItem (Cond.code yX10_actItem cX10_actItem 2 (some .boolean) :: wsL_law) ({ frames := 4, cells := 0, slots := 0, locals := 90 } : Room) D k g [.ref (aS 0)] (fl [wdS k aS sS sL]) (fun (u : St) => fl [wdS k aS u sL]) (fun (r : Int32) (u : St) => K r u) := by
  refine ConZ.of (tb := tb_X10_actItem) (cc := cX10_actItem) (nL := 2) (by decide) rfl tbk_X10_actItem (Nat.le_of_ble_eq_true rfl) ?_
  intro x hl hD hk hg C rt
  subst hl hD hk hg
  exact w_X10_actItem C rt h
set_option maxHeartbeats 4000000 in
set_option maxRecDepth 100000 in
theorem w_X10_callItem_52 {x : CT} {aS : Nat → Nat} {sL : Int64} {x1 : Int32} {x2 : Int32} {x3 : Int32} {K : Int32 → St → Prop} {E78 : St → Prop} (C : Cx x cX10_callItem tb_X10_callItem 8 RX10 (Cond.code yX10_callItem cX10_callItem 8 (some .boolean) :: wsL_law) ({ frames := 4, cells := 0, slots := 0, locals := 90 } : Room)) (rt : RetZ x 0 0 (fun (u : St) => fl [wdS (xk x) aS u sL]) (fun (r : Int32) (u : St) => K r u)) (hE78 : ∀ q : St, E78 q → Wx x 8 0 0 (fl [wdS (xk x) aS q sL]) [(0, .ref (aS 0)), (1, .int x1), (2, .int x2), (3, .int x3)] 78 []) {q10 : Int32 × St} (h : Lp (F_X10_callItem_52 x3 E78) q10) : Wx x 8 0 0 (fl [wdS (xk x) aS q10.2 sL]) [(0, .ref (aS 0)), (1, .int x1), (2, .int x2), (3, .int x3), (4, .int q10.1)] 52 [] := by
  refine lp_walk (P := fun q10 => Wx x 8 0 0 (fl [wdS (xk x) aS q10.2 sL]) [(0, .ref (aS 0)), (1, .int x1), (2, .int x2), (3, .int x3), (4, .int q10.1)] 52 []) (fun q10 R52 hR52 h => ?_) h
  refine x_iload C 33 52 rfl 4 rfl ?_
  refine x_bipush (v := (9 : Int32)) C 34 54 rfl (by decide) ?_
  refine x_icmp_ge C 35 56 78 rfl rfl (fun c11 => ?_) (fun c11 => ?_)
  · replace h := h.1 c11
    exact x_sub [0, 1, 2, 3] rfl (hE78 q10.2 h)
  · replace h := h.2 c11
    refine x_aload_n C 36 59 rfl 0 rfl rfl ?_
    refine x_get (v := .ref (aS 12)) C 37 60 rfl fi_X10 0 rfl rfl 20 (by decide) (mc wq_5_16) rfl ?_
    refine x_bipush (v := (9 : Int32)) C 38 63 rfl (by decide) ?_
    refine x_iload_n C 39 65 rfl 3 rfl rfl ?_
    refine x_imul C 40 66 rfl ?_
    refine x_iload C 41 67 rfl 4 rfl ?_
    refine x_iadd C 42 69 rfl ?_
    refine x_iconst (v := (0 : Int32)) C 43 70 rfl (by decide) ?_
    obtain ⟨hi, h⟩ := h
    obtain ⟨z12, ez12⟩ : ∃ z : St, z = ua q10.2 20 (((9 : Int32) * x3) + q10.1) (0 : Int32) := ⟨_, rfl⟩
    replace h := h z12 ez12
    refine x_iast (f := q10.2 20) (ws' := fl [wdS (xk x) aS z12 sL]) C 44 71 rfl 12 rfl hi (by rw [ez12]; rfl) ?_
    obtain ⟨y13, ey13⟩ : ∃ y : Int32, y = q10.1 + (1 : Int32) := ⟨_, rfl⟩
    replace h := h y13 ey13
    refine x_iinc (v := y13) (lv' := [(0, .ref (aS 0)), (1, .int x1), (2, .int x2), (3, .int x3), (4, .int y13)]) C 45 72 rfl 4 rfl (by rw [ey13]; rfl) (by decide) [1, 2, 3, 4, 0] rfl ?_
    refine x_goto C 46 75 52 rfl rfl ?_
    exact x_sub [0, 1, 2, 3, 4] rfl (hR52 (y13, z12) h)
set_option maxHeartbeats 4000000 in
set_option maxRecDepth 100000 in
theorem wj_X10_callItem_215 {x : CT} {aS : Nat → Nat} {sS : St} {sL : Int64} {x1 : Int32} {x2 : Int32} {x3 : Int32} {t1 : Int32} {t2 : Int32} {K : Int32 → St → Prop} {R94 : Int32 × St → Prop} (C : Cx x cX10_callItem tb_X10_callItem 8 RX10 (Cond.code yX10_callItem cX10_callItem 8 (some .boolean) :: wsL_law) ({ frames := 4, cells := 0, slots := 0, locals := 90 } : Room)) (rt : RetZ x 0 0 (fun (u : St) => fl [wdS (xk x) aS u sL]) (fun (r : Int32) (u : St) => K r u)) (hR94 : ∀ q : Int32 × St, R94 q → Wx x 8 0 0 (fl [wdS (xk x) aS q.2 sL]) [(0, .ref (aS 0)), (1, .int x1), (2, .int x2), (3, .int x3), (4, .int q.1)] 94 []) (h : J_X10_callItem_215 sS sL t1 t2 R94) : Wx x 8 0 0 (fl [wdS (xk x) aS sS sL]) [(0, .ref (aS 0)), (1, .int x1), (2, .int x2), (3, .int x3)] 215 [.int t2, .int t1, .ref (aS 12)] := by
  unfold J_X10_callItem_215 at h
  obtain ⟨hi, h⟩ := h
  obtain ⟨z29, ez29⟩ : ∃ z : St, z = ua sS 20 t1 t2 := ⟨_, rfl⟩
  replace h := h z29 ez29
  refine x_iast (f := sS 20) (ws' := fl [wdS (xk x) aS z29 sL]) C 123 215 rfl 12 rfl hi (by rw [ez29]; rfl) ?_
  refine x_aload_n C 124 216 rfl 0 rfl rfl ?_
  refine x_callWVI (ci := 8) (q0 := 0) (q := (RX10, TX10, 34)) C 125 217 (c_X10_token (xl x) (xD x) (xk x) (xg x) aS z29 sL _ h) rfl wwGood (mem4 wq_14_13 wq_14_14 wq_14_15 wq_1_5) wq_14_16 0 ok_X10_token rfl ⟨by decide, by decide⟩ (Nat.le_of_ble_eq_true rfl) ⟨Nat.le_refl _, Nat.le_refl _⟩ ⟨rfl, rfl⟩ rfl rfl rfl (fun r30 u30 h => ?_)
  refine x_istore (lv' := [(0, .ref (aS 0)), (1, .int x1), (2, .int x2), (3, .int x3), (4, .int r30)]) C 126 220 rfl (by decide) [1, 2, 3, 4, 0] rfl ?_
  refine x_goto C 127 222 94 rfl rfl ?_
  exact x_sub [0, 1, 2, 3, 4] rfl (hR94 (r30, u30) h)
set_option maxHeartbeats 4000000 in
set_option maxRecDepth 100000 in
theorem wj_X10_callItem_150 {x : CT} {aS : Nat → Nat} {sS : St} {sL : Int64} {x1 : Int32} {x2 : Int32} {x3 : Int32} {x5 : Int32} {t0 : Int32} {K : Int32 → St → Prop} {R94 : Int32 × St → Prop} (C : Cx x cX10_callItem tb_X10_callItem 8 RX10 (Cond.code yX10_callItem cX10_callItem 8 (some .boolean) :: wsL_law) ({ frames := 4, cells := 0, slots := 0, locals := 90 } : Room)) (rt : RetZ x 0 0 (fun (u : St) => fl [wdS (xk x) aS u sL]) (fun (r : Int32) (u : St) => K r u)) (hR94 : ∀ q : Int32 × St, R94 q → Wx x 8 0 0 (fl [wdS (xk x) aS q.2 sL]) [(0, .ref (aS 0)), (1, .int x1), (2, .int x2), (3, .int x3), (4, .int q.1)] 94 []) (h : J_X10_callItem_150 sS sL x2 x3 x5 t0 K R94) : Wx x 8 0 0 (fl [wdS (xk x) aS sS sL]) [(0, .ref (aS 0)), (1, .int x1), (2, .int x2), (3, .int x3), (5, .int x5)] 150 [.int t0] := by
  unfold J_X10_callItem_150 at h
  refine x_istore (lv' := [(0, .ref (aS 0)), (1, .int x1), (2, .int x2), (3, .int x3), (5, .int x5), (6, .int t0)]) C 85 150 rfl (by decide) [1, 2, 3, 4, 5, 0] rfl ?_
  refine x_aload_n C 86 152 rfl 0 rfl rfl ?_
  refine x_aload_n C 87 153 rfl 0 rfl rfl ?_
  refine x_get (v := .ref (aS 8)) C 88 154 rfl fi_X10 0 rfl rfl 15 (by decide) (mc wq_5_11) rfl ?_
  refine x_iload_n C 89 157 rfl 2 rfl rfl ?_
  obtain ⟨hi, h⟩ := h
  refine x_iald (f := sS 15) C 90 158 rfl 8 rfl hi ?_
  refine x_iconst (v := (1 : Int32)) C 91 159 rfl (by decide) ?_
  refine x_isub C 92 160 rfl ?_
  refine x_callWVZ (ci := 8) (q0 := 0) (q := (RX10, TX10, 34)) C 93 161 (c_X10_number (xl x) (xD x) (xk x) (xg x) aS sS sL (sS 15 x2.toNatClampNeg - (1 : Int32)) _ h) rfl wwGood (mem4 wq_15_12 wq_15_13 wq_15_14 wq_1_5) wq_15_15 1 ok_X10_number rfl ⟨by decide, by decide⟩ (Nat.le_of_ble_eq_true rfl) ⟨Nat.le_refl _, Nat.le_refl _⟩ ⟨rfl, rfl⟩ rfl rfl rfl (fun r25 u25 h => ?_)
  refine x_if_ne C 94 164 169 rfl rfl (fun c26 => ?_) (fun c26 => ?_)
  · replace h := h.2 c26
    refine x_bipush (v := (9 : Int32)) C 97 169 rfl (by decide) ?_
    refine x_iload_n C 98 171 rfl 3 rfl rfl ?_
    refine x_imul C 99 172 rfl ?_
    refine x_iconst (v := (3 : Int32)) C 100 173 rfl (by decide) ?_
    refine x_iload C 101 174 rfl 4 rfl ?_
    refine x_imul C 102 176 rfl ?_
    refine x_iadd C 103 177 rfl ?_
    refine x_aload_n C 104 178 rfl 0 rfl rfl ?_
    refine x_get (v := .int (u25 14 0)) C 105 179 rfl fi_X10 0 rfl rfl 14 (by decide) (mc wq_14_17) rfl ?_
    refine x_iadd C 106 182 rfl ?_
    refine x_topi (fun y27 ey27 => ?_)
    replace h := h y27 ey27
    refine x_istore (lv' := [(0, .ref (aS 0)), (1, .int x1), (2, .int x2), (3, .int x3), (6, .int t0), (7, .int y27)]) C 107 183 rfl (by decide) [1, 2, 3, 4, 6, 0] rfl ?_
    refine x_aload_n C 108 185 rfl 0 rfl rfl ?_
    refine x_get (v := .ref (aS 12)) C 109 186 rfl fi_X10 0 rfl rfl 20 (by decide) (mc wq_5_16) rfl ?_
    refine x_iload C 110 189 rfl 5 rfl ?_
    refine x_iload C 111 191 rfl 4 rfl ?_
    refine x_aload_n C 112 193 rfl 0 rfl rfl ?_
    refine x_get (v := .ref (aS 12)) C 113 194 rfl fi_X10 0 rfl rfl 20 (by decide) (mc wq_5_16) rfl ?_
    refine x_iload C 114 197 rfl 5 rfl ?_
    obtain ⟨hi, h⟩ := h
    refine x_iald (f := u25 20) C 115 199 rfl 12 rfl hi ?_
    refine x_icmp_le C 116 200 208 rfl rfl (fun c28 => ?_) (fun c28 => ?_)
    · replace h := h.1 c28
      refine x_aload_n C 119 208 rfl 0 rfl rfl ?_
      refine x_get (v := .ref (aS 12)) C 120 209 rfl fi_X10 0 rfl rfl 20 (by decide) (mc wq_5_16) rfl ?_
      refine x_iload C 121 212 rfl 5 rfl ?_
      obtain ⟨hi, h⟩ := h
      refine x_iald (f := u25 20) C 122 214 rfl 12 rfl hi ?_
      exact x_sub (lv' := [(0, .ref (aS 0)), (1, .int x1), (2, .int x2), (3, .int x3)]) [0, 1, 2, 3] rfl (wj_X10_callItem_215 C rt hR94 h)
    · replace h := h.2 c28
      refine x_iload C 117 203 rfl 4 rfl ?_
      refine x_goto C 118 205 215 rfl rfl ?_
      exact x_sub (lv' := [(0, .ref (aS 0)), (1, .int x1), (2, .int x2), (3, .int x3)]) [0, 1, 2, 3] rfl (wj_X10_callItem_215 C rt hR94 h)
  · replace h := h.1 c26
    refine x_iconst (v := (0 : Int32)) C 95 167 rfl (by decide) ?_
    exact x_zret C rt 96 168 rfl zb_0 u25 rfl h
set_option maxHeartbeats 4000000 in
set_option maxRecDepth 100000 in
theorem w_X10_callItem_94 {x : CT} {aS : Nat → Nat} {sL : Int64} {x1 : Int32} {x2 : Int32} {x3 : Int32} {K : Int32 → St → Prop} {E225 : Int32 × St → Prop} (C : Cx x cX10_callItem tb_X10_callItem 8 RX10 (Cond.code yX10_callItem cX10_callItem 8 (some .boolean) :: wsL_law) ({ frames := 4, cells := 0, slots := 0, locals := 90 } : Room)) (rt : RetZ x 0 0 (fun (u : St) => fl [wdS (xk x) aS u sL]) (fun (r : Int32) (u : St) => K r u)) (hE225 : ∀ q : Int32 × St, E225 q → Wx x 8 0 0 (fl [wdS (xk x) aS q.2 sL]) [(0, .ref (aS 0)), (4, .int q.1)] 225 []) {q17 : Int32 × St} (h : Lp (F_X10_callItem_94 sL x1 x2 x3 K E225) q17) : Wx x 8 0 0 (fl [wdS (xk x) aS q17.2 sL]) [(0, .ref (aS 0)), (1, .int x1), (2, .int x2), (3, .int x3), (4, .int q17.1)] 94 [] := by
  refine lp_walk (P := fun q17 => Wx x 8 0 0 (fl [wdS (xk x) aS q17.2 sL]) [(0, .ref (aS 0)), (1, .int x1), (2, .int x2), (3, .int x3), (4, .int q17.1)] 94 []) (fun q17 R94 hR94 h => ?_) h
  refine x_iload C 56 94 rfl 4 rfl ?_
  refine x_iconst (v := (4 : Int32)) C 57 96 rfl (by decide) ?_
  refine x_icmp_ne C 58 97 225 rfl rfl (fun c18 => ?_) (fun c18 => ?_)
  · replace h := h.2 c18
    exact x_sub [0, 4] rfl (hE225 (q17.1, q17.2) h)
  · replace h := h.1 c18
    refine x_aload_n C 59 100 rfl 0 rfl rfl ?_
    refine x_get (v := .int (q17.2 14 0)) C 60 101 rfl fi_X10 0 rfl rfl 14 (by decide) (mc wq_14_17) rfl ?_
    refine x_topi (fun y19 ey19 => ?_)
    replace h := h y19 ey19
    refine x_istore (lv' := [(0, .ref (aS 0)), (1, .int x1), (2, .int x2), (3, .int x3), (5, .int y19)]) C 61 104 rfl (by decide) [1, 2, 3, 4, 0] rfl ?_
    refine x_iload C 62 106 rfl 4 rfl ?_
    refine x_aload_n C 63 108 rfl 0 rfl rfl ?_
    refine x_get (v := .ref (aS 8)) C 64 109 rfl fi_X10 0 rfl rfl 15 (by decide) (mc wq_5_11) rfl ?_
    refine x_iload_n C 65 112 rfl 1 rfl rfl ?_
    obtain ⟨hi, h⟩ := h
    refine x_iald (f := q17.2 15) C 66 113 rfl 8 rfl hi ?_
    refine x_icmp_ge C 67 114 134 rfl rfl (fun c20 => ?_) (fun c20 => ?_)
    · replace h := h.1 c20
      refine x_iconst (v := (0 : Int32)) C 76 134 rfl (by decide) ?_
      exact x_zret C rt 77 135 rfl zb_0 q17.2 rfl h
    · replace h := h.2 c20
      refine x_aload_n C 68 117 rfl 0 rfl rfl ?_
      refine x_callWVI (ci := 8) (q0 := 0) (q := (RX10, TX10, 34)) C 69 118 (c_X10_token (xl x) (xD x) (xk x) (xg x) aS q17.2 sL _ h) rfl wwGood (mem4 wq_14_13 wq_14_14 wq_14_15 wq_1_5) wq_14_16 0 ok_X10_token rfl ⟨by decide, by decide⟩ (Nat.le_of_ble_eq_true rfl) ⟨Nat.le_refl _, Nat.le_refl _⟩ ⟨rfl, rfl⟩ rfl rfl rfl (fun r21 u21 h => ?_)
      refine x_iconst (v := (5 : Int32)) C 70 121 rfl (by decide) ?_
      refine x_icmp_ne C 71 122 134 rfl rfl (fun c22 => ?_) (fun c22 => ?_)
      · replace h := h.2 c22
        refine x_iconst (v := (0 : Int32)) C 76 134 rfl (by decide) ?_
        exact x_zret C rt 77 135 rfl zb_0 u21 rfl h
      · replace h := h.1 c22
        refine x_aload_n C 72 125 rfl 0 rfl rfl ?_
        refine x_get (v := .int (u21 14 0)) C 73 126 rfl fi_X10 0 rfl rfl 14 (by decide) (mc wq_14_17) rfl ?_
        refine x_bipush (v := (59 : Int32)) C 74 129 rfl (by decide) ?_
        refine x_icmp_ne C 75 131 136 rfl rfl (fun c23 => ?_) (fun c23 => ?_)
        · replace h := h.2 c23
          refine x_aload_n C 78 136 rfl 0 rfl rfl ?_
          refine x_get (v := .int (u21 14 0)) C 79 137 rfl fi_X10 0 rfl rfl 14 (by decide) (mc wq_14_17) rfl ?_
          refine x_bipush (v := (62 : Int32)) C 80 140 rfl (by decide) ?_
          refine x_icmp_ne C 81 142 149 rfl rfl (fun c24 => ?_) (fun c24 => ?_)
          · replace h := h.2 c24
            refine x_iconst (v := (1 : Int32)) C 84 149 rfl (by decide) ?_
            exact x_sub (lv' := [(0, .ref (aS 0)), (1, .int x1), (2, .int x2), (3, .int x3), (5, .int y19)]) [0, 1, 2, 3, 4] rfl (wj_X10_callItem_150 C rt hR94 h)
          · replace h := h.1 c24
            refine x_iconst (v := (2 : Int32)) C 82 145 rfl (by decide) ?_
            refine x_goto C 83 146 150 rfl rfl ?_
            exact x_sub (lv' := [(0, .ref (aS 0)), (1, .int x1), (2, .int x2), (3, .int x3), (5, .int y19)]) [0, 1, 2, 3, 4] rfl (wj_X10_callItem_150 C rt hR94 h)
        · replace h := h.1 c23
          refine x_iconst (v := (0 : Int32)) C 76 134 rfl (by decide) ?_
          exact x_zret C rt 77 135 rfl zb_0 u21 rfl h
set_option maxHeartbeats 4000000 in
set_option maxRecDepth 100000 in
theorem w_X10_callItem {x : CT} {aS : Nat → Nat} {sS : St} {sL : Int64} {K : Int32 → St → Prop} (C : Cx x cX10_callItem tb_X10_callItem 8 RX10 (Cond.code yX10_callItem cX10_callItem 8 (some .boolean) :: wsL_law) ({ frames := 4, cells := 0, slots := 0, locals := 90 } : Room)) (rt : RetZ x 0 0 (fun (u : St) => fl [wdS (xk x) aS u sL]) (fun (r : Int32) (u : St) => K r u)) (h : wp_X10_callItem sS sL K) : Wx x 8 0 0 (fl [wdS (xk x) aS sS sL]) [(0, .ref (aS 0))] 0 [] := by
  unfold wp_X10_callItem at h
  refine x_aload_n C 0 0 rfl 0 rfl rfl ?_
  refine x_callWVI (ci := 8) (q0 := 0) (q := (RX10, TX10, 34)) C 1 1 (c_X10_token (xl x) (xD x) (xk x) (xg x) aS sS sL _ h) rfl wwGood (mem4 wq_14_13 wq_14_14 wq_14_15 wq_1_5) wq_14_16 0 ok_X10_token rfl ⟨by decide, by decide⟩ (Nat.le_of_ble_eq_true rfl) ⟨Nat.le_refl _, Nat.le_refl _⟩ ⟨rfl, rfl⟩ rfl rfl rfl (fun r1 u1 h => ?_)
  refine x_iconst (v := (3 : Int32)) C 2 4 rfl (by decide) ?_
  refine x_icmp_eq C 3 5 10 rfl rfl (fun c2 => ?_) (fun c2 => ?_)
  · replace h := h.1 c2
    refine x_aload_n C 6 10 rfl 0 rfl rfl ?_
    refine x_get (v := .int (u1 14 0)) C 7 11 rfl fi_X10 0 rfl rfl 14 (by decide) (mc wq_14_17) rfl ?_
    refine x_topi (fun y3 ey3 => ?_)
    replace h := h y3 ey3
    refine x_istore_n (lv' := [(0, .ref (aS 0)), (1, .int y3)]) C 8 14 rfl rfl (by decide) [1, 0] rfl ?_
    refine x_aload_n C 9 15 rfl 0 rfl rfl ?_
    refine x_callWVI (ci := 8) (q0 := 0) (q := (RX10, TX10, 34)) C 10 16 (c_X10_token (xl x) (xD x) (xk x) (xg x) aS u1 sL _ h) rfl wwGood (mem4 wq_14_13 wq_14_14 wq_14_15 wq_1_5) wq_14_16 0 ok_X10_token rfl ⟨by decide, by decide⟩ (Nat.le_of_ble_eq_true rfl) ⟨Nat.le_refl _, Nat.le_refl _⟩ ⟨rfl, rfl⟩ rfl rfl rfl (fun r4 u4 h => ?_)
    refine x_iconst (v := (3 : Int32)) C 11 19 rfl (by decide) ?_
    refine x_icmp_eq C 12 20 25 rfl rfl (fun c5 => ?_) (fun c5 => ?_)
    · replace h := h.1 c5
      refine x_aload_n C 15 25 rfl 0 rfl rfl ?_
      refine x_get (v := .int (u4 14 0)) C 16 26 rfl fi_X10 0 rfl rfl 14 (by decide) (mc wq_14_17) rfl ?_
      refine x_topi (fun y6 ey6 => ?_)
      replace h := h y6 ey6
      refine x_istore_n (lv' := [(0, .ref (aS 0)), (1, .int y3), (2, .int y6)]) C 17 29 rfl rfl (by decide) [1, 2, 0] rfl ?_
      refine x_aload_n C 18 30 rfl 0 rfl rfl ?_
      refine x_get (v := .int (u4 17 0)) C 19 31 rfl fi_X10 0 rfl rfl 17 (by decide) (mc wq_14_3) rfl ?_
      refine x_topi (fun y7 ey7 => ?_)
      replace h := h y7 ey7
      refine x_istore_n (lv' := [(0, .ref (aS 0)), (1, .int y3), (2, .int y6), (3, .int y7)]) C 20 34 rfl rfl (by decide) [1, 2, 3, 0] rfl ?_
      refine x_aload_n C 21 35 rfl 0 rfl rfl ?_
      refine x_get (v := .ref (aS 10)) C 22 36 rfl fi_X10 0 rfl rfl 18 (by decide) (mc wq_5_14) rfl ?_
      refine x_iload_n C 23 39 rfl 3 rfl rfl ?_
      refine x_iload_n C 24 40 rfl 1 rfl rfl ?_
      obtain ⟨hi, h⟩ := h
      obtain ⟨z8, ez8⟩ : ∃ z : St, z = ua u4 18 y7 y3 := ⟨_, rfl⟩
      replace h := h z8 ez8
      refine x_iast (f := u4 18) (ws' := fl [wdS (xk x) aS z8 sL]) C 25 41 rfl 10 rfl hi (by rw [ez8]; rfl) ?_
      refine x_aload_n C 26 42 rfl 0 rfl rfl ?_
      refine x_get (v := .ref (aS 11)) C 27 43 rfl fi_X10 0 rfl rfl 19 (by decide) (mc wq_5_15) rfl ?_
      refine x_iload_n C 28 46 rfl 3 rfl rfl ?_
      refine x_iload_n C 29 47 rfl 2 rfl rfl ?_
      obtain ⟨hi, h⟩ := h
      obtain ⟨z9, ez9⟩ : ∃ z : St, z = ua z8 19 y7 y6 := ⟨_, rfl⟩
      replace h := h z9 ez9
      refine x_iast (f := z8 19) (ws' := fl [wdS (xk x) aS z9 sL]) C 30 48 rfl 11 rfl hi (by rw [ez9]; rfl) ?_
      refine x_iconst (v := (0 : Int32)) C 31 49 rfl (by decide) ?_
      refine x_istore (lv' := [(0, .ref (aS 0)), (1, .int y3), (2, .int y6), (3, .int y7), (4, .int (0 : Int32))]) C 32 50 rfl (by decide) [1, 2, 3, 4, 0] rfl ?_
      refine x_sub (lv' := [(0, .ref (aS 0)), (1, .int y3), (2, .int y6), (3, .int y7), (4, .int (0 : Int32))]) [0, 1, 2, 3, 4] rfl (w_X10_callItem_52 C rt (fun q14 h => ?_) h)
      · refine x_aload_n C 47 78 rfl 0 rfl rfl ?_
        refine x_dup C 48 79 rfl rfl ?_
        refine x_get (v := .int (q14 17 0)) C 49 80 rfl fi_X10 0 rfl rfl 17 (by decide) (mc wq_14_3) rfl ?_
        refine x_iconst (v := (1 : Int32)) C 50 83 rfl (by decide) ?_
        refine x_iadd C 51 84 rfl ?_
        obtain ⟨z15, ez15⟩ : ∃ z : St, z = us q14 17 (q14 17 0 + (1 : Int32)) := ⟨_, rfl⟩
        replace h := h z15 ez15
        refine x_put (ws' := fl [wdS (xk x) aS z15 sL]) C 52 85 rfl fi_X10 tyX10 tyX10_ok nmX10 0 rfl rfl 17 (by decide) (mc wq_14_3) rfl rfl rfl (Nat.le_of_ble_eq_true rfl) (by rw [ez15]; rfl) ?_
        refine x_aload_n C 53 88 rfl 0 rfl rfl ?_
        refine x_callWVI (ci := 8) (q0 := 0) (q := (RX10, TX10, 34)) C 54 89 (c_X10_token (xl x) (xD x) (xk x) (xg x) aS z15 sL _ h) rfl wwGood (mem4 wq_14_13 wq_14_14 wq_14_15 wq_1_5) wq_14_16 0 ok_X10_token rfl ⟨by decide, by decide⟩ (Nat.le_of_ble_eq_true rfl) ⟨Nat.le_refl _, Nat.le_refl _⟩ ⟨rfl, rfl⟩ rfl rfl rfl (fun r16 u16 h => ?_)
        refine x_istore (lv' := [(0, .ref (aS 0)), (1, .int y3), (2, .int y6), (3, .int y7), (4, .int r16)]) C 55 92 rfl (by decide) [1, 2, 3, 4, 0] rfl ?_
        refine x_sub (lv' := [(0, .ref (aS 0)), (1, .int y3), (2, .int y6), (3, .int y7), (4, .int r16)]) [0, 1, 2, 3, 4] rfl (w_X10_callItem_94 C rt (fun q31 h => ?_) h)
        · refine x_iload C 128 225 rfl 1 rfl ?_
          refine x_iconst (v := (5 : Int32)) C 129 227 rfl (by decide) ?_
          refine x_icmp_ne C 130 228 244 rfl rfl (fun c32 => ?_) (fun c32 => ?_)
          · replace h := h.2 c32
            refine x_iconst (v := (0 : Int32)) C 137 244 rfl (by decide) ?_
            exact x_zret C rt 138 245 rfl zb_0 q31.2 rfl h
          · replace h := h.1 c32
            refine x_aload_n C 131 231 rfl 0 rfl rfl ?_
            refine x_get (v := .int (q31.2 14 0)) C 132 232 rfl fi_X10 0 rfl rfl 14 (by decide) (mc wq_14_17) rfl ?_
            refine x_bipush (v := (59 : Int32)) C 133 235 rfl (by decide) ?_
            refine x_icmp_ne C 134 237 244 rfl rfl (fun c33 => ?_) (fun c33 => ?_)
            · replace h := h.2 c33
              refine x_iconst (v := (0 : Int32)) C 137 244 rfl (by decide) ?_
              exact x_zret C rt 138 245 rfl zb_0 q31.2 rfl h
            · replace h := h.1 c33
              refine x_iconst (v := (1 : Int32)) C 135 240 rfl (by decide) ?_
              refine x_goto C 136 241 245 rfl rfl ?_
              exact x_zret C rt 138 245 rfl zb_1 q31.2 rfl h
    · replace h := h.2 c5
      refine x_iconst (v := (0 : Int32)) C 13 23 rfl (by decide) ?_
      exact x_zret C rt 14 24 rfl zb_0 u4 rfl h
  · replace h := h.2 c2
    refine x_iconst (v := (0 : Int32)) C 4 8 rfl (by decide) ?_
    exact x_zret C rt 5 9 rfl zb_0 u1 rfl h
theorem c_X10_callItem (l : Launch) (D : va_G) (k : ClassId × ClassId) (g : Nat → Nat) (aS : Nat → Nat) (sS : St) (sL : Int64) (K : Int32 → St → Prop) (h : wp_X10_callItem sS sL K) : ConZ l yX10_callItem (Cond.code yX10_callItem cX10_callItem 8 (some .boolean) :: wsL_law) ({ frames := 4, cells := 0, slots := 0, locals := 90 } : Room) D k g [.ref (aS 0)] (fl [wdS k aS sS sL]) (fun (u : St) => fl [wdS k aS u sL]) (fun (r : Int32) (u : St) => K r u) := by
  refine ConZ.of (tb := tb_X10_callItem) (cc := cX10_callItem) (nL := 8) (by decide) rfl tbk_X10_callItem (Nat.le_of_ble_eq_true rfl) ?_
  intro x hl hD hk hg C rt
  subst hl hD hk hg
  exact w_X10_callItem C rt h
set_option maxHeartbeats 4000000 in
set_option maxRecDepth 100000 in
theorem w_X10_readAll_17 {x : CT} {aS : Nat → Nat} {sL : Int64} {K : Int32 → St → Prop} {E42 : St → Prop} (C : Cx x cX10_readAll tb_X10_readAll 3 RX10 (Cond.code yX10_readAll cX10_readAll 3 (some .int) :: wsL_law) ({ frames := 5, cells := 0, slots := 0, locals := 117 } : Room)) (rt : RetI x 0 0 (fun (u : St) => fl [wdS (xk x) aS u sL]) (fun (r : Int32) (u : St) => K r u)) (hE42 : ∀ q : St, E42 q → Wx x 3 0 0 (fl [wdS (xk x) aS q sL]) [(0, .ref (aS 0))] 42 []) {q4 : Int32 × St} (h : Lp (F_X10_readAll_17 E42) q4) : Wx x 3 0 0 (fl [wdS (xk x) aS q4.2 sL]) [(0, .ref (aS 0)), (1, .int q4.1)] 17 [] := by
  refine lp_walk (P := fun q4 => Wx x 3 0 0 (fl [wdS (xk x) aS q4.2 sL]) [(0, .ref (aS 0)), (1, .int q4.1)] 17 []) (fun q4 R17 hR17 h => ?_) h
  refine x_iload_n C 11 17 rfl 1 rfl rfl ?_
  refine x_iconst (v := (4 : Int32)) C 12 18 rfl (by decide) ?_
  refine x_icmp_ge C 13 19 42 rfl rfl (fun c5 => ?_) (fun c5 => ?_)
  · replace h := h.1 c5
    exact x_sub [0] rfl (hE42 q4.2 h)
  · replace h := h.2 c5
    refine x_aload_n C 14 22 rfl 0 rfl rfl ?_
    refine x_get (v := .ref (aS 8)) C 15 23 rfl fi_X10 0 rfl rfl 15 (by decide) (mc wq_5_11) rfl ?_
    refine x_iload_n C 16 26 rfl 1 rfl rfl ?_
    refine x_iconst (v := (0 : Int32)) C 17 27 rfl (by decide) ?_
    obtain ⟨hi, h⟩ := h
    obtain ⟨z6, ez6⟩ : ∃ z : St, z = ua q4.2 15 q4.1 (0 : Int32) := ⟨_, rfl⟩
    replace h := h z6 ez6
    refine x_iast (f := q4.2 15) (ws' := fl [wdS (xk x) aS z6 sL]) C 18 28 rfl 8 rfl hi (by rw [ez6]; rfl) ?_
    refine x_aload_n C 19 29 rfl 0 rfl rfl ?_
    refine x_get (v := .ref (aS 9)) C 20 30 rfl fi_X10 0 rfl rfl 16 (by decide) (mc wq_5_13) rfl ?_
    refine x_iload_n C 21 33 rfl 1 rfl rfl ?_
    refine x_iconst (v := (0 : Int32)) C 22 34 rfl (by decide) ?_
    obtain ⟨hi, h⟩ := h
    obtain ⟨z7, ez7⟩ : ∃ z : St, z = ua z6 16 q4.1 (0 : Int32) := ⟨_, rfl⟩
    replace h := h z7 ez7
    refine x_zast (f := z6 16) (ws' := fl [wdS (xk x) aS z7 sL]) C 23 35 rfl 9 rfl hi zb_0 (by rw [ez7]; rfl) ?_
    obtain ⟨y8, ey8⟩ : ∃ y : Int32, y = q4.1 + (1 : Int32) := ⟨_, rfl⟩
    replace h := h y8 ey8
    refine x_iinc (v := y8) (lv' := [(0, .ref (aS 0)), (1, .int y8)]) C 24 36 rfl 1 rfl (by rw [ey8]; rfl) (by decide) [1, 0] rfl ?_
    refine x_goto C 25 39 17 rfl rfl ?_
    exact x_sub [0, 1] rfl (hR17 (y8, z7) h)
set_option maxHeartbeats 4000000 in
set_option maxRecDepth 100000 in
theorem wj_X10_readAll_114 {x : CT} {aS : Nat → Nat} {sS : St} {sL : Int64} {K : Int32 → St → Prop} {R47 : Int32 × St → Prop} (C : Cx x cX10_readAll tb_X10_readAll 3 RX10 (Cond.code yX10_readAll cX10_readAll 3 (some .int) :: wsL_law) ({ frames := 5, cells := 0, slots := 0, locals := 117 } : Room)) (rt : RetI x 0 0 (fun (u : St) => fl [wdS (xk x) aS u sL]) (fun (r : Int32) (u : St) => K r u)) (hR47 : ∀ q : Int32 × St, R47 q → Wx x 3 0 0 (fl [wdS (xk x) aS q.2 sL]) [(0, .ref (aS 0)), (1, .int q.1)] 47 []) (h : J_X10_readAll_114 sS sL R47) : Wx x 3 0 0 (fl [wdS (xk x) aS sS sL]) [(0, .ref (aS 0))] 114 [] := by
  unfold J_X10_readAll_114 at h
  refine x_aload_n C 63 114 rfl 0 rfl rfl ?_
  refine x_dup C 64 115 rfl rfl ?_
  refine x_get (v := .int (sS 21 0)) C 65 116 rfl fi_X10 0 rfl rfl 21 (by decide) (mc wq_14_6) rfl ?_
  refine x_iconst (v := (1 : Int32)) C 66 119 rfl (by decide) ?_
  refine x_iadd C 67 120 rfl ?_
  obtain ⟨z19, ez19⟩ : ∃ z : St, z = us sS 21 (sS 21 0 + (1 : Int32)) := ⟨_, rfl⟩
  replace h := h z19 ez19
  refine x_put (ws' := fl [wdS (xk x) aS z19 sL]) C 68 121 rfl fi_X10 tyX10 tyX10_ok nmX10 0 rfl rfl 21 (by decide) (mc wq_14_6) rfl rfl rfl (Nat.le_of_ble_eq_true rfl) (by rw [ez19]; rfl) ?_
  refine x_aload_n C 69 124 rfl 0 rfl rfl ?_
  refine x_callWVI (ci := 8) (q0 := 0) (q := (RX10, TX10, 34)) C 70 125 (c_X10_token (xl x) (xD x) (xk x) (xg x) aS z19 sL _ h) rfl wwGood (mem4 wq_14_13 wq_14_14 wq_14_15 wq_1_5) wq_14_16 0 ok_X10_token rfl ⟨by decide, by decide⟩ (Nat.le_of_ble_eq_true rfl) ⟨Nat.le_refl _, Nat.le_refl _⟩ ⟨rfl, rfl⟩ rfl rfl rfl (fun r20 u20 h => ?_)
  refine x_istore_n (lv' := [(0, .ref (aS 0)), (1, .int r20)]) C 71 128 rfl rfl (by decide) [1, 0] rfl ?_
  refine x_goto C 72 129 47 rfl rfl ?_
  exact x_sub [0, 1] rfl (hR47 (r20, u20) h)
set_option maxHeartbeats 4000000 in
set_option maxRecDepth 100000 in
theorem wj_X10_readAll_82 {x : CT} {aS : Nat → Nat} {sS : St} {sL : Int64} {x1 : Int32} {t0 : Int32} {K : Int32 → St → Prop} {R47 : Int32 × St → Prop} (C : Cx x cX10_readAll tb_X10_readAll 3 RX10 (Cond.code yX10_readAll cX10_readAll 3 (some .int) :: wsL_law) ({ frames := 5, cells := 0, slots := 0, locals := 117 } : Room)) (rt : RetI x 0 0 (fun (u : St) => fl [wdS (xk x) aS u sL]) (fun (r : Int32) (u : St) => K r u)) (hR47 : ∀ q : Int32 × St, R47 q → Wx x 3 0 0 (fl [wdS (xk x) aS q.2 sL]) [(0, .ref (aS 0)), (1, .int q.1)] 47 []) (h : J_X10_readAll_82 sS sL x1 t0 K R47) : Wx x 3 0 0 (fl [wdS (xk x) aS sS sL]) [(0, .ref (aS 0)), (1, .int x1)] 82 [.int t0] := by
  unfold J_X10_readAll_82 at h
  refine x_istore_n (lv' := [(0, .ref (aS 0)), (1, .int x1), (2, .int t0)]) C 47 82 rfl rfl (by decide) [1, 2, 0] rfl ?_
  refine x_iload_n C 48 83 rfl 2 rfl rfl ?_
  refine x_if_eq C 49 84 109 rfl rfl (fun c15 => ?_) (fun c15 => ?_)
  · replace h := h.1 c15
    refine x_aload_n C 60 109 rfl 0 rfl rfl ?_
    refine x_get (v := .int (sS 13 0)) C 61 110 rfl fi_X10 0 rfl rfl 13 (by decide) (mc wq_14_12) rfl ?_
    exact x_iret C rt 62 113 rfl sS rfl h
  · replace h := h.2 c15
    refine x_iload_n C 50 87 rfl 1 rfl rfl ?_
    refine x_iconst (v := (1 : Int32)) C 51 88 rfl (by decide) ?_
    refine x_icmp_ne C 52 89 102 rfl rfl (fun c16 => ?_) (fun c16 => ?_)
    · replace h := h.2 c16
      refine x_aload_n C 57 102 rfl 0 rfl rfl ?_
      refine x_callWVZ (ci := 8) (q0 := 0) (q := (RX10, TX10, 34)) C 58 103 (c_X10_callItem (xl x) (xD x) (xk x) (xg x) aS sS sL _ h) rfl wwGood (mem4 wq_15_20 wq_15_21 wq_15_22 wq_1_5) wq_15_23 0 ok_X10_callItem rfl ⟨by decide, by decide⟩ (Nat.le_of_ble_eq_true rfl) ⟨Nat.le_refl _, Nat.le_refl _⟩ ⟨rfl, rfl⟩ rfl rfl rfl (fun r17 u17 h => ?_)
      refine x_if_ne C 59 106 114 rfl rfl (fun c18 => ?_) (fun c18 => ?_)
      · replace h := h.2 c18
        exact x_sub (lv' := [(0, .ref (aS 0))]) [0] rfl (wj_X10_readAll_114 C rt hR47 h)
      · replace h := h.1 c18
        refine x_aload_n C 60 109 rfl 0 rfl rfl ?_
        refine x_get (v := .int (u17 13 0)) C 61 110 rfl fi_X10 0 rfl rfl 13 (by decide) (mc wq_14_12) rfl ?_
        exact x_iret C rt 62 113 rfl u17 rfl h
    · replace h := h.1 c16
      refine x_aload_n C 53 92 rfl 0 rfl rfl ?_
      refine x_callWVZ (ci := 8) (q0 := 0) (q := (RX10, TX10, 34)) C 54 93 (c_X10_actItem (xl x) (xD x) (xk x) (xg x) aS sS sL _ h) rfl wwGood (mem4 wq_15_8 wq_15_9 wq_15_10 wq_1_5) wq_15_11 0 ok_X10_actItem rfl ⟨by decide, by decide⟩ (Nat.le_of_ble_eq_true rfl) ⟨Nat.le_refl _, Nat.le_refl _⟩ ⟨rfl, rfl⟩ rfl rfl rfl (fun r21 u21 h => ?_)
      refine x_if_eq C 55 96 109 rfl rfl (fun c22 => ?_) (fun c22 => ?_)
      · replace h := h.1 c22
        refine x_aload_n C 60 109 rfl 0 rfl rfl ?_
        refine x_get (v := .int (u21 13 0)) C 61 110 rfl fi_X10 0 rfl rfl 13 (by decide) (mc wq_14_12) rfl ?_
        exact x_iret C rt 62 113 rfl u21 rfl h
      · replace h := h.2 c22
        refine x_goto C 56 99 114 rfl rfl ?_
        exact x_sub (lv' := [(0, .ref (aS 0))]) [0] rfl (wj_X10_readAll_114 C rt hR47 h)
set_option maxHeartbeats 4000000 in
set_option maxRecDepth 100000 in
theorem wj_X10_readAll_81 {x : CT} {aS : Nat → Nat} {sS : St} {sL : Int64} {x1 : Int32} {K : Int32 → St → Prop} {R47 : Int32 × St → Prop} (C : Cx x cX10_readAll tb_X10_readAll 3 RX10 (Cond.code yX10_readAll cX10_readAll 3 (some .int) :: wsL_law) ({ frames := 5, cells := 0, slots := 0, locals := 117 } : Room)) (rt : RetI x 0 0 (fun (u : St) => fl [wdS (xk x) aS u sL]) (fun (r : Int32) (u : St) => K r u)) (hR47 : ∀ q : Int32 × St, R47 q → Wx x 3 0 0 (fl [wdS (xk x) aS q.2 sL]) [(0, .ref (aS 0)), (1, .int q.1)] 47 []) (h : J_X10_readAll_81 sS sL x1 K R47) : Wx x 3 0 0 (fl [wdS (xk x) aS sS sL]) [(0, .ref (aS 0)), (1, .int x1)] 81 [] := by
  unfold J_X10_readAll_81 at h
  refine x_iconst (v := (0 : Int32)) C 46 81 rfl (by decide) ?_
  exact x_sub (lv' := [(0, .ref (aS 0)), (1, .int x1)]) [0, 1] rfl (wj_X10_readAll_82 C rt hR47 h)
set_option maxHeartbeats 4000000 in
set_option maxRecDepth 100000 in
theorem wj_X10_readAll_77 {x : CT} {aS : Nat → Nat} {sS : St} {sL : Int64} {x1 : Int32} {K : Int32 → St → Prop} {R47 : Int32 × St → Prop} (C : Cx x cX10_readAll tb_X10_readAll 3 RX10 (Cond.code yX10_readAll cX10_readAll 3 (some .int) :: wsL_law) ({ frames := 5, cells := 0, slots := 0, locals := 117 } : Room)) (rt : RetI x 0 0 (fun (u : St) => fl [wdS (xk x) aS u sL]) (fun (r : Int32) (u : St) => K r u)) (hR47 : ∀ q : Int32 × St, R47 q → Wx x 3 0 0 (fl [wdS (xk x) aS q.2 sL]) [(0, .ref (aS 0)), (1, .int q.1)] 47 []) (h : J_X10_readAll_77 sS sL x1 K R47) : Wx x 3 0 0 (fl [wdS (xk x) aS sS sL]) [(0, .ref (aS 0)), (1, .int x1)] 77 [] := by
  unfold J_X10_readAll_77 at h
  refine x_iconst (v := (1 : Int32)) C 44 77 rfl (by decide) ?_
  refine x_goto C 45 78 82 rfl rfl ?_
  exact x_sub (lv' := [(0, .ref (aS 0)), (1, .int x1)]) [0, 1] rfl (wj_X10_readAll_82 C rt hR47 h)
set_option maxHeartbeats 4000000 in
set_option maxRecDepth 100000 in
theorem wj_X10_readAll_63 {x : CT} {aS : Nat → Nat} {sS : St} {sL : Int64} {x1 : Int32} {K : Int32 → St → Prop} {R47 : Int32 × St → Prop} (C : Cx x cX10_readAll tb_X10_readAll 3 RX10 (Cond.code yX10_readAll cX10_readAll 3 (some .int) :: wsL_law) ({ frames := 5, cells := 0, slots := 0, locals := 117 } : Room)) (rt : RetI x 0 0 (fun (u : St) => fl [wdS (xk x) aS u sL]) (fun (r : Int32) (u : St) => K r u)) (hR47 : ∀ q : Int32 × St, R47 q → Wx x 3 0 0 (fl [wdS (xk x) aS q.2 sL]) [(0, .ref (aS 0)), (1, .int q.1)] 47 []) (h : J_X10_readAll_63 sS sL x1 K R47) : Wx x 3 0 0 (fl [wdS (xk x) aS sS sL]) [(0, .ref (aS 0)), (1, .int x1)] 63 [] := by
  unfold J_X10_readAll_63 at h
  refine x_iload_n C 37 63 rfl 1 rfl rfl ?_
  refine x_iconst (v := (2 : Int32)) C 38 64 rfl (by decide) ?_
  refine x_icmp_ne C 39 65 81 rfl rfl (fun c14 => ?_) (fun c14 => ?_)
  · replace h := h.2 c14
    exact x_sub (lv' := [(0, .ref (aS 0)), (1, .int x1)]) [0, 1] rfl (wj_X10_readAll_81 C rt hR47 h)
  · replace h := h.1 c14
    refine x_aload_n C 40 68 rfl 0 rfl rfl ?_
    refine x_get (v := .int (sS 17 0)) C 41 69 rfl fi_X10 0 rfl rfl 17 (by decide) (mc wq_14_3) rfl ?_
    refine x_bipush (v := (8 : Int32)) C 42 72 rfl (by decide) ?_
    refine x_icmp_ge C 43 74 81 rfl rfl (fun c23 => ?_) (fun c23 => ?_)
    · replace h := h.1 c23
      exact x_sub (lv' := [(0, .ref (aS 0)), (1, .int x1)]) [0, 1] rfl (wj_X10_readAll_81 C rt hR47 h)
    · replace h := h.2 c23
      exact x_sub (lv' := [(0, .ref (aS 0)), (1, .int x1)]) [0, 1] rfl (wj_X10_readAll_77 C rt hR47 h)
set_option maxHeartbeats 4000000 in
set_option maxRecDepth 100000 in
theorem w_X10_readAll_47 {x : CT} {aS : Nat → Nat} {sL : Int64} {K : Int32 → St → Prop} (C : Cx x cX10_readAll tb_X10_readAll 3 RX10 (Cond.code yX10_readAll cX10_readAll 3 (some .int) :: wsL_law) ({ frames := 5, cells := 0, slots := 0, locals := 117 } : Room)) (rt : RetI x 0 0 (fun (u : St) => fl [wdS (xk x) aS u sL]) (fun (r : Int32) (u : St) => K r u))  {q11 : Int32 × St} (h : Lp (F_X10_readAll_47 sL K) q11) : Wx x 3 0 0 (fl [wdS (xk x) aS q11.2 sL]) [(0, .ref (aS 0)), (1, .int q11.1)] 47 [] := by
  refine lp_walk (P := fun q11 => Wx x 3 0 0 (fl [wdS (xk x) aS q11.2 sL]) [(0, .ref (aS 0)), (1, .int q11.1)] 47 []) (fun q11 R47 hR47 h => ?_) h
  refine x_iload_n C 29 47 rfl 1 rfl rfl ?_
  refine x_if_eq C 30 48 132 rfl rfl (fun c12 => ?_) (fun c12 => ?_)
  · replace h := h.1 c12
    refine x_bipush (v := (-9 : Int32)) C 73 132 rfl (by decide) ?_
    exact x_iret C rt 74 134 rfl q11.2 rfl h
  · replace h := h.2 c12
    refine x_iload_n C 31 51 rfl 1 rfl rfl ?_
    refine x_iconst (v := (1 : Int32)) C 32 52 rfl (by decide) ?_
    refine x_icmp_ne C 33 53 63 rfl rfl (fun c13 => ?_) (fun c13 => ?_)
    · replace h := h.2 c13
      exact x_sub (lv' := [(0, .ref (aS 0)), (1, .int q11.1)]) [0, 1] rfl (wj_X10_readAll_63 C rt hR47 h)
    · replace h := h.1 c13
      refine x_aload_n C 34 56 rfl 0 rfl rfl ?_
      refine x_get (v := .int (q11.2 17 0)) C 35 57 rfl fi_X10 0 rfl rfl 17 (by decide) (mc wq_14_3) rfl ?_
      refine x_if_eq C 36 60 77 rfl rfl (fun c24 => ?_) (fun c24 => ?_)
      · replace h := h.1 c24
        exact x_sub (lv' := [(0, .ref (aS 0)), (1, .int q11.1)]) [0, 1] rfl (wj_X10_readAll_77 C rt hR47 h)
      · replace h := h.2 c24
        exact x_sub (lv' := [(0, .ref (aS 0)), (1, .int q11.1)]) [0, 1] rfl (wj_X10_readAll_63 C rt hR47 h)
set_option maxHeartbeats 4000000 in
set_option maxRecDepth 100000 in
theorem w_X10_readAll {x : CT} {aS : Nat → Nat} {sS : St} {sL : Int64} {K : Int32 → St → Prop} (C : Cx x cX10_readAll tb_X10_readAll 3 RX10 (Cond.code yX10_readAll cX10_readAll 3 (some .int) :: wsL_law) ({ frames := 5, cells := 0, slots := 0, locals := 117 } : Room)) (rt : RetI x 0 0 (fun (u : St) => fl [wdS (xk x) aS u sL]) (fun (r : Int32) (u : St) => K r u)) (h : wp_X10_readAll sS sL K) : Wx x 3 0 0 (fl [wdS (xk x) aS sS sL]) [(0, .ref (aS 0))] 0 [] := by
  unfold wp_X10_readAll at h
  refine x_aload_n C 0 0 rfl 0 rfl rfl ?_
  refine x_iconst (v := (0 : Int32)) C 1 1 rfl (by decide) ?_
  obtain ⟨z1, ez1⟩ : ∃ z : St, z = us sS 17 (0 : Int32) := ⟨_, rfl⟩
  replace h := h z1 ez1
  refine x_put (ws' := fl [wdS (xk x) aS z1 sL]) C 2 2 rfl fi_X10 tyX10 tyX10_ok nmX10 0 rfl rfl 17 (by decide) (mc wq_14_3) rfl rfl rfl (Nat.le_of_ble_eq_true rfl) (by rw [ez1]; rfl) ?_
  refine x_aload_n C 3 5 rfl 0 rfl rfl ?_
  refine x_iconst (v := (0 : Int32)) C 4 6 rfl (by decide) ?_
  obtain ⟨z2, ez2⟩ : ∃ z : St, z = us z1 21 (0 : Int32) := ⟨_, rfl⟩
  replace h := h z2 ez2
  refine x_put (ws' := fl [wdS (xk x) aS z2 sL]) C 5 7 rfl fi_X10 tyX10 tyX10_ok nmX10 0 rfl rfl 21 (by decide) (mc wq_14_6) rfl rfl rfl (Nat.le_of_ble_eq_true rfl) (by rw [ez2]; rfl) ?_
  refine x_aload_n C 6 10 rfl 0 rfl rfl ?_
  refine x_iconst (v := (0 : Int32)) C 7 11 rfl (by decide) ?_
  obtain ⟨z3, ez3⟩ : ∃ z : St, z = us z2 12 (0 : Int32) := ⟨_, rfl⟩
  replace h := h z3 ez3
  refine x_put (ws' := fl [wdS (xk x) aS z3 sL]) C 8 12 rfl fi_X10 tyX10 tyX10_ok nmX10 0 rfl rfl 12 (by decide) (mc wq_14_11) rfl rfl rfl (Nat.le_of_ble_eq_true rfl) (by rw [ez3]; rfl) ?_
  refine x_iconst (v := (0 : Int32)) C 9 15 rfl (by decide) ?_
  refine x_istore_n (lv' := [(0, .ref (aS 0)), (1, .int (0 : Int32))]) C 10 16 rfl rfl (by decide) [1, 0] rfl ?_
  refine x_sub (lv' := [(0, .ref (aS 0)), (1, .int (0 : Int32))]) [0, 1] rfl (w_X10_readAll_17 C rt (fun q9 h => ?_) h)
  · refine x_aload_n C 26 42 rfl 0 rfl rfl ?_
    refine x_callWVI (ci := 8) (q0 := 0) (q := (RX10, TX10, 34)) C 27 43 (c_X10_token (xl x) (xD x) (xk x) (xg x) aS q9 sL _ h) rfl wwGood (mem4 wq_14_13 wq_14_14 wq_14_15 wq_1_5) wq_14_16 0 ok_X10_token rfl ⟨by decide, by decide⟩ (Nat.le_of_ble_eq_true rfl) ⟨Nat.le_refl _, Nat.le_refl _⟩ ⟨rfl, rfl⟩ rfl rfl rfl (fun r10 u10 h => ?_)
    refine x_istore_n (lv' := [(0, .ref (aS 0)), (1, .int r10)]) C 28 46 rfl rfl (by decide) [1, 0] rfl ?_
    refine x_sub (lv' := [(0, .ref (aS 0)), (1, .int r10)]) [0, 1] rfl (w_X10_readAll_47 C rt h)
theorem c_X10_readAll (l : Launch) (D : va_G) (k : ClassId × ClassId) (g : Nat → Nat) (aS : Nat → Nat) (sS : St) (sL : Int64) (K : Int32 → St → Prop) (h : wp_X10_readAll sS sL K) : ConI l yX10_readAll (Cond.code yX10_readAll cX10_readAll 3 (some .int) :: wsL_law) ({ frames := 5, cells := 0, slots := 0, locals := 117 } : Room) D k g [.ref (aS 0)] (fl [wdS k aS sS sL]) (fun (u : St) => fl [wdS k aS u sL]) (fun (r : Int32) (u : St) => K r u) := by
  refine ConI.of (tb := tb_X10_readAll) (cc := cX10_readAll) (nL := 3) (by decide) rfl tbk_X10_readAll (Nat.le_of_ble_eq_true rfl) ?_
  intro x hl hD hk hg C rt
  subst hl hD hk hg
  exact w_X10_readAll C rt h
set_option maxHeartbeats 4000000 in
set_option maxRecDepth 100000 in
theorem w_X10_read_18 {x : CT} {aS : Nat → Nat} {sL : Int64} {K : Int32 → St → Prop} {E41 : St → Prop} (C : Cx x cX10_read tb_X10_read 3 RX10 (Cond.code yX10_read cX10_read 3 (some .int) :: wsL_law) ({ frames := 6, cells := 0, slots := 0, locals := 139 } : Room)) (rt : RetI x 0 0 (fun (u : St) => fl [wdS (xk x) aS u sL]) (fun (r : Int32) (u : St) => K r u)) (hE41 : ∀ q : St, E41 q → Wx x 3 0 0 (fl [wdS (xk x) aS q sL]) [(0, .ref (aS 0))] 41 []) {q3 : Int32 × St} (h : Lp (F_X10_read_18 E41) q3) : Wx x 3 0 0 (fl [wdS (xk x) aS q3.2 sL]) [(0, .ref (aS 0)), (2, .int q3.1)] 18 [] := by
  refine lp_walk (P := fun q3 => Wx x 3 0 0 (fl [wdS (xk x) aS q3.2 sL]) [(0, .ref (aS 0)), (2, .int q3.1)] 18 []) (fun q3 R18 hR18 h => ?_) h
  refine x_iload_n C 12 18 rfl 1 rfl rfl ?_
  refine x_iconst (v := (4 : Int32)) C 13 19 rfl (by decide) ?_
  refine x_icmp_ge C 14 20 41 rfl rfl (fun c4 => ?_) (fun c4 => ?_)
  · replace h := h.1 c4
    exact x_sub [0] rfl (hE41 q3.2 h)
  · replace h := h.2 c4
    refine x_aload_n C 15 23 rfl 0 rfl rfl ?_
    refine x_get (v := .ref (aS 2)) C 16 24 rfl fi_X10 0 rfl rfl 2 (by decide) (mc wq_5_4) rfl ?_
    refine x_iload_n C 17 27 rfl 1 rfl rfl ?_
    refine x_aload_n C 18 28 rfl 0 rfl rfl ?_
    refine x_get (v := .ref (aS 8)) C 19 29 rfl fi_X10 0 rfl rfl 15 (by decide) (mc wq_5_11) rfl ?_
    refine x_iload_n C 20 32 rfl 1 rfl rfl ?_
    obtain ⟨hi, h⟩ := h
    refine x_iald (f := q3.2 15) C 21 33 rfl 8 rfl hi ?_
    obtain ⟨hi, h⟩ := h
    obtain ⟨z5, ez5⟩ : ∃ z : St, z = ua q3.2 2 q3.1 (q3.2 15 q3.1.toNatClampNeg) := ⟨_, rfl⟩
    replace h := h z5 ez5
    refine x_iast (f := q3.2 2) (ws' := fl [wdS (xk x) aS z5 sL]) C 22 34 rfl 2 rfl hi (by rw [ez5]; rfl) ?_
    obtain ⟨y6, ey6⟩ : ∃ y : Int32, y = q3.1 + (1 : Int32) := ⟨_, rfl⟩
    replace h := h y6 ey6
    refine x_iinc (v := y6) (lv' := [(0, .ref (aS 0)), (2, .int y6)]) C 23 35 rfl 1 rfl (by rw [ey6]; rfl) (by decide) [1, 0] rfl ?_
    refine x_goto C 24 38 18 rfl rfl ?_
    exact x_sub [0, 1] rfl (hR18 (y6, z5) h)
set_option maxHeartbeats 4000000 in
set_option maxRecDepth 100000 in
theorem w_X10_read_51 {x : CT} {aS : Nat → Nat} {sL : Int64} {K : Int32 → St → Prop} {E87 : St → Prop} (C : Cx x cX10_read tb_X10_read 3 RX10 (Cond.code yX10_read cX10_read 3 (some .int) :: wsL_law) ({ frames := 6, cells := 0, slots := 0, locals := 139 } : Room)) (rt : RetI x 0 0 (fun (u : St) => fl [wdS (xk x) aS u sL]) (fun (r : Int32) (u : St) => K r u)) (hE87 : ∀ q : St, E87 q → Wx x 3 0 0 (fl [wdS (xk x) aS q sL]) [(0, .ref (aS 0))] 87 []) {q9 : Int32 × St} (h : Lp (F_X10_read_51 E87) q9) : Wx x 3 0 0 (fl [wdS (xk x) aS q9.2 sL]) [(0, .ref (aS 0)), (2, .int q9.1)] 51 [] := by
  refine lp_walk (P := fun q9 => Wx x 3 0 0 (fl [wdS (xk x) aS q9.2 sL]) [(0, .ref (aS 0)), (2, .int q9.1)] 51 []) (fun q9 R51 hR51 h => ?_) h
  refine x_iload_n C 31 51 rfl 1 rfl rfl ?_
  refine x_bipush (v := (8 : Int32)) C 32 52 rfl (by decide) ?_
  refine x_icmp_ge C 33 54 87 rfl rfl (fun c10 => ?_) (fun c10 => ?_)
  · replace h := h.1 c10
    exact x_sub [0] rfl (hE87 q9.2 h)
  · replace h := h.2 c10
    refine x_aload_n C 34 57 rfl 0 rfl rfl ?_
    refine x_get (v := .ref (aS 3)) C 35 58 rfl fi_X10 0 rfl rfl 4 (by decide) (mc wq_5_5) rfl ?_
    refine x_iload_n C 36 61 rfl 1 rfl rfl ?_
    refine x_aload_n C 37 62 rfl 0 rfl rfl ?_
    refine x_get (v := .ref (aS 10)) C 38 63 rfl fi_X10 0 rfl rfl 18 (by decide) (mc wq_5_14) rfl ?_
    refine x_iload_n C 39 66 rfl 1 rfl rfl ?_
    obtain ⟨hi, h⟩ := h
    refine x_iald (f := q9.2 18) C 40 67 rfl 10 rfl hi ?_
    obtain ⟨hi, h⟩ := h
    obtain ⟨z11, ez11⟩ : ∃ z : St, z = ua q9.2 4 q9.1 (q9.2 18 q9.1.toNatClampNeg) := ⟨_, rfl⟩
    replace h := h z11 ez11
    refine x_iast (f := q9.2 4) (ws' := fl [wdS (xk x) aS z11 sL]) C 41 68 rfl 3 rfl hi (by rw [ez11]; rfl) ?_
    refine x_aload_n C 42 69 rfl 0 rfl rfl ?_
    refine x_get (v := .ref (aS 4)) C 43 70 rfl fi_X10 0 rfl rfl 5 (by decide) (mc wq_5_6) rfl ?_
    refine x_iload_n C 44 73 rfl 1 rfl rfl ?_
    refine x_aload_n C 45 74 rfl 0 rfl rfl ?_
    refine x_get (v := .ref (aS 11)) C 46 75 rfl fi_X10 0 rfl rfl 19 (by decide) (mc wq_5_15) rfl ?_
    refine x_iload_n C 47 78 rfl 1 rfl rfl ?_
    obtain ⟨hi, h⟩ := h
    refine x_iald (f := z11 19) C 48 79 rfl 11 rfl hi ?_
    obtain ⟨hi, h⟩ := h
    obtain ⟨z12, ez12⟩ : ∃ z : St, z = ua z11 5 q9.1 (z11 19 q9.1.toNatClampNeg) := ⟨_, rfl⟩
    replace h := h z12 ez12
    refine x_iast (f := z11 5) (ws' := fl [wdS (xk x) aS z12 sL]) C 49 80 rfl 4 rfl hi (by rw [ez12]; rfl) ?_
    obtain ⟨y13, ey13⟩ : ∃ y : Int32, y = q9.1 + (1 : Int32) := ⟨_, rfl⟩
    replace h := h y13 ey13
    refine x_iinc (v := y13) (lv' := [(0, .ref (aS 0)), (2, .int y13)]) C 50 81 rfl 1 rfl (by rw [ey13]; rfl) (by decide) [1, 0] rfl ?_
    refine x_goto C 51 84 51 rfl rfl ?_
    exact x_sub [0, 1] rfl (hR51 (y13, z12) h)
set_option maxHeartbeats 4000000 in
set_option maxRecDepth 100000 in
theorem w_X10_read_89 {x : CT} {aS : Nat → Nat} {sL : Int64} {K : Int32 → St → Prop} {E113 : St → Prop} (C : Cx x cX10_read tb_X10_read 3 RX10 (Cond.code yX10_read cX10_read 3 (some .int) :: wsL_law) ({ frames := 6, cells := 0, slots := 0, locals := 139 } : Room)) (rt : RetI x 0 0 (fun (u : St) => fl [wdS (xk x) aS u sL]) (fun (r : Int32) (u : St) => K r u)) (hE113 : ∀ q : St, E113 q → Wx x 3 0 0 (fl [wdS (xk x) aS q sL]) [(0, .ref (aS 0))] 113 []) {q15 : Int32 × St} (h : Lp (F_X10_read_89 E113) q15) : Wx x 3 0 0 (fl [wdS (xk x) aS q15.2 sL]) [(0, .ref (aS 0)), (2, .int q15.1)] 89 [] := by
  refine lp_walk (P := fun q15 => Wx x 3 0 0 (fl [wdS (xk x) aS q15.2 sL]) [(0, .ref (aS 0)), (2, .int q15.1)] 89 []) (fun q15 R89 hR89 h => ?_) h
  refine x_iload_n C 54 89 rfl 1 rfl rfl ?_
  refine x_bipush (v := (72 : Int32)) C 55 90 rfl (by decide) ?_
  refine x_icmp_ge C 56 92 113 rfl rfl (fun c16 => ?_) (fun c16 => ?_)
  · replace h := h.1 c16
    exact x_sub [0] rfl (hE113 q15.2 h)
  · replace h := h.2 c16
    refine x_aload_n C 57 95 rfl 0 rfl rfl ?_
    refine x_get (v := .ref (aS 5)) C 58 96 rfl fi_X10 0 rfl rfl 6 (by decide) (mc wq_5_7) rfl ?_
    refine x_iload_n C 59 99 rfl 1 rfl rfl ?_
    refine x_aload_n C 60 100 rfl 0 rfl rfl ?_
    refine x_get (v := .ref (aS 12)) C 61 101 rfl fi_X10 0 rfl rfl 20 (by decide) (mc wq_5_16) rfl ?_
    refine x_iload_n C 62 104 rfl 1 rfl rfl ?_
    obtain ⟨hi, h⟩ := h
    refine x_iald (f := q15.2 20) C 63 105 rfl 12 rfl hi ?_
    obtain ⟨hi, h⟩ := h
    obtain ⟨z17, ez17⟩ : ∃ z : St, z = ua q15.2 6 q15.1 (q15.2 20 q15.1.toNatClampNeg) := ⟨_, rfl⟩
    replace h := h z17 ez17
    refine x_iast (f := q15.2 6) (ws' := fl [wdS (xk x) aS z17 sL]) C 64 106 rfl 5 rfl hi (by rw [ez17]; rfl) ?_
    obtain ⟨y18, ey18⟩ : ∃ y : Int32, y = q15.1 + (1 : Int32) := ⟨_, rfl⟩
    replace h := h y18 ey18
    refine x_iinc (v := y18) (lv' := [(0, .ref (aS 0)), (2, .int y18)]) C 65 107 rfl 1 rfl (by rw [ey18]; rfl) (by decide) [1, 0] rfl ?_
    refine x_goto C 66 110 89 rfl rfl ?_
    exact x_sub [0, 1] rfl (hR89 (y18, z17) h)
set_option maxHeartbeats 4000000 in
set_option maxRecDepth 100000 in
theorem w_X10_read {x : CT} {aS : Nat → Nat} {sS : St} {sL : Int64} {K : Int32 → St → Prop} (C : Cx x cX10_read tb_X10_read 3 RX10 (Cond.code yX10_read cX10_read 3 (some .int) :: wsL_law) ({ frames := 6, cells := 0, slots := 0, locals := 139 } : Room)) (rt : RetI x 0 0 (fun (u : St) => fl [wdS (xk x) aS u sL]) (fun (r : Int32) (u : St) => K r u)) (h : wp_X10_read sS sL K) : Wx x 3 0 0 (fl [wdS (xk x) aS sS sL]) [(0, .ref (aS 0))] 0 [] := by
  unfold wp_X10_read at h
  refine x_aload_n C 0 0 rfl 0 rfl rfl ?_
  refine x_callWVI (ci := 8) (q0 := 0) (q := (RX10, TX10, 34)) C 1 1 (c_X10_readAll (xl x) (xD x) (xk x) (xg x) aS sS sL _ h) rfl wwGood (mem4 wq_14_7 wq_14_8 wq_14_9 wq_1_5) wq_14_10 0 ok_X10_readAll rfl ⟨by decide, by decide⟩ (Nat.le_of_ble_eq_true rfl) ⟨Nat.le_refl _, Nat.le_refl _⟩ ⟨rfl, rfl⟩ rfl rfl rfl (fun r1 u1 h => ?_)
  refine x_istore_n (lv' := [(0, .ref (aS 0)), (1, .int r1)]) C 2 4 rfl rfl (by decide) [1, 0] rfl ?_
  refine x_iload_n C 3 5 rfl 1 rfl rfl ?_
  refine x_bipush (v := (-9 : Int32)) C 4 6 rfl (by decide) ?_
  refine x_icmp_eq C 5 8 16 rfl rfl (fun c2 => ?_) (fun c2 => ?_)
  · replace h := h.1 c2
    refine x_iconst (v := (0 : Int32)) C 10 16 rfl (by decide) ?_
    refine x_istore_n (lv' := [(0, .ref (aS 0)), (2, .int (0 : Int32))]) C 11 17 rfl rfl (by decide) [1, 0] rfl ?_
    refine x_sub (lv' := [(0, .ref (aS 0)), (2, .int (0 : Int32))]) [0, 1] rfl (w_X10_read_18 C rt (fun q7 h => ?_) h)
    · refine x_aload_n C 25 41 rfl 0 rfl rfl ?_
      refine x_aload_n C 26 42 rfl 0 rfl rfl ?_
      refine x_get (v := .int (q7 17 0)) C 27 43 rfl fi_X10 0 rfl rfl 17 (by decide) (mc wq_14_3) rfl ?_
      obtain ⟨z8, ez8⟩ : ∃ z : St, z = us q7 3 (q7 17 0) := ⟨_, rfl⟩
      replace h := h z8 ez8
      refine x_put (ws' := fl [wdS (xk x) aS z8 sL]) C 28 46 rfl fi_X10 tyX10 tyX10_ok nmX10 0 rfl rfl 3 (by decide) (mc wq_14_4) rfl rfl rfl (Nat.le_of_ble_eq_true rfl) (by rw [ez8]; rfl) ?_
      refine x_iconst (v := (0 : Int32)) C 29 49 rfl (by decide) ?_
      refine x_istore_n (lv' := [(0, .ref (aS 0)), (2, .int (0 : Int32))]) C 30 50 rfl rfl (by decide) [1, 0] rfl ?_
      refine x_sub (lv' := [(0, .ref (aS 0)), (2, .int (0 : Int32))]) [0, 1] rfl (w_X10_read_51 C rt (fun q14 h => ?_) h)
      · refine x_iconst (v := (0 : Int32)) C 52 87 rfl (by decide) ?_
        refine x_istore_n (lv' := [(0, .ref (aS 0)), (2, .int (0 : Int32))]) C 53 88 rfl rfl (by decide) [1, 0] rfl ?_
        refine x_sub (lv' := [(0, .ref (aS 0)), (2, .int (0 : Int32))]) [0, 1] rfl (w_X10_read_89 C rt (fun q19 h => ?_) h)
        · refine x_aload_n C 67 113 rfl 0 rfl rfl ?_
          refine x_iconst (v := (0 : Int32)) C 68 114 rfl (by decide) ?_
          obtain ⟨z20, ez20⟩ : ∃ z : St, z = us q19 7 (0 : Int32) := ⟨_, rfl⟩
          replace h := h z20 ez20
          refine x_put (ws' := fl [wdS (xk x) aS z20 sL]) C 69 115 rfl fi_X10 tyX10 tyX10_ok nmX10 0 rfl rfl 7 (by decide) (mc wq_14_5) rfl rfl rfl (Nat.le_of_ble_eq_true rfl) (by rw [ez20]; rfl) ?_
          refine x_aload_n C 70 118 rfl 0 rfl rfl ?_
          refine x_iconst (v := (0 : Int32)) C 71 119 rfl (by decide) ?_
          obtain ⟨z21, ez21⟩ : ∃ z : St, z = us z20 0 (0 : Int32) := ⟨_, rfl⟩
          replace h := h z21 ez21
          refine x_put (ws' := fl [wdS (xk x) aS z21 sL]) C 72 120 rfl fi_X10 tyX10 tyX10_ok nmX10 0 rfl rfl 0 (by decide) (mc wq_6_19) rfl rfl rfl (Nat.le_of_ble_eq_true rfl) (by rw [ez21]; rfl) ?_
          refine x_aload_n C 73 123 rfl 0 rfl rfl ?_
          refine x_get (v := .int (z21 21 0)) C 74 124 rfl fi_X10 0 rfl rfl 21 (by decide) (mc wq_14_6) rfl ?_
          exact x_iret C rt 75 127 rfl z21 rfl h
  · replace h := h.2 c2
    refine x_bipush (v := (-10 : Int32)) C 6 11 rfl (by decide) ?_
    refine x_iload_n C 7 13 rfl 1 rfl rfl ?_
    refine x_isub C 8 14 rfl ?_
    exact x_iret C rt 9 15 rfl u1 rfl h
theorem c_X10_read (l : Launch) (D : va_G) (k : ClassId × ClassId) (g : Nat → Nat) (aS : Nat → Nat) (sS : St) (sL : Int64) (K : Int32 → St → Prop) (h : wp_X10_read sS sL K) : ConI l yX10_read (Cond.code yX10_read cX10_read 3 (some .int) :: wsL_law) ({ frames := 6, cells := 0, slots := 0, locals := 139 } : Room) D k g [.ref (aS 0)] (fl [wdS k aS sS sL]) (fun (u : St) => fl [wdS k aS u sL]) (fun (r : Int32) (u : St) => K r u) := by
  refine ConI.of (tb := tb_X10_read) (cc := cX10_read) (nL := 3) (by decide) rfl tbk_X10_read (Nat.le_of_ble_eq_true rfl) ?_
  intro x hl hD hk hg C rt
  subst hl hD hk hg
  exact w_X10_read C rt h
set_option maxHeartbeats 4000000 in
set_option maxRecDepth 100000 in
theorem w_X10_isAct {x : CT} {p1 : Int32} {K : Int32 → Prop} (C : Cx x cX10_isAct tb_X10_isAct 1 RX10 (Cond.code yX10_isAct cX10_isAct 1 (some .boolean) :: wsL_law) ({ frames := 1, cells := 0, slots := 0, locals := 25 } : Room)) (rt : RetZ x 0 0 (fun (u : Unit) => fl []) (fun (r : Int32) (_ : Unit) => K r)) (h : wp_X10_isAct p1 K) : Wx x 1 0 0 (fl []) [(0, .int p1)] 0 [] := by
  unfold wp_X10_isAct at h
  refine x_iload_n C 0 0 rfl 0 rfl rfl ?_
  refine x_i2l C 1 1 rfl ?_
  refine x_lconst (v := (0 : Int64)) C 2 2 rfl (by decide) ?_
  refine x_ldc2 (v := (3 : Int64)) C 3 3 rfl (mc wq_16_15) ?_
  refine x_call0SZ C 4 6 (c_X10_in (xl x) (xD x) (xk x) (xg x) p1.toInt64 (0 : Int64) (3 : Int64) _ h) rfl wwGood (mem3 wq_6_21 wq_6_22 wq_1_5) wq_6_23 3 ok_X10_in rfl ⟨by decide, by decide⟩ (Nat.le_of_ble_eq_true rfl) ⟨Nat.le_refl _, Nat.le_refl _⟩ ⟨rfl, rfl⟩ rfl (fun r1 _ h => ?_)
  exact x_zret C rt 5 9 rfl h.1 () rfl h.2
theorem c_X10_isAct (l : Launch) (D : va_G) (k : ClassId × ClassId) (g : Nat → Nat) (p1 : Int32) (K : Int32 → Prop) (h : wp_X10_isAct p1 K) : ConZ l yX10_isAct (Cond.code yX10_isAct cX10_isAct 1 (some .boolean) :: wsL_law) ({ frames := 1, cells := 0, slots := 0, locals := 25 } : Room) D k g [.int p1] (fl []) (fun (u : Unit) => fl []) (fun (r : Int32) (_ : Unit) => K r) := by
  refine ConZ.of (tb := tb_X10_isAct) (cc := cX10_isAct) (nL := 1) (by decide) rfl tbk_X10_isAct (Nat.le_of_ble_eq_true rfl) ?_
  intro x hl hD hk hg C rt
  subst hl hD hk hg
  exact w_X10_isAct C rt h
set_option maxHeartbeats 4000000 in
set_option maxRecDepth 100000 in
theorem w_X10_isCall {x : CT} {aS : Nat → Nat} {sS : St} {sL : Int64} {p1 : Int32} {K : Int32 → Prop} (C : Cx x cX10_isCall tb_X10_isCall 2 RX10 (Cond.code yX10_isCall cX10_isCall 2 (some .boolean) :: wsL_law) ({ frames := 1, cells := 0, slots := 0, locals := 25 } : Room)) (rt : RetZ x 0 0 (fun (u : Unit) => fl [wdS (xk x) aS sS sL]) (fun (r : Int32) (_ : Unit) => K r)) (h : wp_X10_isCall sS sL p1 K) : Wx x 2 0 0 (fl [wdS (xk x) aS sS sL]) [(0, .ref (aS 0)), (1, .int p1)] 0 [] := by
  unfold wp_X10_isCall at h
  refine x_iload_n C 0 0 rfl 1 rfl rfl ?_
  refine x_i2l C 1 1 rfl ?_
  refine x_lconst (v := (0 : Int64)) C 2 2 rfl (by decide) ?_
  refine x_aload_n C 3 3 rfl 0 rfl rfl ?_
  refine x_get (v := .int (sS 3 0)) C 4 4 rfl fi_X10 0 rfl rfl 3 (by decide) (mc wq_14_4) rfl ?_
  refine x_iconst (v := (1 : Int32)) C 5 7 rfl (by decide) ?_
  refine x_isub C 6 8 rfl ?_
  refine x_i2l C 7 9 rfl ?_
  refine x_call0SZ C 8 10 (c_X10_in (xl x) (xD x) (xk x) (xg x) p1.toInt64 (0 : Int64) ((sS 3 0 - (1 : Int32)).toInt64) _ h) rfl wwGood (mem3 wq_6_21 wq_6_22 wq_1_5) wq_6_23 3 ok_X10_in rfl ⟨by decide, by decide⟩ (Nat.le_of_ble_eq_true rfl) ⟨Nat.le_refl _, Nat.le_refl _⟩ ⟨rfl, rfl⟩ rfl (fun r1 _ h => ?_)
  exact x_zret C rt 9 13 rfl h.1 () rfl h.2
theorem c_X10_isCall (l : Launch) (D : va_G) (k : ClassId × ClassId) (g : Nat → Nat) (aS : Nat → Nat) (sS : St) (sL : Int64) (p1 : Int32) (K : Int32 → Prop) (h : wp_X10_isCall sS sL p1 K) : ConZ l yX10_isCall (Cond.code yX10_isCall cX10_isCall 2 (some .boolean) :: wsL_law) ({ frames := 1, cells := 0, slots := 0, locals := 25 } : Room) D k g [.ref (aS 0), .int p1] (fl [wdS k aS sS sL]) (fun (u : Unit) => fl [wdS k aS sS sL]) (fun (r : Int32) (_ : Unit) => K r) := by
  refine ConZ.of (tb := tb_X10_isCall) (cc := cX10_isCall) (nL := 2) (by decide) rfl tbk_X10_isCall (Nat.le_of_ble_eq_true rfl) ?_
  intro x hl hD hk hg C rt
  subst hl hD hk hg
  exact w_X10_isCall C rt h
set_option maxHeartbeats 4000000 in
set_option maxRecDepth 100000 in
theorem w_X10_places {x : CT} {aS : Nat → Nat} {sS : St} {sL : Int64} {p1 : Int32} {K : Int32 → Prop} (C : Cx x cX10_places tb_X10_places 2 RX10 (Cond.code yX10_places cX10_places 2 (some .int) :: wsL_law) ({ frames := 2, cells := 0, slots := 0, locals := 45 } : Room)) (rt : RetI x 0 0 (fun (u : Unit) => fl [wdS (xk x) aS sS sL]) (fun (r : Int32) (_ : Unit) => K r)) (h : wp_X10_places sS sL p1 K) : Wx x 2 0 0 (fl [wdS (xk x) aS sS sL]) [(0, .ref (aS 0)), (1, .int p1)] 0 [] := by
  unfold wp_X10_places at h
  refine x_iload_n C 0 0 rfl 1 rfl rfl ?_
  refine x_call0SZ C 1 1 (c_X10_isAct (xl x) (xD x) (xk x) (xg x) p1 _ h) rfl wwGood (mem3 wq_16_12 wq_16_13 wq_1_5) wq_16_14 1 ok_X10_isAct rfl ⟨by decide, by decide⟩ (Nat.le_of_ble_eq_true rfl) ⟨Nat.le_refl _, Nat.le_refl _⟩ ⟨rfl, rfl⟩ rfl (fun r1 _ h => ?_)
  refine x_if_eq C 2 4 16 rfl rfl (fun c2 => ?_) (fun c2 => ?_)
  · replace h := h.1 c2
    refine x_iconst (v := (-1 : Int32)) C 8 16 rfl (by decide) ?_
    exact x_iret C rt 9 17 rfl () rfl h
  · replace h := h.2 c2
    refine x_aload_n C 3 7 rfl 0 rfl rfl ?_
    refine x_get (v := .ref (aS 2)) C 4 8 rfl fi_X10 0 rfl rfl 2 (by decide) (mc wq_5_4) rfl ?_
    refine x_iload_n C 5 11 rfl 1 rfl rfl ?_
    obtain ⟨hi, h⟩ := h
    refine x_iald (f := sS 2) C 6 12 rfl 2 rfl hi ?_
    refine x_goto C 7 13 17 rfl rfl ?_
    exact x_iret C rt 9 17 rfl () rfl h
theorem c_X10_places (l : Launch) (D : va_G) (k : ClassId × ClassId) (g : Nat → Nat) (aS : Nat → Nat) (sS : St) (sL : Int64) (p1 : Int32) (K : Int32 → Prop) (h : wp_X10_places sS sL p1 K) : ConI l yX10_places (Cond.code yX10_places cX10_places 2 (some .int) :: wsL_law) ({ frames := 2, cells := 0, slots := 0, locals := 45 } : Room) D k g [.ref (aS 0), .int p1] (fl [wdS k aS sS sL]) (fun (u : Unit) => fl [wdS k aS sS sL]) (fun (r : Int32) (_ : Unit) => K r) := by
  refine ConI.of (tb := tb_X10_places) (cc := cX10_places) (nL := 2) (by decide) rfl tbk_X10_places (Nat.le_of_ble_eq_true rfl) ?_
  intro x hl hD hk hg C rt
  subst hl hD hk hg
  exact w_X10_places C rt h
set_option maxHeartbeats 4000000 in
set_option maxRecDepth 100000 in
theorem w_X10_numberOf_5 {x : CT} {aS : Nat → Nat} {sS : St} {sL : Int64} {x1 : Int32} {K : Int32 → Prop} (C : Cx x cX10_numberOf tb_X10_numberOf 4 RX10 (Cond.code yX10_numberOf cX10_numberOf 4 (some .int) :: wsL_law) ({ frames := 0, cells := 0, slots := 0, locals := 0 } : Room)) (rt : RetI x 0 0 (fun (u : Unit) => fl [wdS (xk x) aS sS sL]) (fun (r : Int32) (_ : Unit) => K r))  {q1 : Int32 × Int32} (h : Lp (F_X10_numberOf_5 sS x1 K) q1) : Wx x 4 0 0 (fl [wdS (xk x) aS sS sL]) [(0, .ref (aS 0)), (1, .int x1), (2, .int q1.1), (3, .int q1.2)] 5 [] := by
  refine lp_walk (P := fun q1 => Wx x 4 0 0 (fl [wdS (xk x) aS sS sL]) [(0, .ref (aS 0)), (1, .int x1), (2, .int q1.1), (3, .int q1.2)] 5 []) (fun q1 R5 hR5 h => ?_) h
  refine x_iload_n C 4 5 rfl 3 rfl rfl ?_
  refine x_if_lt C 5 6 31 rfl rfl (fun c2 => ?_) (fun c2 => ?_)
  · replace h := h.1 c2
    refine x_iload_n C 21 31 rfl 2 rfl rfl ?_
    exact x_iret C rt 22 32 rfl () rfl h
  · replace h := h.2 c2
    refine x_iconst (v := (3 : Int32)) C 6 9 rfl (by decide) ?_
    refine x_iload_n C 7 10 rfl 2 rfl rfl ?_
    refine x_imul C 8 11 rfl ?_
    refine x_aload_n C 9 12 rfl 0 rfl rfl ?_
    refine x_get (v := .ref (aS 5)) C 10 13 rfl fi_X10 0 rfl rfl 6 (by decide) (mc wq_5_7) rfl ?_
    refine x_bipush (v := (9 : Int32)) C 11 16 rfl (by decide) ?_
    refine x_iload_n C 12 18 rfl 1 rfl rfl ?_
    refine x_imul C 13 19 rfl ?_
    refine x_iload_n C 14 20 rfl 3 rfl rfl ?_
    refine x_iadd C 15 21 rfl ?_
    obtain ⟨hi, h⟩ := h
    refine x_iald (f := sS 6) C 16 22 rfl 5 rfl hi ?_
    refine x_iadd C 17 23 rfl ?_
    refine x_topi (fun y3 ey3 => ?_)
    replace h := h y3 ey3
    refine x_istore_n (lv' := [(0, .ref (aS 0)), (1, .int x1), (2, .int y3), (3, .int q1.2)]) C 18 24 rfl rfl (by decide) [1, 2, 0, 3] rfl ?_
    obtain ⟨y4, ey4⟩ : ∃ y : Int32, y = q1.2 + (-1 : Int32) := ⟨_, rfl⟩
    replace h := h y4 ey4
    refine x_iinc (v := y4) (lv' := [(0, .ref (aS 0)), (1, .int x1), (2, .int y3), (3, .int y4)]) C 19 25 rfl 3 rfl (by rw [ey4]; rfl) (by decide) [1, 2, 3, 0] rfl ?_
    refine x_goto C 20 28 5 rfl rfl ?_
    exact x_sub [0, 1, 2, 3] rfl (hR5 (y3, y4) h)
set_option maxHeartbeats 4000000 in
set_option maxRecDepth 100000 in
theorem w_X10_numberOf {x : CT} {aS : Nat → Nat} {sS : St} {sL : Int64} {p1 : Int32} {K : Int32 → Prop} (C : Cx x cX10_numberOf tb_X10_numberOf 4 RX10 (Cond.code yX10_numberOf cX10_numberOf 4 (some .int) :: wsL_law) ({ frames := 0, cells := 0, slots := 0, locals := 0 } : Room)) (rt : RetI x 0 0 (fun (u : Unit) => fl [wdS (xk x) aS sS sL]) (fun (r : Int32) (_ : Unit) => K r)) (h : wp_X10_numberOf sS sL p1 K) : Wx x 4 0 0 (fl [wdS (xk x) aS sS sL]) [(0, .ref (aS 0)), (1, .int p1)] 0 [] := by
  unfold wp_X10_numberOf at h
  refine x_iconst (v := (0 : Int32)) C 0 0 rfl (by decide) ?_
  refine x_istore_n (lv' := [(0, .ref (aS 0)), (1, .int p1), (2, .int (0 : Int32))]) C 1 1 rfl rfl (by decide) [1, 2, 0] rfl ?_
  refine x_bipush (v := (8 : Int32)) C 2 2 rfl (by decide) ?_
  refine x_istore_n (lv' := [(0, .ref (aS 0)), (1, .int p1), (2, .int (0 : Int32)), (3, .int (8 : Int32))]) C 3 4 rfl rfl (by decide) [1, 2, 3, 0] rfl ?_
  refine x_sub (lv' := [(0, .ref (aS 0)), (1, .int p1), (2, .int (0 : Int32)), (3, .int (8 : Int32))]) [0, 1, 2, 3] rfl (w_X10_numberOf_5 C rt h)
theorem c_X10_numberOf (l : Launch) (D : va_G) (k : ClassId × ClassId) (g : Nat → Nat) (aS : Nat → Nat) (sS : St) (sL : Int64) (p1 : Int32) (K : Int32 → Prop) (h : wp_X10_numberOf sS sL p1 K) : ConI l yX10_numberOf (Cond.code yX10_numberOf cX10_numberOf 4 (some .int) :: wsL_law) ({ frames := 0, cells := 0, slots := 0, locals := 0 } : Room) D k g [.ref (aS 0), .int p1] (fl [wdS k aS sS sL]) (fun (u : Unit) => fl [wdS k aS sS sL]) (fun (r : Int32) (_ : Unit) => K r) := by
  refine ConI.of (tb := tb_X10_numberOf) (cc := cX10_numberOf) (nL := 4) (by decide) rfl tbk_X10_numberOf (Nat.le_of_ble_eq_true rfl) ?_
  intro x hl hD hk hg C rt
  subst hl hD hk hg
  exact w_X10_numberOf C rt h
set_option maxHeartbeats 4000000 in
set_option maxRecDepth 100000 in
theorem w_X10_call {x : CT} {aS : Nat → Nat} {sS : St} {sL : Int64} {p1 : Int32} {p2 : Int32} {K : Int32 → Prop} (C : Cx x cX10_call tb_X10_call 3 RX10 (Cond.code yX10_call cX10_call 3 (some .int) :: wsL_law) ({ frames := 2, cells := 0, slots := 0, locals := 46 } : Room)) (rt : RetI x 0 0 (fun (u : Unit) => fl [wdS (xk x) aS sS sL]) (fun (r : Int32) (_ : Unit) => K r)) (h : wp_X10_call sS sL p1 p2 K) : Wx x 3 0 0 (fl [wdS (xk x) aS sS sL]) [(0, .ref (aS 0)), (1, .int p1), (2, .int p2)] 0 [] := by
  unfold wp_X10_call at h
  refine x_aload_n C 0 0 rfl 0 rfl rfl ?_
  refine x_iload_n C 1 1 rfl 1 rfl rfl ?_
  refine x_callWVZ (ci := 8) (q0 := 0) (q := (RX10, TX10, 34)) C 2 2 (c_X10_isCall (xl x) (xD x) (xk x) (xg x) aS sS sL p1 _ h) rfl wwGood (mem4 wq_17_11 wq_17_12 wq_17_13 wq_1_5) wq_17_14 1 ok_X10_isCall rfl ⟨by decide, by decide⟩ (Nat.le_of_ble_eq_true rfl) ⟨Nat.le_refl _, Nat.le_refl _⟩ ⟨rfl, rfl⟩ rfl rfl rfl (fun r1 _ h => ?_)
  refine x_if_eq C 3 5 20 rfl rfl (fun c2 => ?_) (fun c2 => ?_)
  · replace h := h.1 c2
    refine x_iconst (v := (-1 : Int32)) C 10 20 rfl (by decide) ?_
    exact x_iret C rt 11 21 rfl () rfl h
  · replace h := h.2 c2
    refine x_iload_n C 4 8 rfl 2 rfl rfl ?_
    refine x_i2l C 5 9 rfl ?_
    refine x_lconst (v := (0 : Int64)) C 6 10 rfl (by decide) ?_
    refine x_ldc2 (v := (2 : Int64)) C 7 11 rfl (mc wq_17_10) ?_
    refine x_call0SZ C 8 14 (c_X10_in (xl x) (xD x) (xk x) (xg x) p2.toInt64 (0 : Int64) (2 : Int64) _ h) rfl wwGood (mem3 wq_6_21 wq_6_22 wq_1_5) wq_6_23 3 ok_X10_in rfl ⟨by decide, by decide⟩ (Nat.le_of_ble_eq_true rfl) ⟨Nat.le_refl _, Nat.le_refl _⟩ ⟨rfl, rfl⟩ rfl (fun r3 _ h => ?_)
    refine x_if_ne C 9 17 22 rfl rfl (fun c4 => ?_) (fun c4 => ?_)
    · replace h := h.2 c4
      refine x_iload_n C 12 22 rfl 2 rfl rfl ?_
      refine x_if_ne C 13 23 35 rfl rfl (fun c5 => ?_) (fun c5 => ?_)
      · replace h := h.2 c5
        refine x_iload_n C 19 35 rfl 2 rfl rfl ?_
        refine x_iconst (v := (1 : Int32)) C 20 36 rfl (by decide) ?_
        refine x_icmp_ne C 21 37 49 rfl rfl (fun c6 => ?_) (fun c6 => ?_)
        · replace h := h.2 c6
          refine x_aload_n C 27 49 rfl 0 rfl rfl ?_
          refine x_iload_n C 28 50 rfl 1 rfl rfl ?_
          refine x_callWVI (ci := 8) (q0 := 0) (q := (RX10, TX10, 34)) C 29 51 (c_X10_numberOf (xl x) (xD x) (xk x) (xg x) aS sS sL p1 _ h) rfl wwGood (mem4 wq_17_15 wq_17_16 wq_17_17 wq_1_5) wq_17_18 1 ok_X10_numberOf rfl ⟨by decide, by decide⟩ (Nat.le_of_ble_eq_true rfl) ⟨Nat.le_refl _, Nat.le_refl _⟩ ⟨rfl, rfl⟩ rfl rfl rfl (fun r7 _ h => ?_)
          exact x_iret C rt 30 54 rfl () rfl h
        · replace h := h.1 c6
          refine x_aload_n C 22 40 rfl 0 rfl rfl ?_
          refine x_get (v := .ref (aS 4)) C 23 41 rfl fi_X10 0 rfl rfl 5 (by decide) (mc wq_5_6) rfl ?_
          refine x_iload_n C 24 44 rfl 1 rfl rfl ?_
          obtain ⟨hi, h⟩ := h
          refine x_iald (f := sS 5) C 25 45 rfl 4 rfl hi ?_
          refine x_goto C 26 46 54 rfl rfl ?_
          exact x_iret C rt 30 54 rfl () rfl h
      · replace h := h.1 c5
        refine x_aload_n C 14 26 rfl 0 rfl rfl ?_
        refine x_get (v := .ref (aS 3)) C 15 27 rfl fi_X10 0 rfl rfl 4 (by decide) (mc wq_5_5) rfl ?_
        refine x_iload_n C 16 30 rfl 1 rfl rfl ?_
        obtain ⟨hi, h⟩ := h
        refine x_iald (f := sS 4) C 17 31 rfl 3 rfl hi ?_
        refine x_goto C 18 32 54 rfl rfl ?_
        exact x_iret C rt 30 54 rfl () rfl h
    · replace h := h.1 c4
      refine x_iconst (v := (-1 : Int32)) C 10 20 rfl (by decide) ?_
      exact x_iret C rt 11 21 rfl () rfl h
theorem c_X10_call (l : Launch) (D : va_G) (k : ClassId × ClassId) (g : Nat → Nat) (aS : Nat → Nat) (sS : St) (sL : Int64) (p1 : Int32) (p2 : Int32) (K : Int32 → Prop) (h : wp_X10_call sS sL p1 p2 K) : ConI l yX10_call (Cond.code yX10_call cX10_call 3 (some .int) :: wsL_law) ({ frames := 2, cells := 0, slots := 0, locals := 46 } : Room) D k g [.ref (aS 0), .int p1, .int p2] (fl [wdS k aS sS sL]) (fun (u : Unit) => fl [wdS k aS sS sL]) (fun (r : Int32) (_ : Unit) => K r) := by
  refine ConI.of (tb := tb_X10_call) (cc := cX10_call) (nL := 3) (by decide) rfl tbk_X10_call (Nat.le_of_ble_eq_true rfl) ?_
  intro x hl hD hk hg C rt
  subst hl hD hk hg
  exact w_X10_call C rt h
set_option maxHeartbeats 4000000 in
set_option maxRecDepth 100000 in
theorem w_X10_isArc {x : CT} {aS : Nat → Nat} {sS : St} {sL : Int64} {p1 : Int32} {p2 : Int32} {p3 : Int32} {K : Int32 → Prop} (C : Cx x cX10_isArc tb_X10_isArc 4 RX10 (Cond.code yX10_isArc cX10_isArc 4 (some .boolean) :: wsL_law) ({ frames := 2, cells := 0, slots := 0, locals := 46 } : Room)) (rt : RetZ x 0 0 (fun (u : Unit) => fl [wdS (xk x) aS sS sL]) (fun (r : Int32) (_ : Unit) => K r)) (h : wp_X10_isArc sS sL p1 p2 p3 K) : Wx x 4 0 0 (fl [wdS (xk x) aS sS sL]) [(0, .ref (aS 0)), (1, .int p1), (2, .int p2), (3, .int p3)] 0 [] := by
  unfold wp_X10_isArc at h
  refine x_aload_n C 0 0 rfl 0 rfl rfl ?_
  refine x_iload_n C 1 1 rfl 1 rfl rfl ?_
  refine x_callWVZ (ci := 8) (q0 := 0) (q := (RX10, TX10, 34)) C 2 2 (c_X10_isCall (xl x) (xD x) (xk x) (xg x) aS sS sL p1 _ h) rfl wwGood (mem4 wq_17_11 wq_17_12 wq_17_13 wq_1_5) wq_17_14 1 ok_X10_isCall rfl ⟨by decide, by decide⟩ (Nat.le_of_ble_eq_true rfl) ⟨Nat.le_refl _, Nat.le_refl _⟩ ⟨rfl, rfl⟩ rfl rfl rfl (fun r1 _ h => ?_)
  refine x_if_eq C 3 5 58 rfl rfl (fun c2 => ?_) (fun c2 => ?_)
  · replace h := h.1 c2
    refine x_iconst (v := (0 : Int32)) C 36 58 rfl (by decide) ?_
    exact x_zret C rt 37 59 rfl zb_0 () rfl h
  · replace h := h.2 c2
    refine x_iload_n C 4 8 rfl 2 rfl rfl ?_
    refine x_i2l C 5 9 rfl ?_
    refine x_lconst (v := (0 : Int64)) C 6 10 rfl (by decide) ?_
    refine x_aload_n C 7 11 rfl 0 rfl rfl ?_
    refine x_get (v := .ref (aS 2)) C 8 12 rfl fi_X10 0 rfl rfl 2 (by decide) (mc wq_5_4) rfl ?_
    refine x_aload_n C 9 15 rfl 0 rfl rfl ?_
    refine x_get (v := .ref (aS 3)) C 10 16 rfl fi_X10 0 rfl rfl 4 (by decide) (mc wq_5_5) rfl ?_
    refine x_iload_n C 11 19 rfl 1 rfl rfl ?_
    obtain ⟨hi, h⟩ := h
    refine x_iald (f := sS 4) C 12 20 rfl 3 rfl hi ?_
    obtain ⟨hi, h⟩ := h
    refine x_iald (f := sS 2) C 13 21 rfl 2 rfl hi ?_
    refine x_iconst (v := (1 : Int32)) C 14 22 rfl (by decide) ?_
    refine x_isub C 15 23 rfl ?_
    refine x_i2l C 16 24 rfl ?_
    refine x_call0SZ C 17 25 (c_X10_in (xl x) (xD x) (xk x) (xg x) p2.toInt64 (0 : Int64) ((sS 2 (sS 4 p1.toNatClampNeg).toNatClampNeg - (1 : Int32)).toInt64) _ h) rfl wwGood (mem3 wq_6_21 wq_6_22 wq_1_5) wq_6_23 3 ok_X10_in rfl ⟨by decide, by decide⟩ (Nat.le_of_ble_eq_true rfl) ⟨Nat.le_refl _, Nat.le_refl _⟩ ⟨rfl, rfl⟩ rfl (fun r3 _ h => ?_)
    refine x_if_eq C 18 28 58 rfl rfl (fun c4 => ?_) (fun c4 => ?_)
    · replace h := h.1 c4
      refine x_iconst (v := (0 : Int32)) C 36 58 rfl (by decide) ?_
      exact x_zret C rt 37 59 rfl zb_0 () rfl h
    · replace h := h.2 c4
      refine x_iload_n C 19 31 rfl 3 rfl rfl ?_
      refine x_i2l C 20 32 rfl ?_
      refine x_lconst (v := (0 : Int64)) C 21 33 rfl (by decide) ?_
      refine x_aload_n C 22 34 rfl 0 rfl rfl ?_
      refine x_get (v := .ref (aS 2)) C 23 35 rfl fi_X10 0 rfl rfl 2 (by decide) (mc wq_5_4) rfl ?_
      refine x_aload_n C 24 38 rfl 0 rfl rfl ?_
      refine x_get (v := .ref (aS 4)) C 25 39 rfl fi_X10 0 rfl rfl 5 (by decide) (mc wq_5_6) rfl ?_
      refine x_iload_n C 26 42 rfl 1 rfl rfl ?_
      obtain ⟨hi, h⟩ := h
      refine x_iald (f := sS 5) C 27 43 rfl 4 rfl hi ?_
      obtain ⟨hi, h⟩ := h
      refine x_iald (f := sS 2) C 28 44 rfl 2 rfl hi ?_
      refine x_iconst (v := (1 : Int32)) C 29 45 rfl (by decide) ?_
      refine x_isub C 30 46 rfl ?_
      refine x_i2l C 31 47 rfl ?_
      refine x_call0SZ C 32 48 (c_X10_in (xl x) (xD x) (xk x) (xg x) p3.toInt64 (0 : Int64) ((sS 2 (sS 5 p1.toNatClampNeg).toNatClampNeg - (1 : Int32)).toInt64) _ h) rfl wwGood (mem3 wq_6_21 wq_6_22 wq_1_5) wq_6_23 3 ok_X10_in rfl ⟨by decide, by decide⟩ (Nat.le_of_ble_eq_true rfl) ⟨Nat.le_refl _, Nat.le_refl _⟩ ⟨rfl, rfl⟩ rfl (fun r5 _ h => ?_)
      refine x_if_eq C 33 51 58 rfl rfl (fun c6 => ?_) (fun c6 => ?_)
      · replace h := h.1 c6
        refine x_iconst (v := (0 : Int32)) C 36 58 rfl (by decide) ?_
        exact x_zret C rt 37 59 rfl zb_0 () rfl h
      · replace h := h.2 c6
        refine x_iconst (v := (1 : Int32)) C 34 54 rfl (by decide) ?_
        refine x_goto C 35 55 59 rfl rfl ?_
        exact x_zret C rt 37 59 rfl zb_1 () rfl h
theorem c_X10_isArc (l : Launch) (D : va_G) (k : ClassId × ClassId) (g : Nat → Nat) (aS : Nat → Nat) (sS : St) (sL : Int64) (p1 : Int32) (p2 : Int32) (p3 : Int32) (K : Int32 → Prop) (h : wp_X10_isArc sS sL p1 p2 p3 K) : ConZ l yX10_isArc (Cond.code yX10_isArc cX10_isArc 4 (some .boolean) :: wsL_law) ({ frames := 2, cells := 0, slots := 0, locals := 46 } : Room) D k g [.ref (aS 0), .int p1, .int p2, .int p3] (fl [wdS k aS sS sL]) (fun (u : Unit) => fl [wdS k aS sS sL]) (fun (r : Int32) (_ : Unit) => K r) := by
  refine ConZ.of (tb := tb_X10_isArc) (cc := cX10_isArc) (nL := 4) (by decide) rfl tbk_X10_isArc (Nat.le_of_ble_eq_true rfl) ?_
  intro x hl hD hk hg C rt
  subst hl hD hk hg
  exact w_X10_isArc C rt h
set_option maxHeartbeats 4000000 in
set_option maxRecDepth 100000 in
theorem w_X10_arc {x : CT} {aS : Nat → Nat} {sS : St} {sL : Int64} {p1 : Int32} {p2 : Int32} {p3 : Int32} {K : Int32 → Prop} (C : Cx x cX10_arc tb_X10_arc 4 RX10 (Cond.code yX10_arc cX10_arc 4 (some .int) :: wsL_law) ({ frames := 3, cells := 0, slots := 0, locals := 69 } : Room)) (rt : RetI x 0 0 (fun (u : Unit) => fl [wdS (xk x) aS sS sL]) (fun (r : Int32) (_ : Unit) => K r)) (h : wp_X10_arc sS sL p1 p2 p3 K) : Wx x 4 0 0 (fl [wdS (xk x) aS sS sL]) [(0, .ref (aS 0)), (1, .int p1), (2, .int p2), (3, .int p3)] 0 [] := by
  unfold wp_X10_arc at h
  refine x_aload_n C 0 0 rfl 0 rfl rfl ?_
  refine x_iload_n C 1 1 rfl 1 rfl rfl ?_
  refine x_iload_n C 2 2 rfl 2 rfl rfl ?_
  refine x_iload_n C 3 3 rfl 3 rfl rfl ?_
  refine x_callWVZ (ci := 8) (q0 := 0) (q := (RX10, TX10, 34)) C 4 4 (c_X10_isArc (xl x) (xD x) (xk x) (xg x) aS sS sL p1 p2 p3 _ h) rfl wwGood (mem4 wq_18_9 wq_18_10 wq_18_11 wq_1_5) wq_18_12 3 ok_X10_isArc rfl ⟨by decide, by decide⟩ (Nat.le_of_ble_eq_true rfl) ⟨Nat.le_refl _, Nat.le_refl _⟩ ⟨rfl, rfl⟩ rfl rfl rfl (fun r1 _ h => ?_)
  refine x_if_eq C 5 7 28 rfl rfl (fun c2 => ?_) (fun c2 => ?_)
  · replace h := h.1 c2
    refine x_iconst (v := (-1 : Int32)) C 19 28 rfl (by decide) ?_
    exact x_iret C rt 20 29 rfl () rfl h
  · replace h := h.2 c2
    refine x_aload_n C 6 10 rfl 0 rfl rfl ?_
    refine x_get (v := .ref (aS 5)) C 7 11 rfl fi_X10 0 rfl rfl 6 (by decide) (mc wq_5_7) rfl ?_
    refine x_bipush (v := (9 : Int32)) C 8 14 rfl (by decide) ?_
    refine x_iload_n C 9 16 rfl 1 rfl rfl ?_
    refine x_imul C 10 17 rfl ?_
    refine x_iconst (v := (3 : Int32)) C 11 18 rfl (by decide) ?_
    refine x_iload_n C 12 19 rfl 2 rfl rfl ?_
    refine x_imul C 13 20 rfl ?_
    refine x_iadd C 14 21 rfl ?_
    refine x_iload_n C 15 22 rfl 3 rfl rfl ?_
    refine x_iadd C 16 23 rfl ?_
    obtain ⟨hi, h⟩ := h
    refine x_iald (f := sS 6) C 17 24 rfl 5 rfl hi ?_
    refine x_goto C 18 25 29 rfl rfl ?_
    exact x_iret C rt 20 29 rfl () rfl h
theorem c_X10_arc (l : Launch) (D : va_G) (k : ClassId × ClassId) (g : Nat → Nat) (aS : Nat → Nat) (sS : St) (sL : Int64) (p1 : Int32) (p2 : Int32) (p3 : Int32) (K : Int32 → Prop) (h : wp_X10_arc sS sL p1 p2 p3 K) : ConI l yX10_arc (Cond.code yX10_arc cX10_arc 4 (some .int) :: wsL_law) ({ frames := 3, cells := 0, slots := 0, locals := 69 } : Room) D k g [.ref (aS 0), .int p1, .int p2, .int p3] (fl [wdS k aS sS sL]) (fun (u : Unit) => fl [wdS k aS sS sL]) (fun (r : Int32) (_ : Unit) => K r) := by
  refine ConI.of (tb := tb_X10_arc) (cc := cX10_arc) (nL := 4) (by decide) rfl tbk_X10_arc (Nat.le_of_ble_eq_true rfl) ?_
  intro x hl hD hk hg C rt
  subst hl hD hk hg
  exact w_X10_arc C rt h
set_option maxHeartbeats 4000000 in
set_option maxRecDepth 100000 in
theorem w_X10_put {x : CT} {aS : Nat → Nat} {sS : St} {sL : Int64} {p1 : Int32} {p2 : Int32} {p3 : Int32} {p4 : Int32} {K : Int32 → St → Prop} (C : Cx x cX10_put tb_X10_put 6 RX10 (Cond.code yX10_put cX10_put 6 (some .int) :: wsL_law) ({ frames := 3, cells := 0, slots := 0, locals := 69 } : Room)) (rt : RetI x 0 0 (fun (u : St) => fl [wdS (xk x) aS u sL]) (fun (r : Int32) (u : St) => K r u)) (h : wp_X10_put sS sL p1 p2 p3 p4 K) : Wx x 6 0 0 (fl [wdS (xk x) aS sS sL]) [(0, .ref (aS 0)), (1, .int p1), (2, .int p2), (3, .int p3), (4, .int p4)] 0 [] := by
  unfold wp_X10_put at h
  refine x_aload_n C 0 0 rfl 0 rfl rfl ?_
  refine x_iload_n C 1 1 rfl 1 rfl rfl ?_
  refine x_iload_n C 2 2 rfl 2 rfl rfl ?_
  refine x_iload_n C 3 3 rfl 3 rfl rfl ?_
  refine x_callWVZ (ci := 8) (q0 := 0) (q := (RX10, TX10, 34)) C 4 4 (c_X10_isArc (xl x) (xD x) (xk x) (xg x) aS sS sL p1 p2 p3 _ h) rfl wwGood (mem4 wq_18_9 wq_18_10 wq_18_11 wq_1_5) wq_18_12 3 ok_X10_isArc rfl ⟨by decide, by decide⟩ (Nat.le_of_ble_eq_true rfl) ⟨Nat.le_refl _, Nat.le_refl _⟩ ⟨rfl, rfl⟩ rfl rfl rfl (fun r1 _ h => ?_)
  refine x_if_eq C 5 7 23 rfl rfl (fun c2 => ?_) (fun c2 => ?_)
  · replace h := h.1 c2
    refine x_iconst (v := (-1 : Int32)) C 12 23 rfl (by decide) ?_
    exact x_iret C rt 13 24 rfl sS rfl h
  · replace h := h.2 c2
    refine x_iload C 6 10 rfl 4 rfl ?_
    refine x_i2l C 7 12 rfl ?_
    refine x_lconst (v := (0 : Int64)) C 8 13 rfl (by decide) ?_
    refine x_ldc2 (v := (2 : Int64)) C 9 14 rfl (mc wq_17_10) ?_
    refine x_call0SZ C 10 17 (c_X10_in (xl x) (xD x) (xk x) (xg x) p4.toInt64 (0 : Int64) (2 : Int64) _ h) rfl wwGood (mem3 wq_6_21 wq_6_22 wq_1_5) wq_6_23 3 ok_X10_in rfl ⟨by decide, by decide⟩ (Nat.le_of_ble_eq_true rfl) ⟨Nat.le_refl _, Nat.le_refl _⟩ ⟨rfl, rfl⟩ rfl (fun r3 _ h => ?_)
    refine x_if_ne C 11 20 25 rfl rfl (fun c4 => ?_) (fun c4 => ?_)
    · replace h := h.2 c4
      refine x_aload_n C 14 25 rfl 0 rfl rfl ?_
      refine x_get (v := .ref (aS 5)) C 15 26 rfl fi_X10 0 rfl rfl 6 (by decide) (mc wq_5_7) rfl ?_
      refine x_bipush (v := (9 : Int32)) C 16 29 rfl (by decide) ?_
      refine x_iload_n C 17 31 rfl 1 rfl rfl ?_
      refine x_imul C 18 32 rfl ?_
      refine x_iconst (v := (3 : Int32)) C 19 33 rfl (by decide) ?_
      refine x_iload_n C 20 34 rfl 2 rfl rfl ?_
      refine x_imul C 21 35 rfl ?_
      refine x_iadd C 22 36 rfl ?_
      refine x_iload_n C 23 37 rfl 3 rfl rfl ?_
      refine x_iadd C 24 38 rfl ?_
      obtain ⟨hi, h⟩ := h
      refine x_iald (f := sS 6) C 25 39 rfl 5 rfl hi ?_
      refine x_topi (fun y5 ey5 => ?_)
      replace h := h y5 ey5
      refine x_istore (lv' := [(0, .ref (aS 0)), (1, .int p1), (2, .int p2), (3, .int p3), (4, .int p4), (5, .int y5)]) C 26 40 rfl (by decide) [1, 2, 3, 4, 5, 0] rfl ?_
      refine x_aload_n C 27 42 rfl 0 rfl rfl ?_
      refine x_get (v := .ref (aS 5)) C 28 43 rfl fi_X10 0 rfl rfl 6 (by decide) (mc wq_5_7) rfl ?_
      refine x_bipush (v := (9 : Int32)) C 29 46 rfl (by decide) ?_
      refine x_iload_n C 30 48 rfl 1 rfl rfl ?_
      refine x_imul C 31 49 rfl ?_
      refine x_iconst (v := (3 : Int32)) C 32 50 rfl (by decide) ?_
      refine x_iload_n C 33 51 rfl 2 rfl rfl ?_
      refine x_imul C 34 52 rfl ?_
      refine x_iadd C 35 53 rfl ?_
      refine x_iload_n C 36 54 rfl 3 rfl rfl ?_
      refine x_iadd C 37 55 rfl ?_
      refine x_iload C 38 56 rfl 4 rfl ?_
      obtain ⟨hi, h⟩ := h
      obtain ⟨z6, ez6⟩ : ∃ z : St, z = ua sS 6 ((((9 : Int32) * p1) + ((3 : Int32) * p2)) + p3) p4 := ⟨_, rfl⟩
      replace h := h z6 ez6
      refine x_iast (f := sS 6) (ws' := fl [wdS (xk x) aS z6 sL]) C 39 58 rfl 5 rfl hi (by rw [ez6]; rfl) ?_
      refine x_iload C 40 59 rfl 5 rfl ?_
      exact x_iret C rt 41 61 rfl z6 rfl h
    · replace h := h.1 c4
      refine x_iconst (v := (-1 : Int32)) C 12 23 rfl (by decide) ?_
      exact x_iret C rt 13 24 rfl sS rfl h
theorem c_X10_put (l : Launch) (D : va_G) (k : ClassId × ClassId) (g : Nat → Nat) (aS : Nat → Nat) (sS : St) (sL : Int64) (p1 : Int32) (p2 : Int32) (p3 : Int32) (p4 : Int32) (K : Int32 → St → Prop) (h : wp_X10_put sS sL p1 p2 p3 p4 K) : ConI l yX10_put (Cond.code yX10_put cX10_put 6 (some .int) :: wsL_law) ({ frames := 3, cells := 0, slots := 0, locals := 69 } : Room) D k g [.ref (aS 0), .int p1, .int p2, .int p3, .int p4] (fl [wdS k aS sS sL]) (fun (u : St) => fl [wdS k aS u sL]) (fun (r : Int32) (u : St) => K r u) := by
  refine ConI.of (tb := tb_X10_put) (cc := cX10_put) (nL := 6) (by decide) rfl tbk_X10_put (Nat.le_of_ble_eq_true rfl) ?_
  intro x hl hD hk hg C rt
  subst hl hD hk hg
  exact w_X10_put C rt h
set_option maxHeartbeats 4000000 in
set_option maxRecDepth 100000 in
theorem w_X10_digit {x : CT} {aS : Nat → Nat} {sS : St} {sL : Int64} {p1 : Int32} {p2 : Int32} {p3 : Int32} {K : Int32 → Prop} (C : Cx x cX10_digit tb_X10_digit 4 RX10 (Cond.code yX10_digit cX10_digit 4 (some .int) :: wsL_law) ({ frames := 0, cells := 0, slots := 0, locals := 0 } : Room)) (rt : RetI x 0 0 (fun (u : Unit) => fl [wdS (xk x) aS sS sL]) (fun (r : Int32) (_ : Unit) => K r)) (h : wp_X10_digit sS sL p1 p2 p3 K) : Wx x 4 0 0 (fl [wdS (xk x) aS sS sL]) [(0, .ref (aS 0)), (1, .int p1), (2, .int p2), (3, .int p3)] 0 [] := by
  unfold wp_X10_digit at h
  refine x_iload_n C 0 0 rfl 1 rfl rfl ?_
  refine x_aload_n C 1 1 rfl 0 rfl rfl ?_
  refine x_get (v := .ref (aS 7)) C 2 2 rfl fi_X10 0 rfl rfl 11 (by decide) (mc wq_5_10) rfl ?_
  refine x_iconst (v := (3 : Int32)) C 3 5 rfl (by decide) ?_
  refine x_iload_n C 4 6 rfl 2 rfl rfl ?_
  refine x_imul C 5 7 rfl ?_
  refine x_iload_n C 6 8 rfl 3 rfl rfl ?_
  refine x_iadd C 7 9 rfl ?_
  obtain ⟨hi, h⟩ := h
  refine x_iald (f := sS 11) C 8 10 rfl 7 rfl hi ?_
  obtain ⟨hd, h⟩ := h
  refine x_idiv C 9 11 rfl hd ?_
  refine x_iconst (v := (3 : Int32)) C 10 12 rfl (by decide) ?_
  refine x_irem C 11 13 rfl (by decide) ?_
  exact x_iret C rt 12 14 rfl () rfl h
theorem c_X10_digit (l : Launch) (D : va_G) (k : ClassId × ClassId) (g : Nat → Nat) (aS : Nat → Nat) (sS : St) (sL : Int64) (p1 : Int32) (p2 : Int32) (p3 : Int32) (K : Int32 → Prop) (h : wp_X10_digit sS sL p1 p2 p3 K) : ConI l yX10_digit (Cond.code yX10_digit cX10_digit 4 (some .int) :: wsL_law) ({ frames := 0, cells := 0, slots := 0, locals := 0 } : Room) D k g [.ref (aS 0), .int p1, .int p2, .int p3] (fl [wdS k aS sS sL]) (fun (u : Unit) => fl [wdS k aS sS sL]) (fun (r : Int32) (_ : Unit) => K r) := by
  refine ConI.of (tb := tb_X10_digit) (cc := cX10_digit) (nL := 4) (by decide) rfl tbk_X10_digit (Nat.le_of_ble_eq_true rfl) ?_
  intro x hl hD hk hg C rt
  subst hl hD hk hg
  exact w_X10_digit C rt h
set_option maxHeartbeats 4000000 in
set_option maxRecDepth 100000 in
theorem wj_X10_put2_77 {x : CT} {aS : Nat → Nat} {sS : St} {sL : Int64} {x1 : Int32} {x2 : Int32} {x3 : Int32} {x4 : Int32} {x5 : Int32} {x6 : Int32} {t0 : Int32} {K : Int32 → Prop} {R17 : Int32 × Int32 → Prop} (C : Cx x cX10_put2 tb_X10_put2 10 RX10 (Cond.code yX10_put2 cX10_put2 10 (some .int) :: wsL_law) ({ frames := 1, cells := 0, slots := 0, locals := 23 } : Room)) (rt : RetI x 0 0 (fun (u : Unit) => fl [wdS (xk x) aS sS sL]) (fun (r : Int32) (_ : Unit) => K r)) (hR17 : ∀ q : Int32 × Int32, R17 q → Wx x 10 0 0 (fl [wdS (xk x) aS sS sL]) [(0, .ref (aS 0)), (1, .int x1), (2, .int x2), (3, .int x3), (4, .int x4), (5, .int q.1), (6, .int q.2)] 17 []) (h : J_X10_put2_77 x5 x6 t0 R17) : Wx x 10 0 0 (fl [wdS (xk x) aS sS sL]) [(0, .ref (aS 0)), (1, .int x1), (2, .int x2), (3, .int x3), (4, .int x4), (5, .int x5), (6, .int x6)] 77 [.int t0] := by
  unfold J_X10_put2_77 at h
  refine x_istore (lv' := [(0, .ref (aS 0)), (1, .int x1), (2, .int x2), (3, .int x3), (4, .int x4), (5, .int x5), (6, .int x6), (9, .int t0)]) C 43 77 rfl (by decide) [1, 2, 3, 4, 5, 6, 7, 0] rfl ?_
  refine x_iload C 44 79 rfl 7 rfl ?_
  refine x_iload C 45 81 rfl 5 rfl ?_
  refine x_icmp_le C 46 83 91 rfl rfl (fun c8 => ?_) (fun c8 => ?_)
  · replace h := h.1 c8
    refine x_iload C 49 91 rfl 5 rfl ?_
    refine x_istore (lv' := [(0, .ref (aS 0)), (1, .int x1), (2, .int x2), (3, .int x3), (4, .int x4), (5, .int x5), (6, .int x6)]) C 50 93 rfl (by decide) [1, 2, 3, 4, 5, 0, 6] rfl ?_
    obtain ⟨y9, ey9⟩ : ∃ y : Int32, y = x6 + (1 : Int32) := ⟨_, rfl⟩
    replace h := h y9 ey9
    refine x_iinc (v := y9) (lv' := [(0, .ref (aS 0)), (1, .int x1), (2, .int x2), (3, .int x3), (4, .int x4), (5, .int x5), (6, .int y9)]) C 51 95 rfl 6 rfl (by rw [ey9]; rfl) (by decide) [1, 2, 3, 4, 5, 6, 0] rfl ?_
    refine x_goto C 52 98 17 rfl rfl ?_
    exact x_sub [0, 1, 2, 3, 4, 5, 6] rfl (hR17 (x5, y9) h)
  · replace h := h.2 c8
    refine x_iload C 47 86 rfl 7 rfl ?_
    refine x_goto C 48 88 93 rfl rfl ?_
    refine x_istore (lv' := [(0, .ref (aS 0)), (1, .int x1), (2, .int x2), (3, .int x3), (4, .int x4), (5, .int t0), (6, .int x6)]) C 50 93 rfl (by decide) [1, 2, 3, 4, 5, 0, 6] rfl ?_
    obtain ⟨y10, ey10⟩ : ∃ y : Int32, y = x6 + (1 : Int32) := ⟨_, rfl⟩
    replace h := h y10 ey10
    refine x_iinc (v := y10) (lv' := [(0, .ref (aS 0)), (1, .int x1), (2, .int x2), (3, .int x3), (4, .int x4), (5, .int t0), (6, .int y10)]) C 51 95 rfl 6 rfl (by rw [ey10]; rfl) (by decide) [1, 2, 3, 4, 5, 6, 0] rfl ?_
    refine x_goto C 52 98 17 rfl rfl ?_
    exact x_sub [0, 1, 2, 3, 4, 5, 6] rfl (hR17 (t0, y10) h)
set_option maxHeartbeats 4000000 in
set_option maxRecDepth 100000 in
theorem wj_X10_put2_59 {x : CT} {aS : Nat → Nat} {sS : St} {sL : Int64} {x1 : Int32} {x2 : Int32} {x3 : Int32} {x4 : Int32} {x5 : Int32} {x6 : Int32} {K : Int32 → Prop} {R17 : Int32 × Int32 → Prop} (C : Cx x cX10_put2 tb_X10_put2 10 RX10 (Cond.code yX10_put2 cX10_put2 10 (some .int) :: wsL_law) ({ frames := 1, cells := 0, slots := 0, locals := 23 } : Room)) (rt : RetI x 0 0 (fun (u : Unit) => fl [wdS (xk x) aS sS sL]) (fun (r : Int32) (_ : Unit) => K r)) (hR17 : ∀ q : Int32 × Int32, R17 q → Wx x 10 0 0 (fl [wdS (xk x) aS sS sL]) [(0, .ref (aS 0)), (1, .int x1), (2, .int x2), (3, .int x3), (4, .int x4), (5, .int q.1), (6, .int q.2)] 17 []) (h : J_X10_put2_59 x5 x6 R17) : Wx x 10 0 0 (fl [wdS (xk x) aS sS sL]) [(0, .ref (aS 0)), (1, .int x1), (2, .int x2), (3, .int x3), (4, .int x4), (5, .int x5), (6, .int x6)] 59 [] := by
  unfold J_X10_put2_59 at h
  refine x_iconst (v := (0 : Int32)) C 33 59 rfl (by decide) ?_
  refine x_goto C 34 60 77 rfl rfl ?_
  exact x_sub (lv' := [(0, .ref (aS 0)), (1, .int x1), (2, .int x2), (3, .int x3), (4, .int x4), (5, .int x5), (6, .int x6)]) [0, 1, 2, 3, 4, 5, 6] rfl (wj_X10_put2_77 C rt hR17 h)
set_option maxHeartbeats 4000000 in
set_option maxRecDepth 100000 in
theorem w_X10_put2_17 {x : CT} {aS : Nat → Nat} {sS : St} {sL : Int64} {x1 : Int32} {x2 : Int32} {x3 : Int32} {x4 : Int32} {K : Int32 → Prop} {E101 : Int32 → Prop} (C : Cx x cX10_put2 tb_X10_put2 10 RX10 (Cond.code yX10_put2 cX10_put2 10 (some .int) :: wsL_law) ({ frames := 1, cells := 0, slots := 0, locals := 23 } : Room)) (rt : RetI x 0 0 (fun (u : Unit) => fl [wdS (xk x) aS sS sL]) (fun (r : Int32) (_ : Unit) => K r)) (hE101 : ∀ q : Int32, E101 q → Wx x 10 0 0 (fl [wdS (xk x) aS sS sL]) [(0, .ref (aS 0)), (1, .int x1), (2, .int x2), (3, .int x3), (4, .int x4), (5, .int q)] 101 []) {q3 : Int32 × Int32} (h : Lp (F_X10_put2_17 sS sL x1 x2 x4 E101) q3) : Wx x 10 0 0 (fl [wdS (xk x) aS sS sL]) [(0, .ref (aS 0)), (1, .int x1), (2, .int x2), (3, .int x3), (4, .int x4), (5, .int q3.1), (6, .int q3.2)] 17 [] := by
  refine lp_walk (P := fun q3 => Wx x 10 0 0 (fl [wdS (xk x) aS sS sL]) [(0, .ref (aS 0)), (1, .int x1), (2, .int x2), (3, .int x3), (4, .int x4), (5, .int q3.1), (6, .int q3.2)] 17 []) (fun q3 R17 hR17 h => ?_) h
  refine x_iload C 10 17 rfl 6 rfl ?_
  refine x_iconst (v := (3 : Int32)) C 11 19 rfl (by decide) ?_
  refine x_icmp_ge C 12 20 101 rfl rfl (fun c4 => ?_) (fun c4 => ?_)
  · replace h := h.1 c4
    exact x_sub [0, 1, 2, 3, 4, 5] rfl (hE101 q3.1 h)
  · replace h := h.2 c4
    refine x_aload_n C 13 23 rfl 0 rfl rfl ?_
    refine x_iload_n C 14 24 rfl 1 rfl rfl ?_
    refine x_iload C 15 25 rfl 4 rfl ?_
    refine x_iconst (v := (3 : Int32)) C 16 27 rfl (by decide) ?_
    refine x_idiv C 17 28 rfl (by decide) ?_
    refine x_iload C 18 29 rfl 6 rfl ?_
    refine x_callWVI (ci := 8) (q0 := 0) (q := (RX10, TX10, 34)) C 19 31 (c_X10_digit (xl x) (xD x) (xk x) (xg x) aS sS sL x1 (x4 / (3 : Int32)) q3.2 _ h) rfl wwGood (mem4 wq_23_5 wq_23_6 wq_23_7 wq_1_5) wq_23_8 3 ok_X10_digit rfl ⟨by decide, by decide⟩ (Nat.le_of_ble_eq_true rfl) ⟨Nat.le_refl _, Nat.le_refl _⟩ ⟨rfl, rfl⟩ rfl rfl rfl (fun r5 _ h => ?_)
    refine x_istore (lv' := [(0, .ref (aS 0)), (1, .int x1), (2, .int x2), (3, .int x3), (4, .int x4), (5, .int q3.1), (6, .int q3.2), (7, .int r5)]) C 20 34 rfl (by decide) [1, 2, 3, 4, 5, 6, 7, 0] rfl ?_
    refine x_aload_n C 21 36 rfl 0 rfl rfl ?_
    refine x_iload_n C 22 37 rfl 2 rfl rfl ?_
    refine x_iload C 23 38 rfl 6 rfl ?_
    refine x_iload C 24 40 rfl 4 rfl ?_
    refine x_iconst (v := (3 : Int32)) C 25 42 rfl (by decide) ?_
    refine x_irem C 26 43 rfl (by decide) ?_
    refine x_callWVI (ci := 8) (q0 := 0) (q := (RX10, TX10, 34)) C 27 44 (c_X10_digit (xl x) (xD x) (xk x) (xg x) aS sS sL x2 q3.2 (x4 - x4 / (3 : Int32) * (3 : Int32)) _ h) rfl wwGood (mem4 wq_23_5 wq_23_6 wq_23_7 wq_1_5) wq_23_8 3 ok_X10_digit rfl ⟨by decide, by decide⟩ (Nat.le_of_ble_eq_true rfl) ⟨Nat.le_refl _, Nat.le_refl _⟩ ⟨rfl, rfl⟩ rfl rfl rfl (fun r6 _ h => ?_)
    refine x_istore (lv' := [(0, .ref (aS 0)), (1, .int x1), (2, .int x2), (3, .int x3), (4, .int x4), (5, .int q3.1), (6, .int q3.2), (7, .int r5), (8, .int r6)]) C 28 47 rfl (by decide) [1, 2, 3, 4, 5, 6, 7, 8, 0] rfl ?_
    refine x_iload C 29 49 rfl 7 rfl ?_
    refine x_if_eq C 30 51 59 rfl rfl (fun c7 => ?_) (fun c7 => ?_)
    · replace h := h.1 c7
      exact x_sub (lv' := [(0, .ref (aS 0)), (1, .int x1), (2, .int x2), (3, .int x3), (4, .int x4), (5, .int q3.1), (6, .int q3.2)]) [0, 1, 2, 3, 4, 5, 6] rfl (wj_X10_put2_59 C rt hR17 h)
    · replace h := h.2 c7
      refine x_iload C 31 54 rfl 8 rfl ?_
      refine x_if_ne C 32 56 63 rfl rfl (fun c11 => ?_) (fun c11 => ?_)
      · replace h := h.2 c11
        refine x_iload C 35 63 rfl 7 rfl ?_
        refine x_iload C 36 65 rfl 8 rfl ?_
        refine x_iadd C 37 67 rfl ?_
        refine x_iconst (v := (2 : Int32)) C 38 68 rfl (by decide) ?_
        refine x_icmp_le C 39 69 76 rfl rfl (fun c12 => ?_) (fun c12 => ?_)
        · replace h := h.1 c12
          refine x_iconst (v := (1 : Int32)) C 42 76 rfl (by decide) ?_
          exact x_sub (lv' := [(0, .ref (aS 0)), (1, .int x1), (2, .int x2), (3, .int x3), (4, .int x4), (5, .int q3.1), (6, .int q3.2)]) [0, 1, 2, 3, 4, 5, 6] rfl (wj_X10_put2_77 C rt hR17 h)
        · replace h := h.2 c12
          refine x_iconst (v := (2 : Int32)) C 40 72 rfl (by decide) ?_
          refine x_goto C 41 73 77 rfl rfl ?_
          exact x_sub (lv' := [(0, .ref (aS 0)), (1, .int x1), (2, .int x2), (3, .int x3), (4, .int x4), (5, .int q3.1), (6, .int q3.2)]) [0, 1, 2, 3, 4, 5, 6] rfl (wj_X10_put2_77 C rt hR17 h)
      · replace h := h.1 c11
        exact x_sub (lv' := [(0, .ref (aS 0)), (1, .int x1), (2, .int x2), (3, .int x3), (4, .int x4), (5, .int q3.1), (6, .int q3.2)]) [0, 1, 2, 3, 4, 5, 6] rfl (wj_X10_put2_59 C rt hR17 h)
set_option maxHeartbeats 4000000 in
set_option maxRecDepth 100000 in
theorem w_X10_put2_6 {x : CT} {aS : Nat → Nat} {sS : St} {sL : Int64} {x1 : Int32} {x2 : Int32} {K : Int32 → Prop} (C : Cx x cX10_put2 tb_X10_put2 10 RX10 (Cond.code yX10_put2 cX10_put2 10 (some .int) :: wsL_law) ({ frames := 1, cells := 0, slots := 0, locals := 23 } : Room)) (rt : RetI x 0 0 (fun (u : Unit) => fl [wdS (xk x) aS sS sL]) (fun (r : Int32) (_ : Unit) => K r))  {q1 : Int32 × Int32} (h : Lp (F_X10_put2_6 sS sL x1 x2 K) q1) : Wx x 10 0 0 (fl [wdS (xk x) aS sS sL]) [(0, .ref (aS 0)), (1, .int x1), (2, .int x2), (3, .int q1.1), (4, .int q1.2)] 6 [] := by
  refine lp_walk (P := fun q1 => Wx x 10 0 0 (fl [wdS (xk x) aS sS sL]) [(0, .ref (aS 0)), (1, .int x1), (2, .int x2), (3, .int q1.1), (4, .int q1.2)] 6 []) (fun q1 R6 hR6 h => ?_) h
  refine x_iload C 4 6 rfl 4 rfl ?_
  refine x_if_lt C 5 8 114 rfl rfl (fun c2 => ?_) (fun c2 => ?_)
  · replace h := h.1 c2
    refine x_iload_n C 61 114 rfl 3 rfl rfl ?_
    exact x_iret C rt 62 115 rfl () rfl h
  · replace h := h.2 c2
    refine x_iconst (v := (0 : Int32)) C 6 11 rfl (by decide) ?_
    refine x_istore (lv' := [(0, .ref (aS 0)), (1, .int x1), (2, .int x2), (3, .int q1.1), (4, .int q1.2), (5, .int (0 : Int32))]) C 7 12 rfl (by decide) [1, 2, 3, 4, 5, 0] rfl ?_
    refine x_iconst (v := (0 : Int32)) C 8 14 rfl (by decide) ?_
    refine x_istore (lv' := [(0, .ref (aS 0)), (1, .int x1), (2, .int x2), (3, .int q1.1), (4, .int q1.2), (5, .int (0 : Int32)), (6, .int (0 : Int32))]) C 9 15 rfl (by decide) [1, 2, 3, 4, 5, 6, 0] rfl ?_
    refine x_sub (lv' := [(0, .ref (aS 0)), (1, .int x1), (2, .int x2), (3, .int q1.1), (4, .int q1.2), (5, .int (0 : Int32)), (6, .int (0 : Int32))]) [0, 1, 2, 3, 4, 5, 6] rfl (w_X10_put2_17 C rt (fun q13 h => ?_) h)
    · refine x_iconst (v := (3 : Int32)) C 53 101 rfl (by decide) ?_
      refine x_iload_n C 54 102 rfl 3 rfl rfl ?_
      refine x_imul C 55 103 rfl ?_
      refine x_iload C 56 104 rfl 5 rfl ?_
      refine x_iadd C 57 106 rfl ?_
      refine x_topi (fun y14 ey14 => ?_)
      replace h := h y14 ey14
      refine x_istore_n (lv' := [(0, .ref (aS 0)), (1, .int x1), (2, .int x2), (3, .int y14), (4, .int q1.2)]) C 58 107 rfl rfl (by decide) [1, 2, 3, 0, 4] rfl ?_
      obtain ⟨y15, ey15⟩ : ∃ y : Int32, y = q1.2 + (-1 : Int32) := ⟨_, rfl⟩
      replace h := h y15 ey15
      refine x_iinc (v := y15) (lv' := [(0, .ref (aS 0)), (1, .int x1), (2, .int x2), (3, .int y14), (4, .int y15)]) C 59 108 rfl 4 rfl (by rw [ey15]; rfl) (by decide) [1, 2, 3, 4, 0] rfl ?_
      refine x_goto C 60 111 6 rfl rfl ?_
      exact x_sub [0, 1, 2, 3, 4] rfl (hR6 (y14, y15) h)
set_option maxHeartbeats 4000000 in
set_option maxRecDepth 100000 in
theorem w_X10_put2 {x : CT} {aS : Nat → Nat} {sS : St} {sL : Int64} {p1 : Int32} {p2 : Int32} {K : Int32 → Prop} (C : Cx x cX10_put2 tb_X10_put2 10 RX10 (Cond.code yX10_put2 cX10_put2 10 (some .int) :: wsL_law) ({ frames := 1, cells := 0, slots := 0, locals := 23 } : Room)) (rt : RetI x 0 0 (fun (u : Unit) => fl [wdS (xk x) aS sS sL]) (fun (r : Int32) (_ : Unit) => K r)) (h : wp_X10_put2 sS sL p1 p2 K) : Wx x 10 0 0 (fl [wdS (xk x) aS sS sL]) [(0, .ref (aS 0)), (1, .int p1), (2, .int p2)] 0 [] := by
  unfold wp_X10_put2 at h
  refine x_iconst (v := (0 : Int32)) C 0 0 rfl (by decide) ?_
  refine x_istore_n (lv' := [(0, .ref (aS 0)), (1, .int p1), (2, .int p2), (3, .int (0 : Int32))]) C 1 1 rfl rfl (by decide) [1, 2, 3, 0] rfl ?_
  refine x_bipush (v := (8 : Int32)) C 2 2 rfl (by decide) ?_
  refine x_istore (lv' := [(0, .ref (aS 0)), (1, .int p1), (2, .int p2), (3, .int (0 : Int32)), (4, .int (8 : Int32))]) C 3 4 rfl (by decide) [1, 2, 3, 4, 0] rfl ?_
  refine x_sub (lv' := [(0, .ref (aS 0)), (1, .int p1), (2, .int p2), (3, .int (0 : Int32)), (4, .int (8 : Int32))]) [0, 1, 2, 3, 4] rfl (w_X10_put2_6 C rt h)
theorem c_X10_put2 (l : Launch) (D : va_G) (k : ClassId × ClassId) (g : Nat → Nat) (aS : Nat → Nat) (sS : St) (sL : Int64) (p1 : Int32) (p2 : Int32) (K : Int32 → Prop) (h : wp_X10_put2 sS sL p1 p2 K) : ConI l yX10_put2 (Cond.code yX10_put2 cX10_put2 10 (some .int) :: wsL_law) ({ frames := 1, cells := 0, slots := 0, locals := 23 } : Room) D k g [.ref (aS 0), .int p1, .int p2] (fl [wdS k aS sS sL]) (fun (u : Unit) => fl [wdS k aS sS sL]) (fun (r : Int32) (_ : Unit) => K r) := by
  refine ConI.of (tb := tb_X10_put2) (cc := cX10_put2) (nL := 10) (by decide) rfl tbk_X10_put2 (Nat.le_of_ble_eq_true rfl) ?_
  intro x hl hD hk hg C rt
  subst hl hD hk hg
  exact w_X10_put2 C rt h
set_option maxHeartbeats 4000000 in
set_option maxRecDepth 100000 in
theorem w_X10_together {x : CT} {aS : Nat → Nat} {sS : St} {sL : Int64} {p1 : Int32} {p2 : Int32} {K : Int32 → Prop} (C : Cx x cX10_together tb_X10_together 3 RX10 (Cond.code yX10_together cX10_together 3 (some .int) :: wsL_law) ({ frames := 2, cells := 0, slots := 0, locals := 52 } : Room)) (rt : RetI x 0 0 (fun (u : Unit) => fl [wdS (xk x) aS sS sL]) (fun (r : Int32) (_ : Unit) => K r)) (h : wp_X10_together sS sL p1 p2 K) : Wx x 3 0 0 (fl [wdS (xk x) aS sS sL]) [(0, .ref (aS 0)), (1, .int p1), (2, .int p2)] 0 [] := by
  unfold wp_X10_together at h
  refine x_iload_n C 0 0 rfl 1 rfl rfl ?_
  refine x_i2l C 1 1 rfl ?_
  refine x_lconst (v := (0 : Int64)) C 2 2 rfl (by decide) ?_
  refine x_ldc2 (v := (19682 : Int64)) C 3 3 rfl (mc wq_25_16) ?_
  refine x_call0SZ C 4 6 (c_X10_in (xl x) (xD x) (xk x) (xg x) p1.toInt64 (0 : Int64) (19682 : Int64) _ h) rfl wwGood (mem3 wq_6_21 wq_6_22 wq_1_5) wq_6_23 3 ok_X10_in rfl ⟨by decide, by decide⟩ (Nat.le_of_ble_eq_true rfl) ⟨Nat.le_refl _, Nat.le_refl _⟩ ⟨rfl, rfl⟩ rfl (fun r1 _ h => ?_)
  refine x_if_eq C 5 9 33 rfl rfl (fun c2 => ?_) (fun c2 => ?_)
  · replace h := h.1 c2
    refine x_iconst (v := (-1 : Int32)) C 17 33 rfl (by decide) ?_
    exact x_iret C rt 18 34 rfl () rfl h
  · replace h := h.2 c2
    refine x_iload_n C 6 12 rfl 2 rfl rfl ?_
    refine x_i2l C 7 13 rfl ?_
    refine x_lconst (v := (0 : Int64)) C 8 14 rfl (by decide) ?_
    refine x_ldc2 (v := (19682 : Int64)) C 9 15 rfl (mc wq_25_16) ?_
    refine x_call0SZ C 10 18 (c_X10_in (xl x) (xD x) (xk x) (xg x) p2.toInt64 (0 : Int64) (19682 : Int64) _ h) rfl wwGood (mem3 wq_6_21 wq_6_22 wq_1_5) wq_6_23 3 ok_X10_in rfl ⟨by decide, by decide⟩ (Nat.le_of_ble_eq_true rfl) ⟨Nat.le_refl _, Nat.le_refl _⟩ ⟨rfl, rfl⟩ rfl (fun r3 _ h => ?_)
    refine x_if_eq C 11 21 33 rfl rfl (fun c4 => ?_) (fun c4 => ?_)
    · replace h := h.1 c4
      refine x_iconst (v := (-1 : Int32)) C 17 33 rfl (by decide) ?_
      exact x_iret C rt 18 34 rfl () rfl h
    · replace h := h.2 c4
      refine x_aload_n C 12 24 rfl 0 rfl rfl ?_
      refine x_iload_n C 13 25 rfl 1 rfl rfl ?_
      refine x_iload_n C 14 26 rfl 2 rfl rfl ?_
      refine x_callWVI (ci := 8) (q0 := 0) (q := (RX10, TX10, 34)) C 15 27 (c_X10_put2 (xl x) (xD x) (xk x) (xg x) aS sS sL p1 p2 _ h) rfl wwGood (mem4 wq_23_1 wq_23_2 wq_23_3 wq_1_5) wq_23_4 2 ok_X10_put2 rfl ⟨by decide, by decide⟩ (Nat.le_of_ble_eq_true rfl) ⟨Nat.le_refl _, Nat.le_refl _⟩ ⟨rfl, rfl⟩ rfl rfl rfl (fun r5 _ h => ?_)
      refine x_goto C 16 30 34 rfl rfl ?_
      exact x_iret C rt 18 34 rfl () rfl h
theorem c_X10_together (l : Launch) (D : va_G) (k : ClassId × ClassId) (g : Nat → Nat) (aS : Nat → Nat) (sS : St) (sL : Int64) (p1 : Int32) (p2 : Int32) (K : Int32 → Prop) (h : wp_X10_together sS sL p1 p2 K) : ConI l yX10_together (Cond.code yX10_together cX10_together 3 (some .int) :: wsL_law) ({ frames := 2, cells := 0, slots := 0, locals := 52 } : Room) D k g [.ref (aS 0), .int p1, .int p2] (fl [wdS k aS sS sL]) (fun (u : Unit) => fl [wdS k aS sS sL]) (fun (r : Int32) (_ : Unit) => K r) := by
  refine ConI.of (tb := tb_X10_together) (cc := cX10_together) (nL := 3) (by decide) rfl tbk_X10_together (Nat.le_of_ble_eq_true rfl) ?_
  intro x hl hD hk hg C rt
  subst hl hD hk hg
  exact w_X10_together C rt h
set_option maxHeartbeats 4000000 in
set_option maxRecDepth 100000 in
theorem w_X10_codeOf {x : CT} {p1 : Int32} {p2 : Int32} {p3 : Int32} {K : Int32 → Prop} (C : Cx x cX10_codeOf tb_X10_codeOf 3 RX10 (Cond.code yX10_codeOf cX10_codeOf 3 (some .int) :: wsL_law) ({ frames := 0, cells := 0, slots := 0, locals := 0 } : Room)) (rt : RetI x 0 0 (fun (u : Unit) => fl []) (fun (r : Int32) (_ : Unit) => K r)) (h : wp_X10_codeOf p1 p2 p3 K) : Wx x 3 0 0 (fl []) [(0, .int p1), (1, .int p2), (2, .int p3)] 0 [] := by
  unfold wp_X10_codeOf at h
  refine x_iconst (v := (4 : Int32)) C 0 0 rfl (by decide) ?_
  refine x_iload_n C 1 1 rfl 0 rfl rfl ?_
  refine x_imul C 2 2 rfl ?_
  refine x_iload_n C 3 3 rfl 1 rfl rfl ?_
  refine x_iadd C 4 4 rfl ?_
  refine x_sipush (v := (19683 : Int32)) C 5 5 rfl (by decide) ?_
  refine x_imul C 6 8 rfl ?_
  refine x_iload_n C 7 9 rfl 2 rfl rfl ?_
  refine x_iadd C 8 10 rfl ?_
  exact x_iret C rt 9 11 rfl () rfl h
theorem c_X10_codeOf (l : Launch) (D : va_G) (k : ClassId × ClassId) (g : Nat → Nat) (p1 : Int32) (p2 : Int32) (p3 : Int32) (K : Int32 → Prop) (h : wp_X10_codeOf p1 p2 p3 K) : ConI l yX10_codeOf (Cond.code yX10_codeOf cX10_codeOf 3 (some .int) :: wsL_law) ({ frames := 0, cells := 0, slots := 0, locals := 0 } : Room) D k g [.int p1, .int p2, .int p3] (fl []) (fun (u : Unit) => fl []) (fun (r : Int32) (_ : Unit) => K r) := by
  refine ConI.of (tb := tb_X10_codeOf) (cc := cX10_codeOf) (nL := 3) (by decide) rfl tbk_X10_codeOf (Nat.le_of_ble_eq_true rfl) ?_
  intro x hl hD hk hg C rt
  subst hl hD hk hg
  exact w_X10_codeOf C rt h
set_option maxHeartbeats 4000000 in
set_option maxRecDepth 100000 in
theorem w_X10_note {x : CT} {aS : Nat → Nat} {sS : St} {sL : Int64} {p1 : Int32} {p2 : Int32} {p3 : Int32} {K : Int32 → St → Prop} (C : Cx x cX10_note tb_X10_note 5 RX10 (Cond.code yX10_note cX10_note 5 (some .boolean) :: wsL_law) ({ frames := 1, cells := 0, slots := 0, locals := 22 } : Room)) (rt : RetZ x 0 0 (fun (u : St) => fl [wdS (xk x) aS u sL]) (fun (r : Int32) (u : St) => K r u)) (h : wp_X10_note sS sL p1 p2 p3 K) : Wx x 5 0 0 (fl [wdS (xk x) aS sS sL]) [(0, .ref (aS 0)), (1, .int p1), (2, .int p2), (3, .int p3)] 0 [] := by
  unfold wp_X10_note at h
  refine x_iload_n C 0 0 rfl 1 rfl rfl ?_
  refine x_iload_n C 1 1 rfl 2 rfl rfl ?_
  refine x_iload_n C 2 2 rfl 3 rfl rfl ?_
  refine x_call0SI C 3 3 (c_X10_codeOf (xl x) (xD x) (xk x) (xg x) p1 p2 p3 _ h) rfl wwGood (mem3 wq_22_22 wq_22_23 wq_1_5) wq_23_0 3 ok_X10_codeOf rfl ⟨by decide, by decide⟩ (Nat.le_of_ble_eq_true rfl) ⟨Nat.le_refl _, Nat.le_refl _⟩ ⟨rfl, rfl⟩ rfl (fun r1 _ h => ?_)
  refine x_istore (lv' := [(0, .ref (aS 0)), (1, .int p1), (2, .int p2), (3, .int p3), (4, .int r1)]) C 4 6 rfl (by decide) [1, 2, 3, 4, 0] rfl ?_
  refine x_aload_n C 5 8 rfl 0 rfl rfl ?_
  refine x_get (v := .ref (aS 16)) C 6 9 rfl fi_X10 0 rfl rfl 27 (by decide) (mc wq_5_21) rfl ?_
  refine x_iload C 7 12 rfl 4 rfl ?_
  obtain ⟨hi, h⟩ := h
  refine x_iald (f := sS 27) C 8 14 rfl 16 rfl hi ?_
  refine x_aload_n C 9 15 rfl 0 rfl rfl ?_
  refine x_get (v := .int (sS 26 0)) C 10 16 rfl fi_X10 0 rfl rfl 26 (by decide) (mc wq_22_13) rfl ?_
  refine x_icmp_ne C 11 19 24 rfl rfl (fun c2 => ?_) (fun c2 => ?_)
  · replace h := h.2 c2
    refine x_aload_n C 14 24 rfl 0 rfl rfl ?_
    refine x_get (v := .int (sS 22 0)) C 15 25 rfl fi_X10 0 rfl rfl 22 (by decide) (mc wq_22_8) rfl ?_
    refine x_sipush (v := (1000 : Int32)) C 16 28 rfl (by decide) ?_
    refine x_icmp_ne C 17 31 36 rfl rfl (fun c3 => ?_) (fun c3 => ?_)
    · replace h := h.2 c3
      refine x_aload_n C 20 36 rfl 0 rfl rfl ?_
      refine x_get (v := .ref (aS 16)) C 21 37 rfl fi_X10 0 rfl rfl 27 (by decide) (mc wq_5_21) rfl ?_
      refine x_iload C 22 40 rfl 4 rfl ?_
      refine x_aload_n C 23 42 rfl 0 rfl rfl ?_
      refine x_get (v := .int (sS 26 0)) C 24 43 rfl fi_X10 0 rfl rfl 26 (by decide) (mc wq_22_13) rfl ?_
      obtain ⟨hi, h⟩ := h
      obtain ⟨z4, ez4⟩ : ∃ z : St, z = ua sS 27 r1 (sS 26 0) := ⟨_, rfl⟩
      replace h := h z4 ez4
      refine x_iast (f := sS 27) (ws' := fl [wdS (xk x) aS z4 sL]) C 25 46 rfl 16 rfl hi (by rw [ez4]; rfl) ?_
      refine x_aload_n C 26 47 rfl 0 rfl rfl ?_
      refine x_get (v := .ref (aS 17)) C 27 48 rfl fi_X10 0 rfl rfl 28 (by decide) (mc wq_5_22) rfl ?_
      refine x_iload C 28 51 rfl 4 rfl ?_
      refine x_aload_n C 29 53 rfl 0 rfl rfl ?_
      refine x_get (v := .int (z4 22 0)) C 30 54 rfl fi_X10 0 rfl rfl 22 (by decide) (mc wq_22_8) rfl ?_
      obtain ⟨hi, h⟩ := h
      obtain ⟨z5, ez5⟩ : ∃ z : St, z = ua z4 28 r1 (z4 22 0) := ⟨_, rfl⟩
      replace h := h z5 ez5
      refine x_iast (f := z4 28) (ws' := fl [wdS (xk x) aS z5 sL]) C 31 57 rfl 17 rfl hi (by rw [ez5]; rfl) ?_
      refine x_aload_n C 32 58 rfl 0 rfl rfl ?_
      refine x_get (v := .ref (aS 13)) C 33 59 rfl fi_X10 0 rfl rfl 23 (by decide) (mc wq_5_17) rfl ?_
      refine x_aload_n C 34 62 rfl 0 rfl rfl ?_
      refine x_get (v := .int (z5 22 0)) C 35 63 rfl fi_X10 0 rfl rfl 22 (by decide) (mc wq_22_8) rfl ?_
      refine x_iload_n C 36 66 rfl 1 rfl rfl ?_
      obtain ⟨hi, h⟩ := h
      obtain ⟨z6, ez6⟩ : ∃ z : St, z = ua z5 23 (z5 22 0) p1 := ⟨_, rfl⟩
      replace h := h z6 ez6
      refine x_iast (f := z5 23) (ws' := fl [wdS (xk x) aS z6 sL]) C 37 67 rfl 13 rfl hi (by rw [ez6]; rfl) ?_
      refine x_aload_n C 38 68 rfl 0 rfl rfl ?_
      refine x_get (v := .ref (aS 14)) C 39 69 rfl fi_X10 0 rfl rfl 24 (by decide) (mc wq_5_18) rfl ?_
      refine x_aload_n C 40 72 rfl 0 rfl rfl ?_
      refine x_get (v := .int (z6 22 0)) C 41 73 rfl fi_X10 0 rfl rfl 22 (by decide) (mc wq_22_8) rfl ?_
      refine x_iload_n C 42 76 rfl 2 rfl rfl ?_
      obtain ⟨hi, h⟩ := h
      obtain ⟨z7, ez7⟩ : ∃ z : St, z = ua z6 24 (z6 22 0) p2 := ⟨_, rfl⟩
      replace h := h z7 ez7
      refine x_iast (f := z6 24) (ws' := fl [wdS (xk x) aS z7 sL]) C 43 77 rfl 14 rfl hi (by rw [ez7]; rfl) ?_
      refine x_aload_n C 44 78 rfl 0 rfl rfl ?_
      refine x_get (v := .ref (aS 15)) C 45 79 rfl fi_X10 0 rfl rfl 25 (by decide) (mc wq_5_19) rfl ?_
      refine x_aload_n C 46 82 rfl 0 rfl rfl ?_
      refine x_get (v := .int (z7 22 0)) C 47 83 rfl fi_X10 0 rfl rfl 22 (by decide) (mc wq_22_8) rfl ?_
      refine x_iload_n C 48 86 rfl 3 rfl rfl ?_
      obtain ⟨hi, h⟩ := h
      obtain ⟨z8, ez8⟩ : ∃ z : St, z = ua z7 25 (z7 22 0) p3 := ⟨_, rfl⟩
      replace h := h z8 ez8
      refine x_iast (f := z7 25) (ws' := fl [wdS (xk x) aS z8 sL]) C 49 87 rfl 15 rfl hi (by rw [ez8]; rfl) ?_
      refine x_aload_n C 50 88 rfl 0 rfl rfl ?_
      refine x_dup C 51 89 rfl rfl ?_
      refine x_get (v := .int (z8 22 0)) C 52 90 rfl fi_X10 0 rfl rfl 22 (by decide) (mc wq_22_8) rfl ?_
      refine x_iconst (v := (1 : Int32)) C 53 93 rfl (by decide) ?_
      refine x_iadd C 54 94 rfl ?_
      obtain ⟨z9, ez9⟩ : ∃ z : St, z = us z8 22 (z8 22 0 + (1 : Int32)) := ⟨_, rfl⟩
      replace h := h z9 ez9
      refine x_put (ws' := fl [wdS (xk x) aS z9 sL]) C 55 95 rfl fi_X10 tyX10 tyX10_ok nmX10 0 rfl rfl 22 (by decide) (mc wq_22_8) rfl rfl rfl (Nat.le_of_ble_eq_true rfl) (by rw [ez9]; rfl) ?_
      refine x_iconst (v := (1 : Int32)) C 56 98 rfl (by decide) ?_
      exact x_zret C rt 57 99 rfl zb_1 z9 rfl h
    · replace h := h.1 c3
      refine x_iconst (v := (0 : Int32)) C 18 34 rfl (by decide) ?_
      exact x_zret C rt 19 35 rfl zb_0 sS rfl h
  · replace h := h.1 c2
    refine x_iconst (v := (1 : Int32)) C 12 22 rfl (by decide) ?_
    exact x_zret C rt 13 23 rfl zb_1 sS rfl h
theorem c_X10_note (l : Launch) (D : va_G) (k : ClassId × ClassId) (g : Nat → Nat) (aS : Nat → Nat) (sS : St) (sL : Int64) (p1 : Int32) (p2 : Int32) (p3 : Int32) (K : Int32 → St → Prop) (h : wp_X10_note sS sL p1 p2 p3 K) : ConZ l yX10_note (Cond.code yX10_note cX10_note 5 (some .boolean) :: wsL_law) ({ frames := 1, cells := 0, slots := 0, locals := 22 } : Room) D k g [.ref (aS 0), .int p1, .int p2, .int p3] (fl [wdS k aS sS sL]) (fun (u : St) => fl [wdS k aS u sL]) (fun (r : Int32) (u : St) => K r u) := by
  refine ConZ.of (tb := tb_X10_note) (cc := cX10_note) (nL := 5) (by decide) rfl tbk_X10_note (Nat.le_of_ble_eq_true rfl) ?_
  intro x hl hD hk hg C rt
  subst hl hD hk hg
  exact w_X10_note C rt h
set_option maxHeartbeats 4000000 in
set_option maxRecDepth 100000 in
theorem w_X10_has {x : CT} {p1 : Int32} {p2 : Int32} {K : Int32 → Prop} (C : Cx x cX10_has tb_X10_has 2 RX10 (Cond.code yX10_has cX10_has 2 (some .boolean) :: wsL_law) ({ frames := 0, cells := 0, slots := 0, locals := 0 } : Room)) (rt : RetZ x 0 0 (fun (u : Unit) => fl []) (fun (r : Int32) (_ : Unit) => K r)) (h : wp_X10_has p1 p2 K) : Wx x 2 0 0 (fl []) [(0, .int p1), (1, .int p2)] 0 [] := by
  unfold wp_X10_has at h
  refine x_iload_n C 0 0 rfl 0 rfl rfl ?_
  refine x_iload_n C 1 1 rfl 1 rfl rfl ?_
  refine x_ishr C 2 2 rfl ?_
  refine x_iconst (v := (1 : Int32)) C 3 3 rfl (by decide) ?_
  refine x_iand C 4 4 rfl ?_
  refine x_iconst (v := (1 : Int32)) C 5 5 rfl (by decide) ?_
  refine x_icmp_ne C 6 6 13 rfl rfl (fun c1 => ?_) (fun c1 => ?_)
  · replace h := h.2 c1
    refine x_iconst (v := (0 : Int32)) C 9 13 rfl (by decide) ?_
    exact x_zret C rt 10 14 rfl zb_0 () rfl h
  · replace h := h.1 c1
    refine x_iconst (v := (1 : Int32)) C 7 9 rfl (by decide) ?_
    refine x_goto C 8 10 14 rfl rfl ?_
    exact x_zret C rt 10 14 rfl zb_1 () rfl h
theorem c_X10_has (l : Launch) (D : va_G) (k : ClassId × ClassId) (g : Nat → Nat) (p1 : Int32) (p2 : Int32) (K : Int32 → Prop) (h : wp_X10_has p1 p2 K) : ConZ l yX10_has (Cond.code yX10_has cX10_has 2 (some .boolean) :: wsL_law) ({ frames := 0, cells := 0, slots := 0, locals := 0 } : Room) D k g [.int p1, .int p2] (fl []) (fun (u : Unit) => fl []) (fun (r : Int32) (_ : Unit) => K r) := by
  refine ConZ.of (tb := tb_X10_has) (cc := cX10_has) (nL := 2) (by decide) rfl tbk_X10_has (Nat.le_of_ble_eq_true rfl) ?_
  intro x hl hD hk hg C rt
  subst hl hD hk hg
  exact w_X10_has C rt h
set_option maxHeartbeats 4000000 in
set_option maxRecDepth 100000 in
theorem w_X10_layGraphs_54 {x : CT} {aS : Nat → Nat} {sL : Int64} {x1 : Int32} {K : Int32 → St → Prop} {E110 : Int32 × St → Prop} (C : Cx x cX10_layGraphs tb_X10_layGraphs 5 RX10 (Cond.code yX10_layGraphs cX10_layGraphs 5 (some .boolean) :: wsL_law) ({ frames := 2, cells := 0, slots := 0, locals := 52 } : Room)) (rt : RetZ x 0 0 (fun (u : St) => fl [wdS (xk x) aS u sL]) (fun (r : Int32) (u : St) => K r u)) (hE110 : ∀ q : Int32 × St, E110 q → Wx x 5 0 0 (fl [wdS (xk x) aS q.2 sL]) [(0, .ref (aS 0)), (1, .int x1), (2, .int q.1)] 110 []) {q4 : Int32 × Int32 × St} (h : Lp (F_X10_layGraphs_54 sL x1 E110) q4) : Wx x 5 0 0 (fl [wdS (xk x) aS q4.2.2 sL]) [(0, .ref (aS 0)), (1, .int x1), (2, .int q4.1), (3, .int q4.2.1)] 54 [] := by
  refine lp_walk (P := fun q4 => Wx x 5 0 0 (fl [wdS (xk x) aS q4.2.2 sL]) [(0, .ref (aS 0)), (1, .int x1), (2, .int q4.1), (3, .int q4.2.1)] 54 []) (fun q4 R54 hR54 h => ?_) h
  refine x_iload_n C 32 54 rfl 3 rfl rfl ?_
  refine x_aload_n C 33 55 rfl 0 rfl rfl ?_
  refine x_get (v := .int (q4.2.2 3 0)) C 34 56 rfl fi_X10 0 rfl rfl 3 (by decide) (mc wq_14_4) rfl ?_
  refine x_icmp_ge C 35 59 110 rfl rfl (fun c5 => ?_) (fun c5 => ?_)
  · replace h := h.1 c5
    exact x_sub [0, 1, 2] rfl (hE110 (q4.1, q4.2.2) h)
  · replace h := h.2 c5
    refine x_iload_n C 36 62 rfl 2 rfl rfl ?_
    refine x_if_eq C 37 63 110 rfl rfl (fun c6 => ?_) (fun c6 => ?_)
    · replace h := h.1 c6
      exact x_sub [0, 1, 2] rfl (hE110 (q4.1, q4.2.2) h)
    · replace h := h.2 c6
      refine x_iload_n C 38 66 rfl 1 rfl rfl ?_
      refine x_iload_n C 39 67 rfl 3 rfl rfl ?_
      refine x_call0SZ C 40 68 (c_X10_has (xl x) (xD x) (xk x) (xg x) x1 q4.2.1 _ h) rfl wwGood (mem3 wq_22_15 wq_22_16 wq_1_5) wq_22_17 2 ok_X10_has rfl ⟨by decide, by decide⟩ (Nat.le_of_ble_eq_true rfl) ⟨Nat.le_refl _, Nat.le_refl _⟩ ⟨rfl, rfl⟩ rfl (fun r7 _ h => ?_)
      refine x_if_ne C 41 71 98 rfl rfl (fun c8 => ?_) (fun c8 => ?_)
      · replace h := h.2 c8
        refine x_iconst (v := (1 : Int32)) C 56 98 rfl (by decide) ?_
        refine x_goto C 57 99 103 rfl rfl ?_
        refine x_istore_n (lv' := [(0, .ref (aS 0)), (1, .int x1), (2, .int (1 : Int32)), (3, .int q4.2.1)]) C 59 103 rfl rfl (by decide) [1, 2, 0, 3] rfl ?_
        obtain ⟨y9, ey9⟩ : ∃ y : Int32, y = q4.2.1 + (1 : Int32) := ⟨_, rfl⟩
        replace h := h y9 ey9
        refine x_iinc (v := y9) (lv' := [(0, .ref (aS 0)), (1, .int x1), (2, .int (1 : Int32)), (3, .int y9)]) C 60 104 rfl 3 rfl (by rw [ey9]; rfl) (by decide) [1, 2, 3, 0] rfl ?_
        refine x_goto C 61 107 54 rfl rfl ?_
        exact x_sub [0, 1, 2, 3] rfl (hR54 ((1 : Int32), y9, q4.2.2) h)
      · replace h := h.1 c8
        refine x_aload_n C 42 74 rfl 0 rfl rfl ?_
        refine x_aload_n C 43 75 rfl 0 rfl rfl ?_
        refine x_get (v := .ref (aS 3)) C 44 76 rfl fi_X10 0 rfl rfl 4 (by decide) (mc wq_5_5) rfl ?_
        refine x_iload_n C 45 79 rfl 3 rfl rfl ?_
        obtain ⟨hi, h⟩ := h
        refine x_iald (f := q4.2.2 4) C 46 80 rfl 3 rfl hi ?_
        refine x_aload_n C 47 81 rfl 0 rfl rfl ?_
        refine x_get (v := .ref (aS 4)) C 48 82 rfl fi_X10 0 rfl rfl 5 (by decide) (mc wq_5_6) rfl ?_
        refine x_iload_n C 49 85 rfl 3 rfl rfl ?_
        obtain ⟨hi, h⟩ := h
        refine x_iald (f := q4.2.2 5) C 50 86 rfl 4 rfl hi ?_
        refine x_aload_n C 51 87 rfl 0 rfl rfl ?_
        refine x_iload_n C 52 88 rfl 3 rfl rfl ?_
        refine x_callWVI (ci := 8) (q0 := 0) (q := (RX10, TX10, 34)) C 53 89 (c_X10_numberOf (xl x) (xD x) (xk x) (xg x) aS q4.2.2 sL q4.2.1 _ h) rfl wwGood (mem4 wq_17_15 wq_17_16 wq_17_17 wq_1_5) wq_17_18 1 ok_X10_numberOf rfl ⟨by decide, by decide⟩ (Nat.le_of_ble_eq_true rfl) ⟨Nat.le_refl _, Nat.le_refl _⟩ ⟨rfl, rfl⟩ rfl rfl rfl (fun r10 _ h => ?_)
        refine x_callWVZ (ci := 8) (q0 := 0) (q := (RX10, TX10, 34)) C 54 92 (c_X10_note (xl x) (xD x) (xk x) (xg x) aS q4.2.2 sL (q4.2.2 4 q4.2.1.toNatClampNeg) (q4.2.2 5 q4.2.1.toNatClampNeg) r10 _ h) rfl wwGood (mem4 wq_22_18 wq_22_19 wq_22_20 wq_1_5) wq_22_21 3 ok_X10_note rfl ⟨by decide, by decide⟩ (Nat.le_of_ble_eq_true rfl) ⟨Nat.le_refl _, Nat.le_refl _⟩ ⟨rfl, rfl⟩ rfl rfl rfl (fun r11 u11 h => ?_)
        refine x_if_eq C 55 95 102 rfl rfl (fun c12 => ?_) (fun c12 => ?_)
        · replace h := h.1 c12
          refine x_iconst (v := (0 : Int32)) C 58 102 rfl (by decide) ?_
          refine x_istore_n (lv' := [(0, .ref (aS 0)), (1, .int x1), (2, .int (0 : Int32)), (3, .int q4.2.1)]) C 59 103 rfl rfl (by decide) [1, 2, 0, 3] rfl ?_
          obtain ⟨y13, ey13⟩ : ∃ y : Int32, y = q4.2.1 + (1 : Int32) := ⟨_, rfl⟩
          replace h := h y13 ey13
          refine x_iinc (v := y13) (lv' := [(0, .ref (aS 0)), (1, .int x1), (2, .int (0 : Int32)), (3, .int y13)]) C 60 104 rfl 3 rfl (by rw [ey13]; rfl) (by decide) [1, 2, 3, 0] rfl ?_
          refine x_goto C 61 107 54 rfl rfl ?_
          exact x_sub [0, 1, 2, 3] rfl (hR54 ((0 : Int32), y13, u11) h)
        · replace h := h.2 c12
          refine x_iconst (v := (1 : Int32)) C 56 98 rfl (by decide) ?_
          refine x_goto C 57 99 103 rfl rfl ?_
          refine x_istore_n (lv' := [(0, .ref (aS 0)), (1, .int x1), (2, .int (1 : Int32)), (3, .int q4.2.1)]) C 59 103 rfl rfl (by decide) [1, 2, 0, 3] rfl ?_
          obtain ⟨y14, ey14⟩ : ∃ y : Int32, y = q4.2.1 + (1 : Int32) := ⟨_, rfl⟩
          replace h := h y14 ey14
          refine x_iinc (v := y14) (lv' := [(0, .ref (aS 0)), (1, .int x1), (2, .int (1 : Int32)), (3, .int y14)]) C 60 104 rfl 3 rfl (by rw [ey14]; rfl) (by decide) [1, 2, 3, 0] rfl ?_
          refine x_goto C 61 107 54 rfl rfl ?_
          exact x_sub [0, 1, 2, 3] rfl (hR54 ((1 : Int32), y14, u11) h)
set_option maxHeartbeats 4000000 in
set_option maxRecDepth 100000 in
theorem w_X10_layGraphs_127 {x : CT} {aS : Nat → Nat} {sL : Int64} {x1 : Int32} {x3 : Int32} {K : Int32 → St → Prop} {R112 : Int32 × Int32 × St → Prop} (C : Cx x cX10_layGraphs tb_X10_layGraphs 5 RX10 (Cond.code yX10_layGraphs cX10_layGraphs 5 (some .boolean) :: wsL_law) ({ frames := 2, cells := 0, slots := 0, locals := 52 } : Room)) (rt : RetZ x 0 0 (fun (u : St) => fl [wdS (xk x) aS u sL]) (fun (r : Int32) (u : St) => K r u)) (hR112 : ∀ q : Int32 × Int32 × St, R112 q → Wx x 5 0 0 (fl [wdS (xk x) aS q.2.2 sL]) [(0, .ref (aS 0)), (1, .int x1), (2, .int q.1), (3, .int q.2.1)] 112 []) {q19 : Int32 × Int32 × St} (h : Lp (F_X10_layGraphs_127 sL x1 x3 R112) q19) : Wx x 5 0 0 (fl [wdS (xk x) aS q19.2.2 sL]) [(0, .ref (aS 0)), (1, .int x1), (2, .int q19.1), (3, .int x3), (4, .int q19.2.1)] 127 [] := by
  refine lp_walk (P := fun q19 => Wx x 5 0 0 (fl [wdS (xk x) aS q19.2.2 sL]) [(0, .ref (aS 0)), (1, .int x1), (2, .int q19.1), (3, .int x3), (4, .int q19.2.1)] 127 []) (fun q19 R127 hR127 h => ?_) h
  refine x_iload C 72 127 rfl 4 rfl ?_
  refine x_aload_n C 73 129 rfl 0 rfl rfl ?_
  refine x_get (v := .int (q19.2.2 3 0)) C 74 130 rfl fi_X10 0 rfl rfl 3 (by decide) (mc wq_14_4) rfl ?_
  refine x_icmp_ge C 75 133 205 rfl rfl (fun c20 => ?_) (fun c20 => ?_)
  · replace h := h.1 c20
    obtain ⟨y21, ey21⟩ : ∃ y : Int32, y = x3 + (1 : Int32) := ⟨_, rfl⟩
    replace h := h y21 ey21
    refine x_iinc (v := y21) (lv' := [(0, .ref (aS 0)), (1, .int x1), (2, .int q19.1), (3, .int y21)]) C 113 205 rfl 3 rfl (by rw [ey21]; rfl) (by decide) [1, 2, 3, 0] rfl ?_
    refine x_goto C 114 208 112 rfl rfl ?_
    exact x_sub [0, 1, 2, 3] rfl (hR112 (q19.1, y21, q19.2.2) h)
  · replace h := h.2 c20
    refine x_iload_n C 76 136 rfl 2 rfl rfl ?_
    refine x_if_eq C 77 137 205 rfl rfl (fun c22 => ?_) (fun c22 => ?_)
    · replace h := h.1 c22
      obtain ⟨y23, ey23⟩ : ∃ y : Int32, y = x3 + (1 : Int32) := ⟨_, rfl⟩
      replace h := h y23 ey23
      refine x_iinc (v := y23) (lv' := [(0, .ref (aS 0)), (1, .int x1), (2, .int q19.1), (3, .int y23)]) C 113 205 rfl 3 rfl (by rw [ey23]; rfl) (by decide) [1, 2, 3, 0] rfl ?_
      refine x_goto C 114 208 112 rfl rfl ?_
      exact x_sub [0, 1, 2, 3] rfl (hR112 (q19.1, y23, q19.2.2) h)
    · replace h := h.2 c22
      refine x_iload_n C 78 140 rfl 1 rfl rfl ?_
      refine x_iload C 79 141 rfl 4 rfl ?_
      refine x_call0SZ C 80 143 (c_X10_has (xl x) (xD x) (xk x) (xg x) x1 q19.2.1 _ h) rfl wwGood (mem3 wq_22_15 wq_22_16 wq_1_5) wq_22_17 2 ok_X10_has rfl ⟨by decide, by decide⟩ (Nat.le_of_ble_eq_true rfl) ⟨Nat.le_refl _, Nat.le_refl _⟩ ⟨rfl, rfl⟩ rfl (fun r24 _ h => ?_)
      refine x_if_ne C 81 146 199 rfl rfl (fun c25 => ?_) (fun c25 => ?_)
      · replace h := h.2 c25
        obtain ⟨y26, ey26⟩ : ∃ y : Int32, y = q19.2.1 + (1 : Int32) := ⟨_, rfl⟩
        replace h := h y26 ey26
        refine x_iinc (v := y26) (lv' := [(0, .ref (aS 0)), (1, .int x1), (2, .int q19.1), (3, .int x3), (4, .int y26)]) C 111 199 rfl 4 rfl (by rw [ey26]; rfl) (by decide) [1, 2, 3, 4, 0] rfl ?_
        refine x_goto C 112 202 127 rfl rfl ?_
        exact x_sub [0, 1, 2, 3, 4] rfl (hR127 (q19.1, y26, q19.2.2) h)
      · replace h := h.1 c25
        refine x_aload_n C 82 149 rfl 0 rfl rfl ?_
        refine x_get (v := .ref (aS 3)) C 83 150 rfl fi_X10 0 rfl rfl 4 (by decide) (mc wq_5_5) rfl ?_
        refine x_iload C 84 153 rfl 4 rfl ?_
        obtain ⟨hi, h⟩ := h
        refine x_iald (f := q19.2.2 4) C 85 155 rfl 3 rfl hi ?_
        refine x_aload_n C 86 156 rfl 0 rfl rfl ?_
        refine x_get (v := .ref (aS 14)) C 87 157 rfl fi_X10 0 rfl rfl 24 (by decide) (mc wq_5_18) rfl ?_
        refine x_iload_n C 88 160 rfl 3 rfl rfl ?_
        obtain ⟨hi, h⟩ := h
        refine x_iald (f := q19.2.2 24) C 89 161 rfl 14 rfl hi ?_
        refine x_icmp_ne C 90 162 199 rfl rfl (fun c27 => ?_) (fun c27 => ?_)
        · replace h := h.2 c27
          obtain ⟨y28, ey28⟩ : ∃ y : Int32, y = q19.2.1 + (1 : Int32) := ⟨_, rfl⟩
          replace h := h y28 ey28
          refine x_iinc (v := y28) (lv' := [(0, .ref (aS 0)), (1, .int x1), (2, .int q19.1), (3, .int x3), (4, .int y28)]) C 111 199 rfl 4 rfl (by rw [ey28]; rfl) (by decide) [1, 2, 3, 4, 0] rfl ?_
          refine x_goto C 112 202 127 rfl rfl ?_
          exact x_sub [0, 1, 2, 3, 4] rfl (hR127 (q19.1, y28, q19.2.2) h)
        · replace h := h.1 c27
          refine x_aload_n C 91 165 rfl 0 rfl rfl ?_
          refine x_aload_n C 92 166 rfl 0 rfl rfl ?_
          refine x_get (v := .ref (aS 13)) C 93 167 rfl fi_X10 0 rfl rfl 23 (by decide) (mc wq_5_17) rfl ?_
          refine x_iload_n C 94 170 rfl 3 rfl rfl ?_
          obtain ⟨hi, h⟩ := h
          refine x_iald (f := q19.2.2 23) C 95 171 rfl 13 rfl hi ?_
          refine x_aload_n C 96 172 rfl 0 rfl rfl ?_
          refine x_get (v := .ref (aS 4)) C 97 173 rfl fi_X10 0 rfl rfl 5 (by decide) (mc wq_5_6) rfl ?_
          refine x_iload C 98 176 rfl 4 rfl ?_
          obtain ⟨hi, h⟩ := h
          refine x_iald (f := q19.2.2 5) C 99 178 rfl 4 rfl hi ?_
          refine x_aload_n C 100 179 rfl 0 rfl rfl ?_
          refine x_aload_n C 101 180 rfl 0 rfl rfl ?_
          refine x_get (v := .ref (aS 15)) C 102 181 rfl fi_X10 0 rfl rfl 25 (by decide) (mc wq_5_19) rfl ?_
          refine x_iload_n C 103 184 rfl 3 rfl rfl ?_
          obtain ⟨hi, h⟩ := h
          refine x_iald (f := q19.2.2 25) C 104 185 rfl 15 rfl hi ?_
          refine x_aload_n C 105 186 rfl 0 rfl rfl ?_
          refine x_iload C 106 187 rfl 4 rfl ?_
          refine x_callWVI (ci := 8) (q0 := 0) (q := (RX10, TX10, 34)) C 107 189 (c_X10_numberOf (xl x) (xD x) (xk x) (xg x) aS q19.2.2 sL q19.2.1 _ h) rfl wwGood (mem4 wq_17_15 wq_17_16 wq_17_17 wq_1_5) wq_17_18 1 ok_X10_numberOf rfl ⟨by decide, by decide⟩ (Nat.le_of_ble_eq_true rfl) ⟨Nat.le_refl _, Nat.le_refl _⟩ ⟨rfl, rfl⟩ rfl rfl rfl (fun r29 _ h => ?_)
          refine x_callWVI (ci := 8) (q0 := 0) (q := (RX10, TX10, 34)) C 108 192 (c_X10_put2 (xl x) (xD x) (xk x) (xg x) aS q19.2.2 sL (q19.2.2 25 x3.toNatClampNeg) r29 _ h) rfl wwGood (mem4 wq_23_1 wq_23_2 wq_23_3 wq_1_5) wq_23_4 2 ok_X10_put2 rfl ⟨by decide, by decide⟩ (Nat.le_of_ble_eq_true rfl) ⟨Nat.le_refl _, Nat.le_refl _⟩ ⟨rfl, rfl⟩ rfl rfl rfl (fun r30 _ h => ?_)
          refine x_callWVZ (ci := 8) (q0 := 0) (q := (RX10, TX10, 34)) C 109 195 (c_X10_note (xl x) (xD x) (xk x) (xg x) aS q19.2.2 sL (q19.2.2 23 x3.toNatClampNeg) (q19.2.2 5 q19.2.1.toNatClampNeg) r30 _ h) rfl wwGood (mem4 wq_22_18 wq_22_19 wq_22_20 wq_1_5) wq_22_21 3 ok_X10_note rfl ⟨by decide, by decide⟩ (Nat.le_of_ble_eq_true rfl) ⟨Nat.le_refl _, Nat.le_refl _⟩ ⟨rfl, rfl⟩ rfl rfl rfl (fun r31 u31 h => ?_)
          refine x_istore_n (lv' := [(0, .ref (aS 0)), (1, .int x1), (2, .int r31), (3, .int x3), (4, .int q19.2.1)]) C 110 198 rfl rfl (by decide) [1, 2, 0, 3, 4] rfl ?_
          obtain ⟨y32, ey32⟩ : ∃ y : Int32, y = q19.2.1 + (1 : Int32) := ⟨_, rfl⟩
          replace h := h y32 ey32
          refine x_iinc (v := y32) (lv' := [(0, .ref (aS 0)), (1, .int x1), (2, .int r31), (3, .int x3), (4, .int y32)]) C 111 199 rfl 4 rfl (by rw [ey32]; rfl) (by decide) [1, 2, 3, 4, 0] rfl ?_
          refine x_goto C 112 202 127 rfl rfl ?_
          exact x_sub [0, 1, 2, 3, 4] rfl (hR127 (r31, y32, u31) h)
set_option maxHeartbeats 4000000 in
set_option maxRecDepth 100000 in
theorem w_X10_layGraphs_112 {x : CT} {aS : Nat → Nat} {sL : Int64} {x1 : Int32} {K : Int32 → St → Prop} (C : Cx x cX10_layGraphs tb_X10_layGraphs 5 RX10 (Cond.code yX10_layGraphs cX10_layGraphs 5 (some .boolean) :: wsL_law) ({ frames := 2, cells := 0, slots := 0, locals := 52 } : Room)) (rt : RetZ x 0 0 (fun (u : St) => fl [wdS (xk x) aS u sL]) (fun (r : Int32) (u : St) => K r u))  {q16 : Int32 × Int32 × St} (h : Lp (F_X10_layGraphs_112 sL x1 K) q16) : Wx x 5 0 0 (fl [wdS (xk x) aS q16.2.2 sL]) [(0, .ref (aS 0)), (1, .int x1), (2, .int q16.1), (3, .int q16.2.1)] 112 [] := by
  refine lp_walk (P := fun q16 => Wx x 5 0 0 (fl [wdS (xk x) aS q16.2.2 sL]) [(0, .ref (aS 0)), (1, .int x1), (2, .int q16.1), (3, .int q16.2.1)] 112 []) (fun q16 R112 hR112 h => ?_) h
  refine x_iload_n C 64 112 rfl 3 rfl rfl ?_
  refine x_aload_n C 65 113 rfl 0 rfl rfl ?_
  refine x_get (v := .int (q16.2.2 22 0)) C 66 114 rfl fi_X10 0 rfl rfl 22 (by decide) (mc wq_22_8) rfl ?_
  refine x_icmp_ge C 67 117 211 rfl rfl (fun c17 => ?_) (fun c17 => ?_)
  · replace h := h.1 c17
    refine x_iload_n C 115 211 rfl 2 rfl rfl ?_
    exact x_zret C rt 116 212 rfl h.1 q16.2.2 rfl h.2
  · replace h := h.2 c17
    refine x_iload_n C 68 120 rfl 2 rfl rfl ?_
    refine x_if_eq C 69 121 211 rfl rfl (fun c18 => ?_) (fun c18 => ?_)
    · replace h := h.1 c18
      refine x_iload_n C 115 211 rfl 2 rfl rfl ?_
      exact x_zret C rt 116 212 rfl h.1 q16.2.2 rfl h.2
    · replace h := h.2 c18
      refine x_iconst (v := (0 : Int32)) C 70 124 rfl (by decide) ?_
      refine x_istore (lv' := [(0, .ref (aS 0)), (1, .int x1), (2, .int q16.1), (3, .int q16.2.1), (4, .int (0 : Int32))]) C 71 125 rfl (by decide) [1, 2, 3, 4, 0] rfl ?_
      refine x_sub (lv' := [(0, .ref (aS 0)), (1, .int x1), (2, .int q16.1), (3, .int q16.2.1), (4, .int (0 : Int32))]) [0, 1, 2, 3, 4] rfl (w_X10_layGraphs_127 C rt hR112 h)
set_option maxHeartbeats 4000000 in
set_option maxRecDepth 100000 in
theorem wj_X10_layGraphs_110 {x : CT} {aS : Nat → Nat} {sS : St} {sL : Int64} {x1 : Int32} {x2 : Int32} {K : Int32 → St → Prop} (C : Cx x cX10_layGraphs tb_X10_layGraphs 5 RX10 (Cond.code yX10_layGraphs cX10_layGraphs 5 (some .boolean) :: wsL_law) ({ frames := 2, cells := 0, slots := 0, locals := 52 } : Room)) (rt : RetZ x 0 0 (fun (u : St) => fl [wdS (xk x) aS u sL]) (fun (r : Int32) (u : St) => K r u))  (h : J_X10_layGraphs_110 sS sL x1 x2 K) : Wx x 5 0 0 (fl [wdS (xk x) aS sS sL]) [(0, .ref (aS 0)), (1, .int x1), (2, .int x2)] 110 [] := by
  unfold J_X10_layGraphs_110 at h
  refine x_iconst (v := (0 : Int32)) C 62 110 rfl (by decide) ?_
  refine x_istore_n (lv' := [(0, .ref (aS 0)), (1, .int x1), (2, .int x2), (3, .int (0 : Int32))]) C 63 111 rfl rfl (by decide) [1, 2, 3, 0] rfl ?_
  refine x_sub (lv' := [(0, .ref (aS 0)), (1, .int x1), (2, .int x2), (3, .int (0 : Int32))]) [0, 1, 2, 3] rfl (w_X10_layGraphs_112 C rt h)
set_option maxHeartbeats 4000000 in
set_option maxRecDepth 100000 in
theorem wj_X10_layGraphs_40 {x : CT} {aS : Nat → Nat} {sS : St} {sL : Int64} {x1 : Int32} {K : Int32 → St → Prop} (C : Cx x cX10_layGraphs tb_X10_layGraphs 5 RX10 (Cond.code yX10_layGraphs cX10_layGraphs 5 (some .boolean) :: wsL_law) ({ frames := 2, cells := 0, slots := 0, locals := 52 } : Room)) (rt : RetZ x 0 0 (fun (u : St) => fl [wdS (xk x) aS u sL]) (fun (r : Int32) (u : St) => K r u))  (h : J_X10_layGraphs_40 sS sL x1 K) : Wx x 5 0 0 (fl [wdS (xk x) aS sS sL]) [(0, .ref (aS 0)), (1, .int x1)] 40 [] := by
  unfold J_X10_layGraphs_40 at h
  refine x_aload_n C 22 40 rfl 0 rfl rfl ?_
  refine x_dup C 23 41 rfl rfl ?_
  refine x_get (v := .int (sS 26 0)) C 24 42 rfl fi_X10 0 rfl rfl 26 (by decide) (mc wq_22_13) rfl ?_
  refine x_iconst (v := (1 : Int32)) C 25 45 rfl (by decide) ?_
  refine x_iadd C 26 46 rfl ?_
  obtain ⟨z3, ez3⟩ : ∃ z : St, z = us sS 26 (sS 26 0 + (1 : Int32)) := ⟨_, rfl⟩
  replace h := h z3 ez3
  refine x_put (ws' := fl [wdS (xk x) aS z3 sL]) C 27 47 rfl fi_X10 tyX10 tyX10_ok nmX10 0 rfl rfl 26 (by decide) (mc wq_22_13) rfl rfl rfl (Nat.le_of_ble_eq_true rfl) (by rw [ez3]; rfl) ?_
  refine x_iconst (v := (1 : Int32)) C 28 50 rfl (by decide) ?_
  refine x_istore_n (lv' := [(0, .ref (aS 0)), (1, .int x1), (2, .int (1 : Int32))]) C 29 51 rfl rfl (by decide) [1, 2, 0] rfl ?_
  refine x_iconst (v := (0 : Int32)) C 30 52 rfl (by decide) ?_
  refine x_istore_n (lv' := [(0, .ref (aS 0)), (1, .int x1), (2, .int (1 : Int32)), (3, .int (0 : Int32))]) C 31 53 rfl rfl (by decide) [1, 2, 3, 0] rfl ?_
  refine x_sub (lv' := [(0, .ref (aS 0)), (1, .int x1), (2, .int (1 : Int32)), (3, .int (0 : Int32))]) [0, 1, 2, 3] rfl (w_X10_layGraphs_54 C rt (fun q15 h => ?_) h)
  · exact x_sub (lv' := [(0, .ref (aS 0)), (1, .int x1), (2, .int q15.1)]) [0, 1, 2] rfl (wj_X10_layGraphs_110 C rt h)
set_option maxHeartbeats 4000000 in
set_option maxRecDepth 100000 in
theorem w_X10_layGraphs_21 {x : CT} {aS : Nat → Nat} {sL : Int64} {x1 : Int32} {K : Int32 → St → Prop} {E40 : St → Prop} (C : Cx x cX10_layGraphs tb_X10_layGraphs 5 RX10 (Cond.code yX10_layGraphs cX10_layGraphs 5 (some .boolean) :: wsL_law) ({ frames := 2, cells := 0, slots := 0, locals := 52 } : Room)) (rt : RetZ x 0 0 (fun (u : St) => fl [wdS (xk x) aS u sL]) (fun (r : Int32) (u : St) => K r u)) (hE40 : ∀ q : St, E40 q → Wx x 5 0 0 (fl [wdS (xk x) aS q sL]) [(0, .ref (aS 0)), (1, .int x1)] 40 []) {q34 : Int32 × St} (h : Lp (F_X10_layGraphs_21 E40) q34) : Wx x 5 0 0 (fl [wdS (xk x) aS q34.2 sL]) [(0, .ref (aS 0)), (1, .int x1), (2, .int q34.1)] 21 [] := by
  refine lp_walk (P := fun q34 => Wx x 5 0 0 (fl [wdS (xk x) aS q34.2 sL]) [(0, .ref (aS 0)), (1, .int x1), (2, .int q34.1)] 21 []) (fun q34 R21 hR21 h => ?_) h
  refine x_iload_n C 12 21 rfl 2 rfl rfl ?_
  refine x_ldc (v := (314928 : Int32)) C 13 22 rfl (mc wq_5_20) ?_
  refine x_icmp_ge C 14 24 40 rfl rfl (fun c35 => ?_) (fun c35 => ?_)
  · replace h := h.1 c35
    exact x_sub [0, 1] rfl (hE40 q34.2 h)
  · replace h := h.2 c35
    refine x_aload_n C 15 27 rfl 0 rfl rfl ?_
    refine x_get (v := .ref (aS 16)) C 16 28 rfl fi_X10 0 rfl rfl 27 (by decide) (mc wq_5_21) rfl ?_
    refine x_iload_n C 17 31 rfl 2 rfl rfl ?_
    refine x_iconst (v := (0 : Int32)) C 18 32 rfl (by decide) ?_
    obtain ⟨hi, h⟩ := h
    obtain ⟨z36, ez36⟩ : ∃ z : St, z = ua q34.2 27 q34.1 (0 : Int32) := ⟨_, rfl⟩
    replace h := h z36 ez36
    refine x_iast (f := q34.2 27) (ws' := fl [wdS (xk x) aS z36 sL]) C 19 33 rfl 16 rfl hi (by rw [ez36]; rfl) ?_
    obtain ⟨y37, ey37⟩ : ∃ y : Int32, y = q34.1 + (1 : Int32) := ⟨_, rfl⟩
    replace h := h y37 ey37
    refine x_iinc (v := y37) (lv' := [(0, .ref (aS 0)), (1, .int x1), (2, .int y37)]) C 20 34 rfl 2 rfl (by rw [ey37]; rfl) (by decide) [1, 2, 0] rfl ?_
    refine x_goto C 21 37 21 rfl rfl ?_
    exact x_sub [0, 1, 2] rfl (hR21 (y37, z36) h)
set_option maxHeartbeats 4000000 in
set_option maxRecDepth 100000 in
theorem w_X10_layGraphs {x : CT} {aS : Nat → Nat} {sS : St} {sL : Int64} {p1 : Int32} {K : Int32 → St → Prop} (C : Cx x cX10_layGraphs tb_X10_layGraphs 5 RX10 (Cond.code yX10_layGraphs cX10_layGraphs 5 (some .boolean) :: wsL_law) ({ frames := 2, cells := 0, slots := 0, locals := 52 } : Room)) (rt : RetZ x 0 0 (fun (u : St) => fl [wdS (xk x) aS u sL]) (fun (r : Int32) (u : St) => K r u)) (h : wp_X10_layGraphs sS sL p1 K) : Wx x 5 0 0 (fl [wdS (xk x) aS sS sL]) [(0, .ref (aS 0)), (1, .int p1)] 0 [] := by
  unfold wp_X10_layGraphs at h
  refine x_aload_n C 0 0 rfl 0 rfl rfl ?_
  refine x_iconst (v := (0 : Int32)) C 1 1 rfl (by decide) ?_
  obtain ⟨z1, ez1⟩ : ∃ z : St, z = us sS 22 (0 : Int32) := ⟨_, rfl⟩
  replace h := h z1 ez1
  refine x_put (ws' := fl [wdS (xk x) aS z1 sL]) C 2 2 rfl fi_X10 tyX10 tyX10_ok nmX10 0 rfl rfl 22 (by decide) (mc wq_22_8) rfl rfl rfl (Nat.le_of_ble_eq_true rfl) (by rw [ez1]; rfl) ?_
  refine x_aload_n C 3 5 rfl 0 rfl rfl ?_
  refine x_get (v := .int (z1 26 0)) C 4 6 rfl fi_X10 0 rfl rfl 26 (by decide) (mc wq_22_13) rfl ?_
  refine x_ldc (v := (2000000000 : Int32)) C 5 9 rfl (mc wq_22_14) ?_
  refine x_icmp_ne C 6 11 40 rfl rfl (fun c2 => ?_) (fun c2 => ?_)
  · replace h := h.2 c2
    exact x_sub (lv' := [(0, .ref (aS 0)), (1, .int p1)]) [0, 1] rfl (wj_X10_layGraphs_40 C rt h)
  · replace h := h.1 c2
    refine x_aload_n C 7 14 rfl 0 rfl rfl ?_
    refine x_iconst (v := (0 : Int32)) C 8 15 rfl (by decide) ?_
    obtain ⟨z33, ez33⟩ : ∃ z : St, z = us z1 26 (0 : Int32) := ⟨_, rfl⟩
    replace h := h z33 ez33
    refine x_put (ws' := fl [wdS (xk x) aS z33 sL]) C 9 16 rfl fi_X10 tyX10 tyX10_ok nmX10 0 rfl rfl 26 (by decide) (mc wq_22_13) rfl rfl rfl (Nat.le_of_ble_eq_true rfl) (by rw [ez33]; rfl) ?_
    refine x_iconst (v := (0 : Int32)) C 10 19 rfl (by decide) ?_
    refine x_istore_n (lv' := [(0, .ref (aS 0)), (1, .int p1), (2, .int (0 : Int32))]) C 11 20 rfl rfl (by decide) [1, 2, 0] rfl ?_
    refine x_sub (lv' := [(0, .ref (aS 0)), (1, .int p1), (2, .int (0 : Int32))]) [0, 1, 2] rfl (w_X10_layGraphs_21 C rt (fun q38 h => ?_) h)
    · exact x_sub (lv' := [(0, .ref (aS 0)), (1, .int p1)]) [0, 1] rfl (wj_X10_layGraphs_40 C rt h)
theorem c_X10_layGraphs (l : Launch) (D : va_G) (k : ClassId × ClassId) (g : Nat → Nat) (aS : Nat → Nat) (sS : St) (sL : Int64) (p1 : Int32) (K : Int32 → St → Prop) (h : wp_X10_layGraphs sS sL p1 K) : ConZ l yX10_layGraphs (Cond.code yX10_layGraphs cX10_layGraphs 5 (some .boolean) :: wsL_law) ({ frames := 2, cells := 0, slots := 0, locals := 52 } : Room) D k g [.ref (aS 0), .int p1] (fl [wdS k aS sS sL]) (fun (u : St) => fl [wdS k aS u sL]) (fun (r : Int32) (u : St) => K r u) := by
  refine ConZ.of (tb := tb_X10_layGraphs) (cc := cX10_layGraphs) (nL := 5) (by decide) rfl tbk_X10_layGraphs (Nat.le_of_ble_eq_true rfl) ?_
  intro x hl hD hk hg C rt
  subst hl hD hk hg
  exact w_X10_layGraphs C rt h
set_option maxHeartbeats 4000000 in
set_option maxRecDepth 100000 in
theorem w_X10_isRound {x : CT} {aS : Nat → Nat} {sS : St} {sL : Int64} {p1 : Int32} {K : Int32 → Prop} (C : Cx x cX10_isRound tb_X10_isRound 2 RX10 (Cond.code yX10_isRound cX10_isRound 2 (some .boolean) :: wsL_law) ({ frames := 2, cells := 0, slots := 0, locals := 52 } : Room)) (rt : RetZ x 0 0 (fun (u : Unit) => fl [wdS (xk x) aS sS sL]) (fun (r : Int32) (_ : Unit) => K r)) (h : wp_X10_isRound sS sL p1 K) : Wx x 2 0 0 (fl [wdS (xk x) aS sS sL]) [(0, .ref (aS 0)), (1, .int p1)] 0 [] := by
  unfold wp_X10_isRound at h
  refine x_aload_n C 0 0 rfl 0 rfl rfl ?_
  refine x_get (v := .ref (aS 13)) C 1 1 rfl fi_X10 0 rfl rfl 23 (by decide) (mc wq_5_17) rfl ?_
  refine x_iload_n C 2 4 rfl 1 rfl rfl ?_
  obtain ⟨hi, h⟩ := h
  refine x_iald (f := sS 23) C 3 5 rfl 13 rfl hi ?_
  refine x_aload_n C 4 6 rfl 0 rfl rfl ?_
  refine x_get (v := .ref (aS 14)) C 5 7 rfl fi_X10 0 rfl rfl 24 (by decide) (mc wq_5_18) rfl ?_
  refine x_iload_n C 6 10 rfl 1 rfl rfl ?_
  obtain ⟨hi, h⟩ := h
  refine x_iald (f := sS 24) C 7 11 rfl 14 rfl hi ?_
  refine x_icmp_ne C 8 12 44 rfl rfl (fun c1 => ?_) (fun c1 => ?_)
  · replace h := h.2 c1
    refine x_iconst (v := (0 : Int32)) C 26 44 rfl (by decide) ?_
    exact x_zret C rt 27 45 rfl zb_0 () rfl h
  · replace h := h.1 c1
    refine x_aload_n C 9 15 rfl 0 rfl rfl ?_
    refine x_aload_n C 10 16 rfl 0 rfl rfl ?_
    refine x_get (v := .ref (aS 15)) C 11 17 rfl fi_X10 0 rfl rfl 25 (by decide) (mc wq_5_19) rfl ?_
    refine x_iload_n C 12 20 rfl 1 rfl rfl ?_
    obtain ⟨hi, h⟩ := h
    refine x_iald (f := sS 25) C 13 21 rfl 15 rfl hi ?_
    refine x_aload_n C 14 22 rfl 0 rfl rfl ?_
    refine x_get (v := .ref (aS 15)) C 15 23 rfl fi_X10 0 rfl rfl 25 (by decide) (mc wq_5_19) rfl ?_
    refine x_iload_n C 16 26 rfl 1 rfl rfl ?_
    obtain ⟨hi, h⟩ := h
    refine x_iald (f := sS 25) C 17 27 rfl 15 rfl hi ?_
    refine x_callWVI (ci := 8) (q0 := 0) (q := (RX10, TX10, 34)) C 18 28 (c_X10_put2 (xl x) (xD x) (xk x) (xg x) aS sS sL (sS 25 p1.toNatClampNeg) (sS 25 p1.toNatClampNeg) _ h) rfl wwGood (mem4 wq_23_1 wq_23_2 wq_23_3 wq_1_5) wq_23_4 2 ok_X10_put2 rfl ⟨by decide, by decide⟩ (Nat.le_of_ble_eq_true rfl) ⟨Nat.le_refl _, Nat.le_refl _⟩ ⟨rfl, rfl⟩ rfl rfl rfl (fun r2 _ h => ?_)
    refine x_aload_n C 19 31 rfl 0 rfl rfl ?_
    refine x_get (v := .ref (aS 15)) C 20 32 rfl fi_X10 0 rfl rfl 25 (by decide) (mc wq_5_19) rfl ?_
    refine x_iload_n C 21 35 rfl 1 rfl rfl ?_
    obtain ⟨hi, h⟩ := h
    refine x_iald (f := sS 25) C 22 36 rfl 15 rfl hi ?_
    refine x_icmp_ne C 23 37 44 rfl rfl (fun c3 => ?_) (fun c3 => ?_)
    · replace h := h.2 c3
      refine x_iconst (v := (0 : Int32)) C 26 44 rfl (by decide) ?_
      exact x_zret C rt 27 45 rfl zb_0 () rfl h
    · replace h := h.1 c3
      refine x_iconst (v := (1 : Int32)) C 24 40 rfl (by decide) ?_
      refine x_goto C 25 41 45 rfl rfl ?_
      exact x_zret C rt 27 45 rfl zb_1 () rfl h
theorem c_X10_isRound (l : Launch) (D : va_G) (k : ClassId × ClassId) (g : Nat → Nat) (aS : Nat → Nat) (sS : St) (sL : Int64) (p1 : Int32) (K : Int32 → Prop) (h : wp_X10_isRound sS sL p1 K) : ConZ l yX10_isRound (Cond.code yX10_isRound cX10_isRound 2 (some .boolean) :: wsL_law) ({ frames := 2, cells := 0, slots := 0, locals := 52 } : Room) D k g [.ref (aS 0), .int p1] (fl [wdS k aS sS sL]) (fun (u : Unit) => fl [wdS k aS sS sL]) (fun (r : Int32) (_ : Unit) => K r) := by
  refine ConZ.of (tb := tb_X10_isRound) (cc := cX10_isRound) (nL := 2) (by decide) rfl tbk_X10_isRound (Nat.le_of_ble_eq_true rfl) ?_
  intro x hl hD hk hg C rt
  subst hl hD hk hg
  exact w_X10_isRound C rt h
set_option maxHeartbeats 4000000 in
set_option maxRecDepth 100000 in
theorem w_X10_isBad_4 {x : CT} {aS : Nat → Nat} {sS : St} {sL : Int64} {x1 : Int32} {K : Int32 → Prop} {E41 : Int32 → Prop} (C : Cx x cX10_isBad tb_X10_isBad 4 RX10 (Cond.code yX10_isBad cX10_isBad 4 (some .boolean) :: wsL_law) ({ frames := 3, cells := 0, slots := 0, locals := 73 } : Room)) (rt : RetZ x 0 0 (fun (u : Unit) => fl [wdS (xk x) aS sS sL]) (fun (r : Int32) (_ : Unit) => K r)) (hE41 : ∀ q : Int32, E41 q → Wx x 4 0 0 (fl [wdS (xk x) aS sS sL]) [(0, .ref (aS 0)), (1, .int x1), (2, .int q)] 41 []) {q1 : Int32 × Int32} (h : Lp (F_X10_isBad_4 sS sL x1 E41) q1) : Wx x 4 0 0 (fl [wdS (xk x) aS sS sL]) [(0, .ref (aS 0)), (1, .int x1), (2, .int q1.1), (3, .int q1.2)] 4 [] := by
  refine lp_walk (P := fun q1 => Wx x 4 0 0 (fl [wdS (xk x) aS sS sL]) [(0, .ref (aS 0)), (1, .int x1), (2, .int q1.1), (3, .int q1.2)] 4 []) (fun q1 R4 hR4 h => ?_) h
  refine x_iload_n C 4 4 rfl 3 rfl rfl ?_
  refine x_iconst (v := (3 : Int32)) C 5 5 rfl (by decide) ?_
  refine x_icmp_ge C 6 6 41 rfl rfl (fun c2 => ?_) (fun c2 => ?_)
  · replace h := h.1 c2
    exact x_sub [0, 1, 2] rfl (hE41 q1.1 h)
  · replace h := h.2 c2
    refine x_iload_n C 7 9 rfl 2 rfl rfl ?_
    refine x_if_ne C 8 10 29 rfl rfl (fun c3 => ?_) (fun c3 => ?_)
    · replace h := h.2 c3
      refine x_iconst (v := (1 : Int32)) C 19 29 rfl (by decide) ?_
      refine x_goto C 20 30 34 rfl rfl ?_
      refine x_istore_n (lv' := [(0, .ref (aS 0)), (1, .int x1), (2, .int (1 : Int32)), (3, .int q1.2)]) C 22 34 rfl rfl (by decide) [1, 2, 0, 3] rfl ?_
      obtain ⟨y4, ey4⟩ : ∃ y : Int32, y = q1.2 + (1 : Int32) := ⟨_, rfl⟩
      replace h := h y4 ey4
      refine x_iinc (v := y4) (lv' := [(0, .ref (aS 0)), (1, .int x1), (2, .int (1 : Int32)), (3, .int y4)]) C 23 35 rfl 3 rfl (by rw [ey4]; rfl) (by decide) [1, 2, 3, 0] rfl ?_
      refine x_goto C 24 38 4 rfl rfl ?_
      exact x_sub [0, 1, 2, 3] rfl (hR4 ((1 : Int32), y4) h)
    · replace h := h.1 c3
      refine x_aload_n C 9 13 rfl 0 rfl rfl ?_
      refine x_aload_n C 10 14 rfl 0 rfl rfl ?_
      refine x_get (v := .ref (aS 15)) C 11 15 rfl fi_X10 0 rfl rfl 25 (by decide) (mc wq_5_19) rfl ?_
      refine x_iload_n C 12 18 rfl 1 rfl rfl ?_
      obtain ⟨hi, h⟩ := h
      refine x_iald (f := sS 25) C 13 19 rfl 15 rfl hi ?_
      refine x_iload_n C 14 20 rfl 3 rfl rfl ?_
      refine x_iload_n C 15 21 rfl 3 rfl rfl ?_
      refine x_callWVI (ci := 8) (q0 := 0) (q := (RX10, TX10, 34)) C 16 22 (c_X10_digit (xl x) (xD x) (xk x) (xg x) aS sS sL (sS 25 x1.toNatClampNeg) q1.2 q1.2 _ h) rfl wwGood (mem4 wq_23_5 wq_23_6 wq_23_7 wq_1_5) wq_23_8 3 ok_X10_digit rfl ⟨by decide, by decide⟩ (Nat.le_of_ble_eq_true rfl) ⟨Nat.le_refl _, Nat.le_refl _⟩ ⟨rfl, rfl⟩ rfl rfl rfl (fun r5 _ h => ?_)
      refine x_iconst (v := (2 : Int32)) C 17 25 rfl (by decide) ?_
      refine x_icmp_ne C 18 26 33 rfl rfl (fun c6 => ?_) (fun c6 => ?_)
      · replace h := h.2 c6
        refine x_iconst (v := (0 : Int32)) C 21 33 rfl (by decide) ?_
        refine x_istore_n (lv' := [(0, .ref (aS 0)), (1, .int x1), (2, .int (0 : Int32)), (3, .int q1.2)]) C 22 34 rfl rfl (by decide) [1, 2, 0, 3] rfl ?_
        obtain ⟨y7, ey7⟩ : ∃ y : Int32, y = q1.2 + (1 : Int32) := ⟨_, rfl⟩
        replace h := h y7 ey7
        refine x_iinc (v := y7) (lv' := [(0, .ref (aS 0)), (1, .int x1), (2, .int (0 : Int32)), (3, .int y7)]) C 23 35 rfl 3 rfl (by rw [ey7]; rfl) (by decide) [1, 2, 3, 0] rfl ?_
        refine x_goto C 24 38 4 rfl rfl ?_
        exact x_sub [0, 1, 2, 3] rfl (hR4 ((0 : Int32), y7) h)
      · replace h := h.1 c6
        refine x_iconst (v := (1 : Int32)) C 19 29 rfl (by decide) ?_
        refine x_goto C 20 30 34 rfl rfl ?_
        refine x_istore_n (lv' := [(0, .ref (aS 0)), (1, .int x1), (2, .int (1 : Int32)), (3, .int q1.2)]) C 22 34 rfl rfl (by decide) [1, 2, 0, 3] rfl ?_
        obtain ⟨y8, ey8⟩ : ∃ y : Int32, y = q1.2 + (1 : Int32) := ⟨_, rfl⟩
        replace h := h y8 ey8
        refine x_iinc (v := y8) (lv' := [(0, .ref (aS 0)), (1, .int x1), (2, .int (1 : Int32)), (3, .int y8)]) C 23 35 rfl 3 rfl (by rw [ey8]; rfl) (by decide) [1, 2, 3, 0] rfl ?_
        refine x_goto C 24 38 4 rfl rfl ?_
        exact x_sub [0, 1, 2, 3] rfl (hR4 ((1 : Int32), y8) h)
set_option maxHeartbeats 4000000 in
set_option maxRecDepth 100000 in
theorem w_X10_isBad {x : CT} {aS : Nat → Nat} {sS : St} {sL : Int64} {p1 : Int32} {K : Int32 → Prop} (C : Cx x cX10_isBad tb_X10_isBad 4 RX10 (Cond.code yX10_isBad cX10_isBad 4 (some .boolean) :: wsL_law) ({ frames := 3, cells := 0, slots := 0, locals := 73 } : Room)) (rt : RetZ x 0 0 (fun (u : Unit) => fl [wdS (xk x) aS sS sL]) (fun (r : Int32) (_ : Unit) => K r)) (h : wp_X10_isBad sS sL p1 K) : Wx x 4 0 0 (fl [wdS (xk x) aS sS sL]) [(0, .ref (aS 0)), (1, .int p1)] 0 [] := by
  unfold wp_X10_isBad at h
  refine x_iconst (v := (0 : Int32)) C 0 0 rfl (by decide) ?_
  refine x_istore_n (lv' := [(0, .ref (aS 0)), (1, .int p1), (2, .int (0 : Int32))]) C 1 1 rfl rfl (by decide) [1, 2, 0] rfl ?_
  refine x_iconst (v := (0 : Int32)) C 2 2 rfl (by decide) ?_
  refine x_istore_n (lv' := [(0, .ref (aS 0)), (1, .int p1), (2, .int (0 : Int32)), (3, .int (0 : Int32))]) C 3 3 rfl rfl (by decide) [1, 2, 3, 0] rfl ?_
  refine x_sub (lv' := [(0, .ref (aS 0)), (1, .int p1), (2, .int (0 : Int32)), (3, .int (0 : Int32))]) [0, 1, 2, 3] rfl (w_X10_isBad_4 C rt (fun q9 h => ?_) h)
  · refine x_aload_n C 25 41 rfl 0 rfl rfl ?_
    refine x_iload_n C 26 42 rfl 1 rfl rfl ?_
    refine x_callWVZ (ci := 8) (q0 := 0) (q := (RX10, TX10, 34)) C 27 43 (c_X10_isRound (xl x) (xD x) (xk x) (xg x) aS sS sL p1 _ h) rfl wwGood (mem4 wq_24_17 wq_24_18 wq_24_19 wq_1_5) wq_24_20 1 ok_X10_isRound rfl ⟨by decide, by decide⟩ (Nat.le_of_ble_eq_true rfl) ⟨Nat.le_refl _, Nat.le_refl _⟩ ⟨rfl, rfl⟩ rfl rfl rfl (fun r10 _ h => ?_)
    refine x_if_eq C 28 46 57 rfl rfl (fun c11 => ?_) (fun c11 => ?_)
    · replace h := h.1 c11
      refine x_iconst (v := (0 : Int32)) C 33 57 rfl (by decide) ?_
      exact x_zret C rt 34 58 rfl zb_0 () rfl h
    · replace h := h.2 c11
      refine x_iload_n C 29 49 rfl 2 rfl rfl ?_
      refine x_if_ne C 30 50 57 rfl rfl (fun c12 => ?_) (fun c12 => ?_)
      · replace h := h.2 c12
        refine x_iconst (v := (0 : Int32)) C 33 57 rfl (by decide) ?_
        exact x_zret C rt 34 58 rfl zb_0 () rfl h
      · replace h := h.1 c12
        refine x_iconst (v := (1 : Int32)) C 31 53 rfl (by decide) ?_
        refine x_goto C 32 54 58 rfl rfl ?_
        exact x_zret C rt 34 58 rfl zb_1 () rfl h
theorem c_X10_isBad (l : Launch) (D : va_G) (k : ClassId × ClassId) (g : Nat → Nat) (aS : Nat → Nat) (sS : St) (sL : Int64) (p1 : Int32) (K : Int32 → Prop) (h : wp_X10_isBad sS sL p1 K) : ConZ l yX10_isBad (Cond.code yX10_isBad cX10_isBad 4 (some .boolean) :: wsL_law) ({ frames := 3, cells := 0, slots := 0, locals := 73 } : Room) D k g [.ref (aS 0), .int p1] (fl [wdS k aS sS sL]) (fun (u : Unit) => fl [wdS k aS sS sL]) (fun (r : Int32) (_ : Unit) => K r) := by
  refine ConZ.of (tb := tb_X10_isBad) (cc := cX10_isBad) (nL := 4) (by decide) rfl tbk_X10_isBad (Nat.le_of_ble_eq_true rfl) ?_
  intro x hl hD hk hg C rt
  subst hl hD hk hg
  exact w_X10_isBad C rt h
set_option maxHeartbeats 4000000 in
set_option maxRecDepth 100000 in
theorem wj_X10_noneBad_30 {x : CT} {aS : Nat → Nat} {sS : St} {sL : Int64} {x1 : Int32} {x3 : Int32} {K : Int32 → Prop} {R4 : Int32 × Int32 → Prop} (C : Cx x cX10_noneBad tb_X10_noneBad 4 RX10 (Cond.code yX10_noneBad cX10_noneBad 4 (some .boolean) :: wsL_law) ({ frames := 4, cells := 0, slots := 0, locals := 96 } : Room)) (rt : RetZ x 0 0 (fun (u : Unit) => fl [wdS (xk x) aS sS sL]) (fun (r : Int32) (_ : Unit) => K r)) (hR4 : ∀ q : Int32 × Int32, R4 q → Wx x 4 0 0 (fl [wdS (xk x) aS sS sL]) [(0, .ref (aS 0)), (1, .int x1), (2, .int q.1), (3, .int q.2)] 4 []) (h : J_X10_noneBad_30 sS sL x3 R4) : Wx x 4 0 0 (fl [wdS (xk x) aS sS sL]) [(0, .ref (aS 0)), (1, .int x1), (3, .int x3)] 30 [] := by
  unfold J_X10_noneBad_30 at h
  refine x_aload_n C 18 30 rfl 0 rfl rfl ?_
  refine x_iload_n C 19 31 rfl 2 rfl rfl ?_
  refine x_callWVZ (ci := 8) (q0 := 0) (q := (RX10, TX10, 34)) C 20 32 (c_X10_isBad (xl x) (xD x) (xk x) (xg x) aS sS sL x3 _ h) rfl wwGood (mem4 wq_24_21 wq_24_22 wq_24_23 wq_1_5) wq_25_0 1 ok_X10_isBad rfl ⟨by decide, by decide⟩ (Nat.le_of_ble_eq_true rfl) ⟨Nat.le_refl _, Nat.le_refl _⟩ ⟨rfl, rfl⟩ rfl rfl rfl (fun r5 _ h => ?_)
  refine x_if_ne C 21 35 42 rfl rfl (fun c6 => ?_) (fun c6 => ?_)
  · replace h := h.2 c6
    refine x_iconst (v := (0 : Int32)) C 24 42 rfl (by decide) ?_
    refine x_istore_n (lv' := [(0, .ref (aS 0)), (1, .int x1), (2, .int (0 : Int32)), (3, .int x3)]) C 25 43 rfl rfl (by decide) [1, 2, 0, 3] rfl ?_
    obtain ⟨y7, ey7⟩ : ∃ y : Int32, y = x3 + (1 : Int32) := ⟨_, rfl⟩
    replace h := h y7 ey7
    refine x_iinc (v := y7) (lv' := [(0, .ref (aS 0)), (1, .int x1), (2, .int (0 : Int32)), (3, .int y7)]) C 26 44 rfl 3 rfl (by rw [ey7]; rfl) (by decide) [1, 2, 3, 0] rfl ?_
    refine x_goto C 27 47 4 rfl rfl ?_
    exact x_sub [0, 1, 2, 3] rfl (hR4 ((0 : Int32), y7) h)
  · replace h := h.1 c6
    refine x_iconst (v := (1 : Int32)) C 22 38 rfl (by decide) ?_
    refine x_goto C 23 39 43 rfl rfl ?_
    refine x_istore_n (lv' := [(0, .ref (aS 0)), (1, .int x1), (2, .int (1 : Int32)), (3, .int x3)]) C 25 43 rfl rfl (by decide) [1, 2, 0, 3] rfl ?_
    obtain ⟨y8, ey8⟩ : ∃ y : Int32, y = x3 + (1 : Int32) := ⟨_, rfl⟩
    replace h := h y8 ey8
    refine x_iinc (v := y8) (lv' := [(0, .ref (aS 0)), (1, .int x1), (2, .int (1 : Int32)), (3, .int y8)]) C 26 44 rfl 3 rfl (by rw [ey8]; rfl) (by decide) [1, 2, 3, 0] rfl ?_
    refine x_goto C 27 47 4 rfl rfl ?_
    exact x_sub [0, 1, 2, 3] rfl (hR4 ((1 : Int32), y8) h)
set_option maxHeartbeats 4000000 in
set_option maxRecDepth 100000 in
theorem w_X10_noneBad_4 {x : CT} {aS : Nat → Nat} {sS : St} {sL : Int64} {x1 : Int32} {K : Int32 → Prop} (C : Cx x cX10_noneBad tb_X10_noneBad 4 RX10 (Cond.code yX10_noneBad cX10_noneBad 4 (some .boolean) :: wsL_law) ({ frames := 4, cells := 0, slots := 0, locals := 96 } : Room)) (rt : RetZ x 0 0 (fun (u : Unit) => fl [wdS (xk x) aS sS sL]) (fun (r : Int32) (_ : Unit) => K r))  {q1 : Int32 × Int32} (h : Lp (F_X10_noneBad_4 sS sL x1 K) q1) : Wx x 4 0 0 (fl [wdS (xk x) aS sS sL]) [(0, .ref (aS 0)), (1, .int x1), (2, .int q1.1), (3, .int q1.2)] 4 [] := by
  refine lp_walk (P := fun q1 => Wx x 4 0 0 (fl [wdS (xk x) aS sS sL]) [(0, .ref (aS 0)), (1, .int x1), (2, .int q1.1), (3, .int q1.2)] 4 []) (fun q1 R4 hR4 h => ?_) h
  refine x_iload_n C 4 4 rfl 3 rfl rfl ?_
  refine x_aload_n C 5 5 rfl 0 rfl rfl ?_
  refine x_get (v := .int (sS 22 0)) C 6 6 rfl fi_X10 0 rfl rfl 22 (by decide) (mc wq_22_8) rfl ?_
  refine x_icmp_ge C 7 9 50 rfl rfl (fun c2 => ?_) (fun c2 => ?_)
  · replace h := h.1 c2
    refine x_iload_n C 28 50 rfl 2 rfl rfl ?_
    exact x_zret C rt 29 51 rfl h.1 () rfl h.2
  · replace h := h.2 c2
    refine x_iload_n C 8 12 rfl 2 rfl rfl ?_
    refine x_if_eq C 9 13 50 rfl rfl (fun c3 => ?_) (fun c3 => ?_)
    · replace h := h.1 c3
      refine x_iload_n C 28 50 rfl 2 rfl rfl ?_
      exact x_zret C rt 29 51 rfl h.1 () rfl h.2
    · replace h := h.2 c3
      refine x_iload_n C 10 16 rfl 1 rfl rfl ?_
      refine x_if_lt C 11 17 30 rfl rfl (fun c4 => ?_) (fun c4 => ?_)
      · replace h := h.1 c4
        exact x_sub (lv' := [(0, .ref (aS 0)), (1, .int x1), (3, .int q1.2)]) [0, 1, 3] rfl (wj_X10_noneBad_30 C rt hR4 h)
      · replace h := h.2 c4
        refine x_aload_n C 12 20 rfl 0 rfl rfl ?_
        refine x_get (v := .ref (aS 13)) C 13 21 rfl fi_X10 0 rfl rfl 23 (by decide) (mc wq_5_17) rfl ?_
        refine x_iload_n C 14 24 rfl 3 rfl rfl ?_
        obtain ⟨hi, h⟩ := h
        refine x_iald (f := sS 23) C 15 25 rfl 13 rfl hi ?_
        refine x_iload_n C 16 26 rfl 1 rfl rfl ?_
        refine x_icmp_ne C 17 27 38 rfl rfl (fun c9 => ?_) (fun c9 => ?_)
        · replace h := h.2 c9
          refine x_iconst (v := (1 : Int32)) C 22 38 rfl (by decide) ?_
          refine x_goto C 23 39 43 rfl rfl ?_
          refine x_istore_n (lv' := [(0, .ref (aS 0)), (1, .int x1), (2, .int (1 : Int32)), (3, .int q1.2)]) C 25 43 rfl rfl (by decide) [1, 2, 0, 3] rfl ?_
          obtain ⟨y10, ey10⟩ : ∃ y : Int32, y = q1.2 + (1 : Int32) := ⟨_, rfl⟩
          replace h := h y10 ey10
          refine x_iinc (v := y10) (lv' := [(0, .ref (aS 0)), (1, .int x1), (2, .int (1 : Int32)), (3, .int y10)]) C 26 44 rfl 3 rfl (by rw [ey10]; rfl) (by decide) [1, 2, 3, 0] rfl ?_
          refine x_goto C 27 47 4 rfl rfl ?_
          exact x_sub [0, 1, 2, 3] rfl (hR4 ((1 : Int32), y10) h)
        · replace h := h.1 c9
          exact x_sub (lv' := [(0, .ref (aS 0)), (1, .int x1), (3, .int q1.2)]) [0, 1, 3] rfl (wj_X10_noneBad_30 C rt hR4 h)
set_option maxHeartbeats 4000000 in
set_option maxRecDepth 100000 in
theorem w_X10_noneBad {x : CT} {aS : Nat → Nat} {sS : St} {sL : Int64} {p1 : Int32} {K : Int32 → Prop} (C : Cx x cX10_noneBad tb_X10_noneBad 4 RX10 (Cond.code yX10_noneBad cX10_noneBad 4 (some .boolean) :: wsL_law) ({ frames := 4, cells := 0, slots := 0, locals := 96 } : Room)) (rt : RetZ x 0 0 (fun (u : Unit) => fl [wdS (xk x) aS sS sL]) (fun (r : Int32) (_ : Unit) => K r)) (h : wp_X10_noneBad sS sL p1 K) : Wx x 4 0 0 (fl [wdS (xk x) aS sS sL]) [(0, .ref (aS 0)), (1, .int p1)] 0 [] := by
  unfold wp_X10_noneBad at h
  refine x_iconst (v := (1 : Int32)) C 0 0 rfl (by decide) ?_
  refine x_istore_n (lv' := [(0, .ref (aS 0)), (1, .int p1), (2, .int (1 : Int32))]) C 1 1 rfl rfl (by decide) [1, 2, 0] rfl ?_
  refine x_iconst (v := (0 : Int32)) C 2 2 rfl (by decide) ?_
  refine x_istore_n (lv' := [(0, .ref (aS 0)), (1, .int p1), (2, .int (1 : Int32)), (3, .int (0 : Int32))]) C 3 3 rfl rfl (by decide) [1, 2, 3, 0] rfl ?_
  refine x_sub (lv' := [(0, .ref (aS 0)), (1, .int p1), (2, .int (1 : Int32)), (3, .int (0 : Int32))]) [0, 1, 2, 3] rfl (w_X10_noneBad_4 C rt h)
theorem c_X10_noneBad (l : Launch) (D : va_G) (k : ClassId × ClassId) (g : Nat → Nat) (aS : Nat → Nat) (sS : St) (sL : Int64) (p1 : Int32) (K : Int32 → Prop) (h : wp_X10_noneBad sS sL p1 K) : ConZ l yX10_noneBad (Cond.code yX10_noneBad cX10_noneBad 4 (some .boolean) :: wsL_law) ({ frames := 4, cells := 0, slots := 0, locals := 96 } : Room) D k g [.ref (aS 0), .int p1] (fl [wdS k aS sS sL]) (fun (u : Unit) => fl [wdS k aS sS sL]) (fun (r : Int32) (_ : Unit) => K r) := by
  refine ConZ.of (tb := tb_X10_noneBad) (cc := cX10_noneBad) (nL := 4) (by decide) rfl tbk_X10_noneBad (Nat.le_of_ble_eq_true rfl) ?_
  intro x hl hD hk hg C rt
  subst hl hD hk hg
  exact w_X10_noneBad C rt h
set_option maxHeartbeats 4000000 in
set_option maxRecDepth 100000 in
theorem w_X10_graphs {x : CT} {aS : Nat → Nat} {sS : St} {sL : Int64} {K : Int32 → St → Prop} (C : Cx x cX10_graphs tb_X10_graphs 1 RX10 (Cond.code yX10_graphs cX10_graphs 1 (some .int) :: wsL_law) ({ frames := 3, cells := 0, slots := 0, locals := 76 } : Room)) (rt : RetI x 0 0 (fun (u : St) => fl [wdS (xk x) aS u sL]) (fun (r : Int32) (u : St) => K r u)) (h : wp_X10_graphs sS sL K) : Wx x 1 0 0 (fl [wdS (xk x) aS sS sL]) [(0, .ref (aS 0))] 0 [] := by
  unfold wp_X10_graphs at h
  refine x_aload_n C 0 0 rfl 0 rfl rfl ?_
  refine x_iconst (v := (0 : Int32)) C 1 1 rfl (by decide) ?_
  refine x_callWVZ (ci := 8) (q0 := 0) (q := (RX10, TX10, 34)) C 2 2 (c_X10_layGraphs (xl x) (xD x) (xk x) (xg x) aS sS sL (0 : Int32) _ h) rfl wwGood (mem4 wq_22_9 wq_22_10 wq_22_11 wq_1_5) wq_22_12 1 ok_X10_layGraphs rfl ⟨by decide, by decide⟩ (Nat.le_of_ble_eq_true rfl) ⟨Nat.le_refl _, Nat.le_refl _⟩ ⟨rfl, rfl⟩ rfl rfl rfl (fun r1 u1 h => ?_)
  refine x_if_eq C 3 5 15 rfl rfl (fun c2 => ?_) (fun c2 => ?_)
  · replace h := h.1 c2
    refine x_bipush (v := (-2 : Int32)) C 7 15 rfl (by decide) ?_
    exact x_iret C rt 8 17 rfl u1 rfl h
  · replace h := h.2 c2
    refine x_aload_n C 4 8 rfl 0 rfl rfl ?_
    refine x_get (v := .int (u1 22 0)) C 5 9 rfl fi_X10 0 rfl rfl 22 (by decide) (mc wq_22_8) rfl ?_
    refine x_goto C 6 12 17 rfl rfl ?_
    exact x_iret C rt 8 17 rfl u1 rfl h
theorem c_X10_graphs (l : Launch) (D : va_G) (k : ClassId × ClassId) (g : Nat → Nat) (aS : Nat → Nat) (sS : St) (sL : Int64) (K : Int32 → St → Prop) (h : wp_X10_graphs sS sL K) : ConI l yX10_graphs (Cond.code yX10_graphs cX10_graphs 1 (some .int) :: wsL_law) ({ frames := 3, cells := 0, slots := 0, locals := 76 } : Room) D k g [.ref (aS 0)] (fl [wdS k aS sS sL]) (fun (u : St) => fl [wdS k aS u sL]) (fun (r : Int32) (u : St) => K r u) := by
  refine ConI.of (tb := tb_X10_graphs) (cc := cX10_graphs) (nL := 1) (by decide) rfl tbk_X10_graphs (Nat.le_of_ble_eq_true rfl) ?_
  intro x hl hD hk hg C rt
  subst hl hD hk hg
  exact w_X10_graphs C rt h
set_option maxHeartbeats 4000000 in
set_option maxRecDepth 100000 in
theorem w_X10_orderOf {x : CT} {aS : Nat → Nat} {sS : St} {sL : Int64} {p1 : Int32} {K : Int32 → Prop} (C : Cx x cX10_orderOf tb_X10_orderOf 2 RX10 (Cond.code yX10_orderOf cX10_orderOf 2 (some .int) :: wsL_law) ({ frames := 1, cells := 0, slots := 0, locals := 22 } : Room)) (rt : RetI x 0 0 (fun (u : Unit) => fl [wdS (xk x) aS sS sL]) (fun (r : Int32) (_ : Unit) => K r)) (h : wp_X10_orderOf sS sL p1 K) : Wx x 2 0 0 (fl [wdS (xk x) aS sS sL]) [(0, .ref (aS 0)), (1, .int p1)] 0 [] := by
  unfold wp_X10_orderOf at h
  refine x_aload_n C 0 0 rfl 0 rfl rfl ?_
  refine x_get (v := .ref (aS 13)) C 1 1 rfl fi_X10 0 rfl rfl 23 (by decide) (mc wq_5_17) rfl ?_
  refine x_iload_n C 2 4 rfl 1 rfl rfl ?_
  obtain ⟨hi, h⟩ := h
  refine x_iald (f := sS 23) C 3 5 rfl 13 rfl hi ?_
  refine x_aload_n C 4 6 rfl 0 rfl rfl ?_
  refine x_get (v := .ref (aS 14)) C 5 7 rfl fi_X10 0 rfl rfl 24 (by decide) (mc wq_5_18) rfl ?_
  refine x_iload_n C 6 10 rfl 1 rfl rfl ?_
  obtain ⟨hi, h⟩ := h
  refine x_iald (f := sS 24) C 7 11 rfl 14 rfl hi ?_
  refine x_aload_n C 8 12 rfl 0 rfl rfl ?_
  refine x_get (v := .ref (aS 15)) C 9 13 rfl fi_X10 0 rfl rfl 25 (by decide) (mc wq_5_19) rfl ?_
  refine x_iload_n C 10 16 rfl 1 rfl rfl ?_
  obtain ⟨hi, h⟩ := h
  refine x_iald (f := sS 25) C 11 17 rfl 15 rfl hi ?_
  refine x_call0SI C 12 18 (c_X10_codeOf (xl x) (xD x) (xk x) (xg x) (sS 23 p1.toNatClampNeg) (sS 24 p1.toNatClampNeg) (sS 25 p1.toNatClampNeg) _ h) rfl wwGood (mem3 wq_22_22 wq_22_23 wq_1_5) wq_23_0 3 ok_X10_codeOf rfl ⟨by decide, by decide⟩ (Nat.le_of_ble_eq_true rfl) ⟨Nat.le_refl _, Nat.le_refl _⟩ ⟨rfl, rfl⟩ rfl (fun r1 _ h => ?_)
  exact x_iret C rt 13 21 rfl () rfl h
theorem c_X10_orderOf (l : Launch) (D : va_G) (k : ClassId × ClassId) (g : Nat → Nat) (aS : Nat → Nat) (sS : St) (sL : Int64) (p1 : Int32) (K : Int32 → Prop) (h : wp_X10_orderOf sS sL p1 K) : ConI l yX10_orderOf (Cond.code yX10_orderOf cX10_orderOf 2 (some .int) :: wsL_law) ({ frames := 1, cells := 0, slots := 0, locals := 22 } : Room) D k g [.ref (aS 0), .int p1] (fl [wdS k aS sS sL]) (fun (u : Unit) => fl [wdS k aS sS sL]) (fun (r : Int32) (_ : Unit) => K r) := by
  refine ConI.of (tb := tb_X10_orderOf) (cc := cX10_orderOf) (nL := 2) (by decide) rfl tbk_X10_orderOf (Nat.le_of_ble_eq_true rfl) ?_
  intro x hl hD hk hg C rt
  subst hl hD hk hg
  exact w_X10_orderOf C rt h
set_option maxHeartbeats 4000000 in
set_option maxRecDepth 100000 in
theorem w_X10_graph_45 {x : CT} {aS : Nat → Nat} {sS : St} {sL : Int64} {x1 : Int32} {x2 : Int32} {x3 : Int32} {K : Int32 → St → Prop} {E84 : Int32 → Prop} (C : Cx x cX10_graph tb_X10_graph 6 RX10 (Cond.code yX10_graph cX10_graph 6 (some .int) :: wsL_law) ({ frames := 4, cells := 0, slots := 0, locals := 96 } : Room)) (rt : RetI x 0 0 (fun (u : St) => fl [wdS (xk x) aS u sL]) (fun (r : Int32) (u : St) => K r u)) (hE84 : ∀ q : Int32, E84 q → Wx x 6 0 0 (fl [wdS (xk x) aS sS sL]) [(0, .ref (aS 0)), (1, .int x1), (2, .int x2), (3, .int x3), (4, .int q)] 84 []) {q8 : Int32 × Int32} (h : Lp (F_X10_graph_45 sS sL x3 E84) q8) : Wx x 6 0 0 (fl [wdS (xk x) aS sS sL]) [(0, .ref (aS 0)), (1, .int x1), (2, .int x2), (3, .int x3), (4, .int q8.1), (5, .int q8.2)] 45 [] := by
  refine lp_walk (P := fun q8 => Wx x 6 0 0 (fl [wdS (xk x) aS sS sL]) [(0, .ref (aS 0)), (1, .int x1), (2, .int x2), (3, .int x3), (4, .int q8.1), (5, .int q8.2)] 45 []) (fun q8 R45 hR45 h => ?_) h
  refine x_iload C 26 45 rfl 5 rfl ?_
  refine x_aload_n C 27 47 rfl 0 rfl rfl ?_
  refine x_get (v := .int (sS 22 0)) C 28 48 rfl fi_X10 0 rfl rfl 22 (by decide) (mc wq_22_8) rfl ?_
  refine x_icmp_ge C 29 51 84 rfl rfl (fun c9 => ?_) (fun c9 => ?_)
  · replace h := h.1 c9
    exact x_sub [0, 1, 2, 3, 4] rfl (hE84 q8.1 h)
  · replace h := h.2 c9
    refine x_iload C 30 54 rfl 4 rfl ?_
    refine x_aload_n C 31 56 rfl 0 rfl rfl ?_
    refine x_iload C 32 57 rfl 5 rfl ?_
    refine x_callWVI (ci := 8) (q0 := 0) (q := (RX10, TX10, 34)) C 33 59 (c_X10_orderOf (xl x) (xD x) (xk x) (xg x) aS sS sL q8.2 _ h) rfl wwGood (mem4 wq_24_13 wq_24_14 wq_24_15 wq_1_5) wq_24_16 1 ok_X10_orderOf rfl ⟨by decide, by decide⟩ (Nat.le_of_ble_eq_true rfl) ⟨Nat.le_refl _, Nat.le_refl _⟩ ⟨rfl, rfl⟩ rfl rfl rfl (fun r10 _ h => ?_)
    refine x_aload_n C 34 62 rfl 0 rfl rfl ?_
    refine x_iload_n C 35 63 rfl 3 rfl rfl ?_
    refine x_callWVI (ci := 8) (q0 := 0) (q := (RX10, TX10, 34)) C 36 64 (c_X10_orderOf (xl x) (xD x) (xk x) (xg x) aS sS sL x3 _ h) rfl wwGood (mem4 wq_24_13 wq_24_14 wq_24_15 wq_1_5) wq_24_16 1 ok_X10_orderOf rfl ⟨by decide, by decide⟩ (Nat.le_of_ble_eq_true rfl) ⟨Nat.le_refl _, Nat.le_refl _⟩ ⟨rfl, rfl⟩ rfl rfl rfl (fun r11 _ h => ?_)
    refine x_icmp_ge C 37 67 74 rfl rfl (fun c12 => ?_) (fun c12 => ?_)
    · replace h := h.1 c12
      refine x_iconst (v := (0 : Int32)) C 40 74 rfl (by decide) ?_
      refine x_iadd C 41 75 rfl ?_
      refine x_topi (fun y13 ey13 => ?_)
      replace h := h y13 ey13
      refine x_istore (lv' := [(0, .ref (aS 0)), (1, .int x1), (2, .int x2), (3, .int x3), (4, .int y13), (5, .int q8.2)]) C 42 76 rfl (by decide) [1, 2, 3, 4, 0, 5] rfl ?_
      obtain ⟨y14, ey14⟩ : ∃ y : Int32, y = q8.2 + (1 : Int32) := ⟨_, rfl⟩
      replace h := h y14 ey14
      refine x_iinc (v := y14) (lv' := [(0, .ref (aS 0)), (1, .int x1), (2, .int x2), (3, .int x3), (4, .int y13), (5, .int y14)]) C 43 78 rfl 5 rfl (by rw [ey14]; rfl) (by decide) [1, 2, 3, 4, 5, 0] rfl ?_
      refine x_goto C 44 81 45 rfl rfl ?_
      exact x_sub [0, 1, 2, 3, 4, 5] rfl (hR45 (y13, y14) h)
    · replace h := h.2 c12
      refine x_iconst (v := (1 : Int32)) C 38 70 rfl (by decide) ?_
      refine x_goto C 39 71 75 rfl rfl ?_
      refine x_iadd C 41 75 rfl ?_
      refine x_topi (fun y15 ey15 => ?_)
      replace h := h y15 ey15
      refine x_istore (lv' := [(0, .ref (aS 0)), (1, .int x1), (2, .int x2), (3, .int x3), (4, .int y15), (5, .int q8.2)]) C 42 76 rfl (by decide) [1, 2, 3, 4, 0, 5] rfl ?_
      obtain ⟨y16, ey16⟩ : ∃ y : Int32, y = q8.2 + (1 : Int32) := ⟨_, rfl⟩
      replace h := h y16 ey16
      refine x_iinc (v := y16) (lv' := [(0, .ref (aS 0)), (1, .int x1), (2, .int x2), (3, .int x3), (4, .int y15), (5, .int y16)]) C 43 78 rfl 5 rfl (by rw [ey16]; rfl) (by decide) [1, 2, 3, 4, 5, 0] rfl ?_
      refine x_goto C 44 81 45 rfl rfl ?_
      exact x_sub [0, 1, 2, 3, 4, 5] rfl (hR45 (y15, y16) h)
set_option maxHeartbeats 4000000 in
set_option maxRecDepth 100000 in
theorem w_X10_graph_31 {x : CT} {aS : Nat → Nat} {sS : St} {sL : Int64} {x1 : Int32} {x2 : Int32} {K : Int32 → St → Prop} {E90 : Int32 → Prop} (C : Cx x cX10_graph tb_X10_graph 6 RX10 (Cond.code yX10_graph cX10_graph 6 (some .int) :: wsL_law) ({ frames := 4, cells := 0, slots := 0, locals := 96 } : Room)) (rt : RetI x 0 0 (fun (u : St) => fl [wdS (xk x) aS u sL]) (fun (r : Int32) (u : St) => K r u)) (hE90 : ∀ q : Int32, E90 q → Wx x 6 0 0 (fl [wdS (xk x) aS sS sL]) [(0, .ref (aS 0)), (2, .int x2), (3, .int q)] 90 []) {q6 : Int32} (h : Lp (F_X10_graph_31 sS sL x1 K E90) q6) : Wx x 6 0 0 (fl [wdS (xk x) aS sS sL]) [(0, .ref (aS 0)), (1, .int x1), (2, .int x2), (3, .int q6)] 31 [] := by
  refine lp_walk (P := fun q6 => Wx x 6 0 0 (fl [wdS (xk x) aS sS sL]) [(0, .ref (aS 0)), (1, .int x1), (2, .int x2), (3, .int q6)] 31 []) (fun q6 R31 hR31 h => ?_) h
  refine x_iload_n C 18 31 rfl 3 rfl rfl ?_
  refine x_aload_n C 19 32 rfl 0 rfl rfl ?_
  refine x_get (v := .int (sS 22 0)) C 20 33 rfl fi_X10 0 rfl rfl 22 (by decide) (mc wq_22_8) rfl ?_
  refine x_icmp_ge C 21 36 175 rfl rfl (fun c7 => ?_) (fun c7 => ?_)
  · replace h := h.1 c7
    refine x_iconst (v := (-1 : Int32)) C 83 175 rfl (by decide) ?_
    exact x_iret C rt 84 176 rfl sS rfl h
  · replace h := h.2 c7
    refine x_iconst (v := (0 : Int32)) C 22 39 rfl (by decide) ?_
    refine x_istore (lv' := [(0, .ref (aS 0)), (1, .int x1), (2, .int x2), (3, .int q6), (4, .int (0 : Int32))]) C 23 40 rfl (by decide) [1, 2, 3, 4, 0] rfl ?_
    refine x_iconst (v := (0 : Int32)) C 24 42 rfl (by decide) ?_
    refine x_istore (lv' := [(0, .ref (aS 0)), (1, .int x1), (2, .int x2), (3, .int q6), (4, .int (0 : Int32)), (5, .int (0 : Int32))]) C 25 43 rfl (by decide) [1, 2, 3, 4, 5, 0] rfl ?_
    refine x_sub (lv' := [(0, .ref (aS 0)), (1, .int x1), (2, .int x2), (3, .int q6), (4, .int (0 : Int32)), (5, .int (0 : Int32))]) [0, 1, 2, 3, 4, 5] rfl (w_X10_graph_45 C rt (fun q17 h => ?_) h)
    · refine x_iload C 45 84 rfl 4 rfl ?_
      refine x_iload_n C 46 86 rfl 1 rfl rfl ?_
      refine x_icmp_ne C 47 87 169 rfl rfl (fun c18 => ?_) (fun c18 => ?_)
      · replace h := h.2 c18
        obtain ⟨y19, ey19⟩ : ∃ y : Int32, y = q6 + (1 : Int32) := ⟨_, rfl⟩
        replace h := h y19 ey19
        refine x_iinc (v := y19) (lv' := [(0, .ref (aS 0)), (1, .int x1), (2, .int x2), (3, .int y19)]) C 81 169 rfl 3 rfl (by rw [ey19]; rfl) (by decide) [1, 2, 3, 0] rfl ?_
        refine x_goto C 82 172 31 rfl rfl ?_
        exact x_sub [0, 1, 2, 3] rfl (hR31 y19 h)
      · replace h := h.1 c18
        exact x_sub [0, 2, 3] rfl (hE90 q6 h)
set_option maxHeartbeats 4000000 in
set_option maxRecDepth 100000 in
theorem w_X10_graph {x : CT} {aS : Nat → Nat} {sS : St} {sL : Int64} {p1 : Int32} {p2 : Int32} {K : Int32 → St → Prop} (C : Cx x cX10_graph tb_X10_graph 6 RX10 (Cond.code yX10_graph cX10_graph 6 (some .int) :: wsL_law) ({ frames := 4, cells := 0, slots := 0, locals := 96 } : Room)) (rt : RetI x 0 0 (fun (u : St) => fl [wdS (xk x) aS u sL]) (fun (r : Int32) (u : St) => K r u)) (h : wp_X10_graph sS sL p1 p2 K) : Wx x 6 0 0 (fl [wdS (xk x) aS sS sL]) [(0, .ref (aS 0)), (1, .int p1), (2, .int p2)] 0 [] := by
  unfold wp_X10_graph at h
  refine x_iload_n C 0 0 rfl 1 rfl rfl ?_
  refine x_if_lt C 1 1 16 rfl rfl (fun c1 => ?_) (fun c1 => ?_)
  · replace h := h.1 c1
    refine x_iconst (v := (-1 : Int32)) C 8 16 rfl (by decide) ?_
    exact x_iret C rt 9 17 rfl sS rfl h
  · replace h := h.2 c1
    refine x_iload_n C 2 4 rfl 2 rfl rfl ?_
    refine x_i2l C 3 5 rfl ?_
    refine x_lconst (v := (0 : Int64)) C 4 6 rfl (by decide) ?_
    refine x_ldc2 (v := (4 : Int64)) C 5 7 rfl (mc wq_24_12) ?_
    refine x_call0SZ C 6 10 (c_X10_in (xl x) (xD x) (xk x) (xg x) p2.toInt64 (0 : Int64) (4 : Int64) _ h) rfl wwGood (mem3 wq_6_21 wq_6_22 wq_1_5) wq_6_23 3 ok_X10_in rfl ⟨by decide, by decide⟩ (Nat.le_of_ble_eq_true rfl) ⟨Nat.le_refl _, Nat.le_refl _⟩ ⟨rfl, rfl⟩ rfl (fun r2 _ h => ?_)
    refine x_if_ne C 7 13 18 rfl rfl (fun c3 => ?_) (fun c3 => ?_)
    · replace h := h.2 c3
      refine x_aload_n C 10 18 rfl 0 rfl rfl ?_
      refine x_iconst (v := (0 : Int32)) C 11 19 rfl (by decide) ?_
      refine x_callWVZ (ci := 8) (q0 := 0) (q := (RX10, TX10, 34)) C 12 20 (c_X10_layGraphs (xl x) (xD x) (xk x) (xg x) aS sS sL (0 : Int32) _ h) rfl wwGood (mem4 wq_22_9 wq_22_10 wq_22_11 wq_1_5) wq_22_12 1 ok_X10_layGraphs rfl ⟨by decide, by decide⟩ (Nat.le_of_ble_eq_true rfl) ⟨Nat.le_refl _, Nat.le_refl _⟩ ⟨rfl, rfl⟩ rfl rfl rfl (fun r4 u4 h => ?_)
      refine x_if_ne C 13 23 29 rfl rfl (fun c5 => ?_) (fun c5 => ?_)
      · replace h := h.2 c5
        refine x_iconst (v := (0 : Int32)) C 16 29 rfl (by decide) ?_
        refine x_istore_n (lv' := [(0, .ref (aS 0)), (1, .int p1), (2, .int p2), (3, .int (0 : Int32))]) C 17 30 rfl rfl (by decide) [1, 2, 3, 0] rfl ?_
        refine x_sub (lv' := [(0, .ref (aS 0)), (1, .int p1), (2, .int p2), (3, .int (0 : Int32))]) [0, 1, 2, 3] rfl (w_X10_graph_31 C rt (fun q20 h => ?_) h)
        · refine x_iload_n C 48 90 rfl 1 rfl rfl ?_
          by_cases c21 : p2 = (0 : Int32)
          · replace h := h.1 c21
            refine x_tabIn C 49 91 120 0 rfl (0 : Int32) c21 (by decide) (by decide) rfl rfl ?_
            refine x_aload_n C 50 120 rfl 0 rfl rfl ?_
            refine x_get (v := .ref (aS 13)) C 51 121 rfl fi_X10 0 rfl rfl 23 (by decide) (mc wq_5_17) rfl ?_
            refine x_iload_n C 52 124 rfl 2 rfl rfl ?_
            obtain ⟨hi, h⟩ := h
            refine x_iald (f := u4 23) C 53 125 rfl 13 rfl hi ?_
            exact x_iret C rt 54 126 rfl u4 rfl h
          · replace h := h.2 c21
            by_cases c22 : p2 = (1 : Int32)
            · replace h := h.1 c22
              refine x_tabIn C 49 91 127 1 rfl (1 : Int32) c22 (by decide) (by decide) rfl rfl ?_
              refine x_aload_n C 55 127 rfl 0 rfl rfl ?_
              refine x_get (v := .ref (aS 14)) C 56 128 rfl fi_X10 0 rfl rfl 24 (by decide) (mc wq_5_18) rfl ?_
              refine x_iload_n C 57 131 rfl 2 rfl rfl ?_
              obtain ⟨hi, h⟩ := h
              refine x_iald (f := u4 24) C 58 132 rfl 14 rfl hi ?_
              exact x_iret C rt 59 133 rfl u4 rfl h
            · replace h := h.2 c22
              by_cases c23 : p2 = (2 : Int32)
              · replace h := h.1 c23
                refine x_tabIn C 49 91 134 2 rfl (2 : Int32) c23 (by decide) (by decide) rfl rfl ?_
                refine x_aload_n C 60 134 rfl 0 rfl rfl ?_
                refine x_get (v := .ref (aS 15)) C 61 135 rfl fi_X10 0 rfl rfl 25 (by decide) (mc wq_5_19) rfl ?_
                refine x_iload_n C 62 138 rfl 2 rfl rfl ?_
                obtain ⟨hi, h⟩ := h
                refine x_iald (f := u4 25) C 63 139 rfl 15 rfl hi ?_
                exact x_iret C rt 64 140 rfl u4 rfl h
              · replace h := h.2 c23
                by_cases c24 : p2 = (3 : Int32)
                · replace h := h.1 c24
                  refine x_tabIn C 49 91 141 3 rfl (3 : Int32) c24 (by decide) (by decide) rfl rfl ?_
                  refine x_aload_n C 65 141 rfl 0 rfl rfl ?_
                  refine x_iload_n C 66 142 rfl 2 rfl rfl ?_
                  refine x_callWVZ (ci := 8) (q0 := 0) (q := (RX10, TX10, 34)) C 67 143 (c_X10_isRound (xl x) (xD x) (xk x) (xg x) aS u4 sL q20 _ h) rfl wwGood (mem4 wq_24_17 wq_24_18 wq_24_19 wq_1_5) wq_24_20 1 ok_X10_isRound rfl ⟨by decide, by decide⟩ (Nat.le_of_ble_eq_true rfl) ⟨Nat.le_refl _, Nat.le_refl _⟩ ⟨rfl, rfl⟩ rfl rfl rfl (fun r25 _ h => ?_)
                  refine x_if_eq C 68 146 153 rfl rfl (fun c26 => ?_) (fun c26 => ?_)
                  · replace h := h.1 c26
                    refine x_iconst (v := (0 : Int32)) C 71 153 rfl (by decide) ?_
                    exact x_iret C rt 72 154 rfl u4 rfl h
                  · replace h := h.2 c26
                    refine x_iconst (v := (1 : Int32)) C 69 149 rfl (by decide) ?_
                    refine x_goto C 70 150 154 rfl rfl ?_
                    exact x_iret C rt 72 154 rfl u4 rfl h
                · replace h := h.2 c24
                  have nc21 := ne_toInt c21
                  have nc22 := ne_toInt c22
                  have nc23 := ne_toInt c23
                  have nc24 := ne_toInt c24
                  refine x_tabOut C 49 91 155 rfl (by have zc21 : (0 : Int32).toInt = 0 := (by decide); rw [zc21] at nc21; have zc22 : (1 : Int32).toInt = 1 := (by decide); rw [zc22] at nc22; have zc23 : (2 : Int32).toInt = 2 := (by decide); rw [zc23] at nc23; have zc24 : (3 : Int32).toInt = 3 := (by decide); rw [zc24] at nc24; omega) rfl ?_
                  refine x_aload_n C 73 155 rfl 0 rfl rfl ?_
                  refine x_iload_n C 74 156 rfl 2 rfl rfl ?_
                  refine x_callWVZ (ci := 8) (q0 := 0) (q := (RX10, TX10, 34)) C 75 157 (c_X10_isBad (xl x) (xD x) (xk x) (xg x) aS u4 sL q20 _ h) rfl wwGood (mem4 wq_24_21 wq_24_22 wq_24_23 wq_1_5) wq_25_0 1 ok_X10_isBad rfl ⟨by decide, by decide⟩ (Nat.le_of_ble_eq_true rfl) ⟨Nat.le_refl _, Nat.le_refl _⟩ ⟨rfl, rfl⟩ rfl rfl rfl (fun r27 _ h => ?_)
                  refine x_if_eq C 76 160 167 rfl rfl (fun c28 => ?_) (fun c28 => ?_)
                  · replace h := h.1 c28
                    refine x_iconst (v := (0 : Int32)) C 79 167 rfl (by decide) ?_
                    exact x_iret C rt 80 168 rfl u4 rfl h
                  · replace h := h.2 c28
                    refine x_iconst (v := (1 : Int32)) C 77 163 rfl (by decide) ?_
                    refine x_goto C 78 164 168 rfl rfl ?_
                    exact x_iret C rt 80 168 rfl u4 rfl h
      · replace h := h.1 c5
        refine x_bipush (v := (-2 : Int32)) C 14 26 rfl (by decide) ?_
        exact x_iret C rt 15 28 rfl u4 rfl h
    · replace h := h.1 c3
      refine x_iconst (v := (-1 : Int32)) C 8 16 rfl (by decide) ?_
      exact x_iret C rt 9 17 rfl sS rfl h
theorem c_X10_graph (l : Launch) (D : va_G) (k : ClassId × ClassId) (g : Nat → Nat) (aS : Nat → Nat) (sS : St) (sL : Int64) (p1 : Int32) (p2 : Int32) (K : Int32 → St → Prop) (h : wp_X10_graph sS sL p1 p2 K) : ConI l yX10_graph (Cond.code yX10_graph cX10_graph 6 (some .int) :: wsL_law) ({ frames := 4, cells := 0, slots := 0, locals := 96 } : Room) D k g [.ref (aS 0), .int p1, .int p2] (fl [wdS k aS sS sL]) (fun (u : St) => fl [wdS k aS u sL]) (fun (r : Int32) (u : St) => K r u) := by
  refine ConI.of (tb := tb_X10_graph) (cc := cX10_graph) (nL := 6) (by decide) rfl tbk_X10_graph (Nat.le_of_ble_eq_true rfl) ?_
  intro x hl hD hk hg C rt
  subst hl hD hk hg
  exact w_X10_graph C rt h
set_option maxHeartbeats 4000000 in
set_option maxRecDepth 100000 in
theorem w_X10_ends {x : CT} {aS : Nat → Nat} {sS : St} {sL : Int64} {p1 : Int32} {K : Int32 → St → Prop} (C : Cx x cX10_ends tb_X10_ends 2 RX10 (Cond.code yX10_ends cX10_ends 2 (some .int) :: wsL_law) ({ frames := 5, cells := 0, slots := 0, locals := 119 } : Room)) (rt : RetI x 0 0 (fun (u : St) => fl [wdS (xk x) aS u sL]) (fun (r : Int32) (u : St) => K r u)) (h : wp_X10_ends sS sL p1 K) : Wx x 2 0 0 (fl [wdS (xk x) aS sS sL]) [(0, .ref (aS 0)), (1, .int p1)] 0 [] := by
  unfold wp_X10_ends at h
  refine x_iload_n C 0 0 rfl 1 rfl rfl ?_
  refine x_i2l C 1 1 rfl ?_
  refine x_ldc2 (v := (-1 : Int64)) C 2 2 rfl (mc wq_26_2) ?_
  refine x_ldc2 (v := (3 : Int64)) C 3 5 rfl (mc wq_16_15) ?_
  refine x_call0SZ C 4 8 (c_X10_in (xl x) (xD x) (xk x) (xg x) p1.toInt64 (-1 : Int64) (3 : Int64) _ h) rfl wwGood (mem3 wq_6_21 wq_6_22 wq_1_5) wq_6_23 3 ok_X10_in rfl ⟨by decide, by decide⟩ (Nat.le_of_ble_eq_true rfl) ⟨Nat.le_refl _, Nat.le_refl _⟩ ⟨rfl, rfl⟩ rfl (fun r1 _ h => ?_)
  refine x_if_ne C 5 11 16 rfl rfl (fun c2 => ?_) (fun c2 => ?_)
  · replace h := h.2 c2
    refine x_aload_n C 8 16 rfl 0 rfl rfl ?_
    refine x_iconst (v := (0 : Int32)) C 9 17 rfl (by decide) ?_
    refine x_callWVZ (ci := 8) (q0 := 0) (q := (RX10, TX10, 34)) C 10 18 (c_X10_layGraphs (xl x) (xD x) (xk x) (xg x) aS sS sL (0 : Int32) _ h) rfl wwGood (mem4 wq_22_9 wq_22_10 wq_22_11 wq_1_5) wq_22_12 1 ok_X10_layGraphs rfl ⟨by decide, by decide⟩ (Nat.le_of_ble_eq_true rfl) ⟨Nat.le_refl _, Nat.le_refl _⟩ ⟨rfl, rfl⟩ rfl rfl rfl (fun r3 u3 h => ?_)
    refine x_if_ne C 11 21 29 rfl rfl (fun c4 => ?_) (fun c4 => ?_)
    · replace h := h.2 c4
      refine x_aload_n C 14 29 rfl 0 rfl rfl ?_
      refine x_iload_n C 15 30 rfl 1 rfl rfl ?_
      refine x_callWVZ (ci := 8) (q0 := 0) (q := (RX10, TX10, 34)) C 16 31 (c_X10_noneBad (xl x) (xD x) (xk x) (xg x) aS u3 sL p1 _ h) rfl wwGood (mem4 wq_26_3 wq_26_4 wq_26_5 wq_1_5) wq_26_6 1 ok_X10_noneBad rfl ⟨by decide, by decide⟩ (Nat.le_of_ble_eq_true rfl) ⟨Nat.le_refl _, Nat.le_refl _⟩ ⟨rfl, rfl⟩ rfl rfl rfl (fun r5 _ h => ?_)
      refine x_if_eq C 17 34 41 rfl rfl (fun c6 => ?_) (fun c6 => ?_)
      · replace h := h.1 c6
        refine x_iconst (v := (0 : Int32)) C 20 41 rfl (by decide) ?_
        exact x_iret C rt 21 42 rfl u3 rfl h
      · replace h := h.2 c6
        refine x_iconst (v := (1 : Int32)) C 18 37 rfl (by decide) ?_
        refine x_goto C 19 38 42 rfl rfl ?_
        exact x_iret C rt 21 42 rfl u3 rfl h
    · replace h := h.1 c4
      refine x_bipush (v := (-2 : Int32)) C 12 24 rfl (by decide) ?_
      refine x_goto C 13 26 42 rfl rfl ?_
      exact x_iret C rt 21 42 rfl u3 rfl h
  · replace h := h.1 c2
    refine x_iconst (v := (-1 : Int32)) C 6 14 rfl (by decide) ?_
    exact x_iret C rt 7 15 rfl sS rfl h
theorem c_X10_ends (l : Launch) (D : va_G) (k : ClassId × ClassId) (g : Nat → Nat) (aS : Nat → Nat) (sS : St) (sL : Int64) (p1 : Int32) (K : Int32 → St → Prop) (h : wp_X10_ends sS sL p1 K) : ConI l yX10_ends (Cond.code yX10_ends cX10_ends 2 (some .int) :: wsL_law) ({ frames := 5, cells := 0, slots := 0, locals := 119 } : Room) D k g [.ref (aS 0), .int p1] (fl [wdS k aS sS sL]) (fun (u : St) => fl [wdS k aS u sL]) (fun (r : Int32) (u : St) => K r u) := by
  refine ConI.of (tb := tb_X10_ends) (cc := cX10_ends) (nL := 2) (by decide) rfl tbk_X10_ends (Nat.le_of_ble_eq_true rfl) ?_
  intro x hl hD hk hg C rt
  subst hl hD hk hg
  exact w_X10_ends C rt h
set_option maxHeartbeats 4000000 in
set_option maxRecDepth 100000 in
theorem w_X10_layShortest_2 {x : CT} {aS : Nat → Nat} {sL : Int64} {K : Int32 → St → Prop} {E24 : St → Prop} (C : Cx x cX10_layShortest tb_X10_layShortest 6 RX10 (Cond.code yX10_layShortest cX10_layShortest 6 (some .int) :: wsL_law) ({ frames := 4, cells := 0, slots := 0, locals := 96 } : Room)) (rt : RetI x 0 0 (fun (u : St) => fl [wdS (xk x) aS u sL]) (fun (r : Int32) (u : St) => K r u)) (hE24 : ∀ q : St, E24 q → Wx x 6 0 0 (fl [wdS (xk x) aS q sL]) [(0, .ref (aS 0))] 24 []) {q1 : Int32 × St} (h : Lp (F_X10_layShortest_2 E24) q1) : Wx x 6 0 0 (fl [wdS (xk x) aS q1.2 sL]) [(0, .ref (aS 0)), (1, .int q1.1)] 2 [] := by
  refine lp_walk (P := fun q1 => Wx x 6 0 0 (fl [wdS (xk x) aS q1.2 sL]) [(0, .ref (aS 0)), (1, .int q1.1)] 2 []) (fun q1 R2 hR2 h => ?_) h
  refine x_iload_n C 2 2 rfl 1 rfl rfl ?_
  refine x_aload_n C 3 3 rfl 0 rfl rfl ?_
  refine x_get (v := .int (q1.2 22 0)) C 4 4 rfl fi_X10 0 rfl rfl 22 (by decide) (mc wq_22_8) rfl ?_
  refine x_icmp_ge C 5 7 24 rfl rfl (fun c2 => ?_) (fun c2 => ?_)
  · replace h := h.1 c2
    exact x_sub [0] rfl (hE24 q1.2 h)
  · replace h := h.2 c2
    refine x_aload_n C 6 10 rfl 0 rfl rfl ?_
    refine x_get (v := .ref (aS 18)) C 7 11 rfl fi_X10 0 rfl rfl 29 (by decide) (mc wq_5_23) rfl ?_
    refine x_iload_n C 8 14 rfl 1 rfl rfl ?_
    refine x_bipush (v := (-9 : Int32)) C 9 15 rfl (by decide) ?_
    obtain ⟨hi, h⟩ := h
    obtain ⟨z3, ez3⟩ : ∃ z : St, z = ua q1.2 29 q1.1 (-9 : Int32) := ⟨_, rfl⟩
    replace h := h z3 ez3
    refine x_iast (f := q1.2 29) (ws' := fl [wdS (xk x) aS z3 sL]) C 10 17 rfl 18 rfl hi (by rw [ez3]; rfl) ?_
    obtain ⟨y4, ey4⟩ : ∃ y : Int32, y = q1.1 + (1 : Int32) := ⟨_, rfl⟩
    replace h := h y4 ey4
    refine x_iinc (v := y4) (lv' := [(0, .ref (aS 0)), (1, .int y4)]) C 11 18 rfl 1 rfl (by rw [ey4]; rfl) (by decide) [1, 0] rfl ?_
    refine x_goto C 12 21 2 rfl rfl ?_
    exact x_sub [0, 1] rfl (hR2 (y4, z3) h)
set_option maxHeartbeats 4000000 in
set_option maxRecDepth 100000 in
theorem w_X10_layShortest_31 {x : CT} {aS : Nat → Nat} {sL : Int64} {K : Int32 → St → Prop} {E72 : St → Prop} (C : Cx x cX10_layShortest tb_X10_layShortest 6 RX10 (Cond.code yX10_layShortest cX10_layShortest 6 (some .int) :: wsL_law) ({ frames := 4, cells := 0, slots := 0, locals := 96 } : Room)) (rt : RetI x 0 0 (fun (u : St) => fl [wdS (xk x) aS u sL]) (fun (r : Int32) (u : St) => K r u)) (hE72 : ∀ q : St, E72 q → Wx x 6 0 0 (fl [wdS (xk x) aS q sL]) [(0, .ref (aS 0))] 72 []) {q7 : Int32 × St} (h : Lp (F_X10_layShortest_31 sL E72) q7) : Wx x 6 0 0 (fl [wdS (xk x) aS q7.2 sL]) [(0, .ref (aS 0)), (1, .int q7.1)] 31 [] := by
  refine lp_walk (P := fun q7 => Wx x 6 0 0 (fl [wdS (xk x) aS q7.2 sL]) [(0, .ref (aS 0)), (1, .int q7.1)] 31 []) (fun q7 R31 hR31 h => ?_) h
  refine x_iload_n C 18 31 rfl 1 rfl rfl ?_
  refine x_if_lt C 19 32 72 rfl rfl (fun c8 => ?_) (fun c8 => ?_)
  · replace h := h.1 c8
    exact x_sub [0] rfl (hE72 q7.2 h)
  · replace h := h.2 c8
    refine x_aload_n C 20 35 rfl 0 rfl rfl ?_
    refine x_get (v := .ref (aS 18)) C 21 36 rfl fi_X10 0 rfl rfl 29 (by decide) (mc wq_5_23) rfl ?_
    refine x_aload_n C 22 39 rfl 0 rfl rfl ?_
    refine x_get (v := .ref (aS 17)) C 23 40 rfl fi_X10 0 rfl rfl 28 (by decide) (mc wq_5_22) rfl ?_
    refine x_aload_n C 24 43 rfl 0 rfl rfl ?_
    refine x_get (v := .ref (aS 3)) C 25 44 rfl fi_X10 0 rfl rfl 4 (by decide) (mc wq_5_5) rfl ?_
    refine x_iload_n C 26 47 rfl 1 rfl rfl ?_
    obtain ⟨hi, h⟩ := h
    refine x_iald (f := q7.2 4) C 27 48 rfl 3 rfl hi ?_
    refine x_aload_n C 28 49 rfl 0 rfl rfl ?_
    refine x_get (v := .ref (aS 4)) C 29 50 rfl fi_X10 0 rfl rfl 5 (by decide) (mc wq_5_6) rfl ?_
    refine x_iload_n C 30 53 rfl 1 rfl rfl ?_
    obtain ⟨hi, h⟩ := h
    refine x_iald (f := q7.2 5) C 31 54 rfl 4 rfl hi ?_
    refine x_aload_n C 32 55 rfl 0 rfl rfl ?_
    refine x_iload_n C 33 56 rfl 1 rfl rfl ?_
    refine x_callWVI (ci := 8) (q0 := 0) (q := (RX10, TX10, 34)) C 34 57 (c_X10_numberOf (xl x) (xD x) (xk x) (xg x) aS q7.2 sL q7.1 _ h) rfl wwGood (mem4 wq_17_15 wq_17_16 wq_17_17 wq_1_5) wq_17_18 1 ok_X10_numberOf rfl ⟨by decide, by decide⟩ (Nat.le_of_ble_eq_true rfl) ⟨Nat.le_refl _, Nat.le_refl _⟩ ⟨rfl, rfl⟩ rfl rfl rfl (fun r9 _ h => ?_)
    refine x_call0SI C 35 60 (c_X10_codeOf (xl x) (xD x) (xk x) (xg x) (q7.2 4 q7.1.toNatClampNeg) (q7.2 5 q7.1.toNatClampNeg) r9 _ h) rfl wwGood (mem3 wq_22_22 wq_22_23 wq_1_5) wq_23_0 3 ok_X10_codeOf rfl ⟨by decide, by decide⟩ (Nat.le_of_ble_eq_true rfl) ⟨Nat.le_refl _, Nat.le_refl _⟩ ⟨rfl, rfl⟩ rfl (fun r10 _ h => ?_)
    obtain ⟨hi, h⟩ := h
    refine x_iald (f := q7.2 28) C 36 63 rfl 17 rfl hi ?_
    refine x_iload_n C 37 64 rfl 1 rfl rfl ?_
    obtain ⟨hi, h⟩ := h
    obtain ⟨z11, ez11⟩ : ∃ z : St, z = ua q7.2 29 (q7.2 28 r10.toNatClampNeg) q7.1 := ⟨_, rfl⟩
    replace h := h z11 ez11
    refine x_iast (f := q7.2 29) (ws' := fl [wdS (xk x) aS z11 sL]) C 38 65 rfl 18 rfl hi (by rw [ez11]; rfl) ?_
    obtain ⟨y12, ey12⟩ : ∃ y : Int32, y = q7.1 + (-1 : Int32) := ⟨_, rfl⟩
    replace h := h y12 ey12
    refine x_iinc (v := y12) (lv' := [(0, .ref (aS 0)), (1, .int y12)]) C 39 66 rfl 1 rfl (by rw [ey12]; rfl) (by decide) [1, 0] rfl ?_
    refine x_goto C 40 69 31 rfl rfl ?_
    exact x_sub [0, 1] rfl (hR31 (y12, z11) h)
set_option maxHeartbeats 4000000 in
set_option maxRecDepth 100000 in
theorem wj_X10_layShortest_125 {x : CT} {aS : Nat → Nat} {sS : St} {sL : Int64} {x1 : Int32} {x2 : Int32} {K : Int32 → St → Prop} {R88 : Int32 × St → Prop} (C : Cx x cX10_layShortest tb_X10_layShortest 6 RX10 (Cond.code yX10_layShortest cX10_layShortest 6 (some .int) :: wsL_law) ({ frames := 4, cells := 0, slots := 0, locals := 96 } : Room)) (rt : RetI x 0 0 (fun (u : St) => fl [wdS (xk x) aS u sL]) (fun (r : Int32) (u : St) => K r u)) (hR88 : ∀ q : Int32 × St, R88 q → Wx x 6 0 0 (fl [wdS (xk x) aS q.2 sL]) [(0, .ref (aS 0)), (1, .int x1), (2, .int q.1)] 88 []) (h : J_X10_layShortest_125 sS sL x2 R88) : Wx x 6 0 0 (fl [wdS (xk x) aS sS sL]) [(0, .ref (aS 0)), (1, .int x1), (2, .int x2)] 125 [] := by
  unfold J_X10_layShortest_125 at h
  refine x_aload_n C 70 125 rfl 0 rfl rfl ?_
  refine x_iload_n C 71 126 rfl 2 rfl rfl ?_
  refine x_callWVZ (ci := 8) (q0 := 0) (q := (RX10, TX10, 34)) C 72 127 (c_X10_isBad (xl x) (xD x) (xk x) (xg x) aS sS sL x2 _ h) rfl wwGood (mem4 wq_24_21 wq_24_22 wq_24_23 wq_1_5) wq_25_0 1 ok_X10_isBad rfl ⟨by decide, by decide⟩ (Nat.le_of_ble_eq_true rfl) ⟨Nat.le_refl _, Nat.le_refl _⟩ ⟨rfl, rfl⟩ rfl rfl rfl (fun r22 _ h => ?_)
  refine x_if_eq C 73 130 143 rfl rfl (fun c23 => ?_) (fun c23 => ?_)
  · replace h := h.1 c23
    obtain ⟨y24, ey24⟩ : ∃ y : Int32, y = x2 + (1 : Int32) := ⟨_, rfl⟩
    replace h := h y24 ey24
    refine x_iinc (v := y24) (lv' := [(0, .ref (aS 0)), (1, .int x1), (2, .int y24)]) C 80 143 rfl 2 rfl (by rw [ey24]; rfl) (by decide) [1, 2, 0] rfl ?_
    refine x_goto C 81 146 88 rfl rfl ?_
    exact x_sub [0, 1, 2] rfl (hR88 (y24, sS) h)
  · replace h := h.2 c23
    refine x_aload_n C 74 133 rfl 0 rfl rfl ?_
    refine x_aload_n C 75 134 rfl 0 rfl rfl ?_
    refine x_get (v := .ref (aS 18)) C 76 135 rfl fi_X10 0 rfl rfl 29 (by decide) (mc wq_5_23) rfl ?_
    refine x_iload_n C 77 138 rfl 2 rfl rfl ?_
    obtain ⟨hi, h⟩ := h
    refine x_iald (f := sS 29) C 78 139 rfl 18 rfl hi ?_
    obtain ⟨z25, ez25⟩ : ∃ z : St, z = us sS 31 (sS 29 x2.toNatClampNeg) := ⟨_, rfl⟩
    replace h := h z25 ez25
    refine x_put (ws' := fl [wdS (xk x) aS z25 sL]) C 79 140 rfl fi_X10 tyX10 tyX10_ok nmX10 0 rfl rfl 31 (by decide) (mc wq_27_1) rfl rfl rfl (Nat.le_of_ble_eq_true rfl) (by rw [ez25]; rfl) ?_
    obtain ⟨y26, ey26⟩ : ∃ y : Int32, y = x2 + (1 : Int32) := ⟨_, rfl⟩
    replace h := h y26 ey26
    refine x_iinc (v := y26) (lv' := [(0, .ref (aS 0)), (1, .int x1), (2, .int y26)]) C 80 143 rfl 2 rfl (by rw [ey26]; rfl) (by decide) [1, 2, 0] rfl ?_
    refine x_goto C 81 146 88 rfl rfl ?_
    exact x_sub [0, 1, 2] rfl (hR88 (y26, z25) h)
set_option maxHeartbeats 4000000 in
set_option maxRecDepth 100000 in
theorem w_X10_layShortest_88 {x : CT} {aS : Nat → Nat} {sL : Int64} {x1 : Int32} {K : Int32 → St → Prop} {E149 : St → Prop} (C : Cx x cX10_layShortest tb_X10_layShortest 6 RX10 (Cond.code yX10_layShortest cX10_layShortest 6 (some .int) :: wsL_law) ({ frames := 4, cells := 0, slots := 0, locals := 96 } : Room)) (rt : RetI x 0 0 (fun (u : St) => fl [wdS (xk x) aS u sL]) (fun (r : Int32) (u : St) => K r u)) (hE149 : ∀ q : St, E149 q → Wx x 6 0 0 (fl [wdS (xk x) aS q sL]) [(0, .ref (aS 0)), (1, .int x1)] 149 []) {q17 : Int32 × St} (h : Lp (F_X10_layShortest_88 sL E149) q17) : Wx x 6 0 0 (fl [wdS (xk x) aS q17.2 sL]) [(0, .ref (aS 0)), (1, .int x1), (2, .int q17.1)] 88 [] := by
  refine lp_walk (P := fun q17 => Wx x 6 0 0 (fl [wdS (xk x) aS q17.2 sL]) [(0, .ref (aS 0)), (1, .int x1), (2, .int q17.1)] 88 []) (fun q17 R88 hR88 h => ?_) h
  refine x_iload_n C 51 88 rfl 2 rfl rfl ?_
  refine x_aload_n C 52 89 rfl 0 rfl rfl ?_
  refine x_get (v := .int (q17.2 22 0)) C 53 90 rfl fi_X10 0 rfl rfl 22 (by decide) (mc wq_22_8) rfl ?_
  refine x_icmp_ge C 54 93 149 rfl rfl (fun c18 => ?_) (fun c18 => ?_)
  · replace h := h.1 c18
    exact x_sub [0, 1] rfl (hE149 q17.2 h)
  · replace h := h.2 c18
    refine x_aload_n C 55 96 rfl 0 rfl rfl ?_
    refine x_get (v := .ref (aS 18)) C 56 97 rfl fi_X10 0 rfl rfl 29 (by decide) (mc wq_5_23) rfl ?_
    refine x_iload_n C 57 100 rfl 2 rfl rfl ?_
    obtain ⟨hi, h⟩ := h
    refine x_iald (f := q17.2 29) C 58 101 rfl 18 rfl hi ?_
    refine x_if_lt C 59 102 143 rfl rfl (fun c19 => ?_) (fun c19 => ?_)
    · replace h := h.1 c19
      obtain ⟨y20, ey20⟩ : ∃ y : Int32, y = q17.1 + (1 : Int32) := ⟨_, rfl⟩
      replace h := h y20 ey20
      refine x_iinc (v := y20) (lv' := [(0, .ref (aS 0)), (1, .int x1), (2, .int y20)]) C 80 143 rfl 2 rfl (by rw [ey20]; rfl) (by decide) [1, 2, 0] rfl ?_
      refine x_goto C 81 146 88 rfl rfl ?_
      exact x_sub [0, 1, 2] rfl (hR88 (y20, q17.2) h)
    · replace h := h.2 c19
      refine x_aload_n C 60 105 rfl 0 rfl rfl ?_
      refine x_get (v := .int (q17.2 31 0)) C 61 106 rfl fi_X10 0 rfl rfl 31 (by decide) (mc wq_27_1) rfl ?_
      refine x_if_lt C 62 109 125 rfl rfl (fun c21 => ?_) (fun c21 => ?_)
      · replace h := h.1 c21
        exact x_sub (lv' := [(0, .ref (aS 0)), (1, .int x1), (2, .int q17.1)]) [0, 1, 2] rfl (wj_X10_layShortest_125 C rt hR88 h)
      · replace h := h.2 c21
        refine x_aload_n C 63 112 rfl 0 rfl rfl ?_
        refine x_get (v := .ref (aS 18)) C 64 113 rfl fi_X10 0 rfl rfl 29 (by decide) (mc wq_5_23) rfl ?_
        refine x_iload_n C 65 116 rfl 2 rfl rfl ?_
        obtain ⟨hi, h⟩ := h
        refine x_iald (f := q17.2 29) C 66 117 rfl 18 rfl hi ?_
        refine x_aload_n C 67 118 rfl 0 rfl rfl ?_
        refine x_get (v := .int (q17.2 31 0)) C 68 119 rfl fi_X10 0 rfl rfl 31 (by decide) (mc wq_27_1) rfl ?_
        refine x_icmp_ge C 69 122 143 rfl rfl (fun c27 => ?_) (fun c27 => ?_)
        · replace h := h.1 c27
          obtain ⟨y28, ey28⟩ : ∃ y : Int32, y = q17.1 + (1 : Int32) := ⟨_, rfl⟩
          replace h := h y28 ey28
          refine x_iinc (v := y28) (lv' := [(0, .ref (aS 0)), (1, .int x1), (2, .int y28)]) C 80 143 rfl 2 rfl (by rw [ey28]; rfl) (by decide) [1, 2, 0] rfl ?_
          refine x_goto C 81 146 88 rfl rfl ?_
          exact x_sub [0, 1, 2] rfl (hR88 (y28, q17.2) h)
        · replace h := h.2 c27
          exact x_sub (lv' := [(0, .ref (aS 0)), (1, .int x1), (2, .int q17.1)]) [0, 1, 2] rfl (wj_X10_layShortest_125 C rt hR88 h)
set_option maxHeartbeats 4000000 in
set_option maxRecDepth 100000 in
theorem w_X10_layShortest_160 {x : CT} {aS : Nat → Nat} {sL : Int64} {x1 : Int32} {K : Int32 → St → Prop} {E182 : St → Prop} (C : Cx x cX10_layShortest tb_X10_layShortest 6 RX10 (Cond.code yX10_layShortest cX10_layShortest 6 (some .int) :: wsL_law) ({ frames := 4, cells := 0, slots := 0, locals := 96 } : Room)) (rt : RetI x 0 0 (fun (u : St) => fl [wdS (xk x) aS u sL]) (fun (r : Int32) (u : St) => K r u)) (hE182 : ∀ q : St, E182 q → Wx x 6 0 0 (fl [wdS (xk x) aS q sL]) [(0, .ref (aS 0)), (1, .int x1)] 182 []) {q31 : Int32 × St} (h : Lp (F_X10_layShortest_160 E182) q31) : Wx x 6 0 0 (fl [wdS (xk x) aS q31.2 sL]) [(0, .ref (aS 0)), (1, .int x1), (2, .int q31.1)] 160 [] := by
  refine lp_walk (P := fun q31 => Wx x 6 0 0 (fl [wdS (xk x) aS q31.2 sL]) [(0, .ref (aS 0)), (1, .int x1), (2, .int q31.1)] 160 []) (fun q31 R160 hR160 h => ?_) h
  refine x_iload_n C 89 160 rfl 2 rfl rfl ?_
  refine x_aload_n C 90 161 rfl 0 rfl rfl ?_
  refine x_get (v := .int (q31.2 22 0)) C 91 162 rfl fi_X10 0 rfl rfl 22 (by decide) (mc wq_22_8) rfl ?_
  refine x_icmp_ge C 92 165 182 rfl rfl (fun c32 => ?_) (fun c32 => ?_)
  · replace h := h.1 c32
    exact x_sub [0, 1] rfl (hE182 q31.2 h)
  · replace h := h.2 c32
    refine x_aload_n C 93 168 rfl 0 rfl rfl ?_
    refine x_get (v := .ref (aS 19)) C 94 169 rfl fi_X10 0 rfl rfl 30 (by decide) (mc wq_6_0) rfl ?_
    refine x_iload_n C 95 172 rfl 2 rfl rfl ?_
    refine x_bipush (v := (-9 : Int32)) C 96 173 rfl (by decide) ?_
    obtain ⟨hi, h⟩ := h
    obtain ⟨z33, ez33⟩ : ∃ z : St, z = ua q31.2 30 q31.1 (-9 : Int32) := ⟨_, rfl⟩
    replace h := h z33 ez33
    refine x_iast (f := q31.2 30) (ws' := fl [wdS (xk x) aS z33 sL]) C 97 175 rfl 19 rfl hi (by rw [ez33]; rfl) ?_
    obtain ⟨y34, ey34⟩ : ∃ y : Int32, y = q31.1 + (1 : Int32) := ⟨_, rfl⟩
    replace h := h y34 ey34
    refine x_iinc (v := y34) (lv' := [(0, .ref (aS 0)), (1, .int x1), (2, .int y34)]) C 98 176 rfl 2 rfl (by rw [ey34]; rfl) (by decide) [1, 2, 0] rfl ?_
    refine x_goto C 99 179 160 rfl rfl ?_
    exact x_sub [0, 1, 2] rfl (hR160 (y34, z33) h)
set_option maxHeartbeats 4000000 in
set_option maxRecDepth 100000 in
theorem w_X10_layShortest_194 {x : CT} {aS : Nat → Nat} {sL : Int64} {x1 : Int32} {x2 : Int32} {K : Int32 → St → Prop} {R184 : Int32 × St → Prop} (C : Cx x cX10_layShortest tb_X10_layShortest 6 RX10 (Cond.code yX10_layShortest cX10_layShortest 6 (some .int) :: wsL_law) ({ frames := 4, cells := 0, slots := 0, locals := 96 } : Room)) (rt : RetI x 0 0 (fun (u : St) => fl [wdS (xk x) aS u sL]) (fun (r : Int32) (u : St) => K r u)) (hR184 : ∀ q : Int32 × St, R184 q → Wx x 6 0 0 (fl [wdS (xk x) aS q.2 sL]) [(0, .ref (aS 0)), (1, .int x1), (2, .int q.1)] 184 []) {q38 : Int32 × St} (h : Lp (F_X10_layShortest_194 sL x2 R184) q38) : Wx x 6 0 0 (fl [wdS (xk x) aS q38.2 sL]) [(0, .ref (aS 0)), (1, .int x1), (2, .int x2), (3, .int q38.1)] 194 [] := by
  refine lp_walk (P := fun q38 => Wx x 6 0 0 (fl [wdS (xk x) aS q38.2 sL]) [(0, .ref (aS 0)), (1, .int x1), (2, .int x2), (3, .int q38.1)] 194 []) (fun q38 R194 hR194 h => ?_) h
  refine x_iload_n C 108 194 rfl 3 rfl rfl ?_
  refine x_aload_n C 109 195 rfl 0 rfl rfl ?_
  refine x_get (v := .int (q38.2 3 0)) C 110 196 rfl fi_X10 0 rfl rfl 3 (by decide) (mc wq_14_4) rfl ?_
  refine x_icmp_ge C 111 199 323 rfl rfl (fun c39 => ?_) (fun c39 => ?_)
  · replace h := h.1 c39
    obtain ⟨y40, ey40⟩ : ∃ y : Int32, y = x2 + (1 : Int32) := ⟨_, rfl⟩
    replace h := h y40 ey40
    refine x_iinc (v := y40) (lv' := [(0, .ref (aS 0)), (1, .int x1), (2, .int y40)]) C 180 323 rfl 2 rfl (by rw [ey40]; rfl) (by decide) [1, 2, 0] rfl ?_
    refine x_goto C 181 326 184 rfl rfl ?_
    exact x_sub [0, 1, 2] rfl (hR184 (y40, q38.2) h)
  · replace h := h.2 c39
    refine x_aload_n C 112 202 rfl 0 rfl rfl ?_
    refine x_get (v := .ref (aS 18)) C 113 203 rfl fi_X10 0 rfl rfl 29 (by decide) (mc wq_5_23) rfl ?_
    refine x_iload_n C 114 206 rfl 2 rfl rfl ?_
    obtain ⟨hi, h⟩ := h
    refine x_iald (f := q38.2 29) C 115 207 rfl 18 rfl hi ?_
    refine x_if_lt C 116 208 323 rfl rfl (fun c41 => ?_) (fun c41 => ?_)
    · replace h := h.1 c41
      obtain ⟨y42, ey42⟩ : ∃ y : Int32, y = x2 + (1 : Int32) := ⟨_, rfl⟩
      replace h := h y42 ey42
      refine x_iinc (v := y42) (lv' := [(0, .ref (aS 0)), (1, .int x1), (2, .int y42)]) C 180 323 rfl 2 rfl (by rw [ey42]; rfl) (by decide) [1, 2, 0] rfl ?_
      refine x_goto C 181 326 184 rfl rfl ?_
      exact x_sub [0, 1, 2] rfl (hR184 (y42, q38.2) h)
    · replace h := h.2 c41
      refine x_aload_n C 117 211 rfl 0 rfl rfl ?_
      refine x_get (v := .ref (aS 3)) C 118 212 rfl fi_X10 0 rfl rfl 4 (by decide) (mc wq_5_5) rfl ?_
      refine x_iload_n C 119 215 rfl 3 rfl rfl ?_
      obtain ⟨hi, h⟩ := h
      refine x_iald (f := q38.2 4) C 120 216 rfl 3 rfl hi ?_
      refine x_aload_n C 121 217 rfl 0 rfl rfl ?_
      refine x_get (v := .ref (aS 14)) C 122 218 rfl fi_X10 0 rfl rfl 24 (by decide) (mc wq_5_18) rfl ?_
      refine x_iload_n C 123 221 rfl 2 rfl rfl ?_
      obtain ⟨hi, h⟩ := h
      refine x_iald (f := q38.2 24) C 124 222 rfl 14 rfl hi ?_
      refine x_icmp_ne C 125 223 317 rfl rfl (fun c43 => ?_) (fun c43 => ?_)
      · replace h := h.2 c43
        obtain ⟨y44, ey44⟩ : ∃ y : Int32, y = q38.1 + (1 : Int32) := ⟨_, rfl⟩
        replace h := h y44 ey44
        refine x_iinc (v := y44) (lv' := [(0, .ref (aS 0)), (1, .int x1), (2, .int x2), (3, .int y44)]) C 178 317 rfl 3 rfl (by rw [ey44]; rfl) (by decide) [1, 2, 3, 0] rfl ?_
        refine x_goto C 179 320 194 rfl rfl ?_
        exact x_sub [0, 1, 2, 3] rfl (hR194 (y44, q38.2) h)
      · replace h := h.1 c43
        refine x_aload_n C 126 226 rfl 0 rfl rfl ?_
        refine x_get (v := .ref (aS 17)) C 127 227 rfl fi_X10 0 rfl rfl 28 (by decide) (mc wq_5_22) rfl ?_
        refine x_aload_n C 128 230 rfl 0 rfl rfl ?_
        refine x_get (v := .ref (aS 13)) C 129 231 rfl fi_X10 0 rfl rfl 23 (by decide) (mc wq_5_17) rfl ?_
        refine x_iload_n C 130 234 rfl 2 rfl rfl ?_
        obtain ⟨hi, h⟩ := h
        refine x_iald (f := q38.2 23) C 131 235 rfl 13 rfl hi ?_
        refine x_aload_n C 132 236 rfl 0 rfl rfl ?_
        refine x_get (v := .ref (aS 4)) C 133 237 rfl fi_X10 0 rfl rfl 5 (by decide) (mc wq_5_6) rfl ?_
        refine x_iload_n C 134 240 rfl 3 rfl rfl ?_
        obtain ⟨hi, h⟩ := h
        refine x_iald (f := q38.2 5) C 135 241 rfl 4 rfl hi ?_
        refine x_aload_n C 136 242 rfl 0 rfl rfl ?_
        refine x_aload_n C 137 243 rfl 0 rfl rfl ?_
        refine x_get (v := .ref (aS 15)) C 138 244 rfl fi_X10 0 rfl rfl 25 (by decide) (mc wq_5_19) rfl ?_
        refine x_iload_n C 139 247 rfl 2 rfl rfl ?_
        obtain ⟨hi, h⟩ := h
        refine x_iald (f := q38.2 25) C 140 248 rfl 15 rfl hi ?_
        refine x_aload_n C 141 249 rfl 0 rfl rfl ?_
        refine x_iload_n C 142 250 rfl 3 rfl rfl ?_
        refine x_callWVI (ci := 8) (q0 := 0) (q := (RX10, TX10, 34)) C 143 251 (c_X10_numberOf (xl x) (xD x) (xk x) (xg x) aS q38.2 sL q38.1 _ h) rfl wwGood (mem4 wq_17_15 wq_17_16 wq_17_17 wq_1_5) wq_17_18 1 ok_X10_numberOf rfl ⟨by decide, by decide⟩ (Nat.le_of_ble_eq_true rfl) ⟨Nat.le_refl _, Nat.le_refl _⟩ ⟨rfl, rfl⟩ rfl rfl rfl (fun r45 _ h => ?_)
        refine x_callWVI (ci := 8) (q0 := 0) (q := (RX10, TX10, 34)) C 144 254 (c_X10_put2 (xl x) (xD x) (xk x) (xg x) aS q38.2 sL (q38.2 25 x2.toNatClampNeg) r45 _ h) rfl wwGood (mem4 wq_23_1 wq_23_2 wq_23_3 wq_1_5) wq_23_4 2 ok_X10_put2 rfl ⟨by decide, by decide⟩ (Nat.le_of_ble_eq_true rfl) ⟨Nat.le_refl _, Nat.le_refl _⟩ ⟨rfl, rfl⟩ rfl rfl rfl (fun r46 _ h => ?_)
        refine x_call0SI C 145 257 (c_X10_codeOf (xl x) (xD x) (xk x) (xg x) (q38.2 23 x2.toNatClampNeg) (q38.2 5 q38.1.toNatClampNeg) r46 _ h) rfl wwGood (mem3 wq_22_22 wq_22_23 wq_1_5) wq_23_0 3 ok_X10_codeOf rfl ⟨by decide, by decide⟩ (Nat.le_of_ble_eq_true rfl) ⟨Nat.le_refl _, Nat.le_refl _⟩ ⟨rfl, rfl⟩ rfl (fun r47 _ h => ?_)
        obtain ⟨hi, h⟩ := h
        refine x_iald (f := q38.2 28) C 146 260 rfl 17 rfl hi ?_
        refine x_topi (fun y48 ey48 => ?_)
        replace h := h y48 ey48
        refine x_istore (lv' := [(0, .ref (aS 0)), (1, .int x1), (2, .int x2), (3, .int q38.1), (4, .int y48)]) C 147 261 rfl (by decide) [1, 2, 3, 4, 0] rfl ?_
        refine x_bipush (v := (8 : Int32)) C 148 263 rfl (by decide) ?_
        refine x_aload_n C 149 265 rfl 0 rfl rfl ?_
        refine x_get (v := .ref (aS 18)) C 150 266 rfl fi_X10 0 rfl rfl 29 (by decide) (mc wq_5_23) rfl ?_
        refine x_iload_n C 151 269 rfl 2 rfl rfl ?_
        obtain ⟨hi, h⟩ := h
        refine x_iald (f := q38.2 29) C 152 270 rfl 18 rfl hi ?_
        refine x_imul C 153 271 rfl ?_
        refine x_iload_n C 154 272 rfl 3 rfl rfl ?_
        refine x_iadd C 155 273 rfl ?_
        refine x_topi (fun y49 ey49 => ?_)
        replace h := h y49 ey49
        refine x_istore (lv' := [(0, .ref (aS 0)), (1, .int x1), (2, .int x2), (3, .int q38.1), (4, .int y48), (5, .int y49)]) C 156 274 rfl (by decide) [1, 2, 3, 4, 5, 0] rfl ?_
        refine x_aload_n C 157 276 rfl 0 rfl rfl ?_
        refine x_get (v := .ref (aS 19)) C 158 277 rfl fi_X10 0 rfl rfl 30 (by decide) (mc wq_6_0) rfl ?_
        refine x_iload C 159 280 rfl 4 rfl ?_
        refine x_aload_n C 160 282 rfl 0 rfl rfl ?_
        refine x_get (v := .ref (aS 19)) C 161 283 rfl fi_X10 0 rfl rfl 30 (by decide) (mc wq_6_0) rfl ?_
        refine x_iload C 162 286 rfl 4 rfl ?_
        obtain ⟨hi, h⟩ := h
        refine x_iald (f := q38.2 30) C 163 288 rfl 19 rfl hi ?_
        refine x_if_lt C 164 289 304 rfl rfl (fun c50 => ?_) (fun c50 => ?_)
        · replace h := h.1 c50
          refine x_iload C 171 304 rfl 5 rfl ?_
          refine x_goto C 172 306 316 rfl rfl ?_
          obtain ⟨hi, h⟩ := h
          obtain ⟨z51, ez51⟩ : ∃ z : St, z = ua q38.2 30 y48 y49 := ⟨_, rfl⟩
          replace h := h z51 ez51
          refine x_iast (f := q38.2 30) (ws' := fl [wdS (xk x) aS z51 sL]) C 177 316 rfl 19 rfl hi (by rw [ez51]; rfl) ?_
          obtain ⟨y52, ey52⟩ : ∃ y : Int32, y = q38.1 + (1 : Int32) := ⟨_, rfl⟩
          replace h := h y52 ey52
          refine x_iinc (v := y52) (lv' := [(0, .ref (aS 0)), (1, .int x1), (2, .int x2), (3, .int y52)]) C 178 317 rfl 3 rfl (by rw [ey52]; rfl) (by decide) [1, 2, 3, 0] rfl ?_
          refine x_goto C 179 320 194 rfl rfl ?_
          exact x_sub [0, 1, 2, 3] rfl (hR194 (y52, z51) h)
        · replace h := h.2 c50
          refine x_iload C 165 292 rfl 5 rfl ?_
          refine x_aload_n C 166 294 rfl 0 rfl rfl ?_
          refine x_get (v := .ref (aS 19)) C 167 295 rfl fi_X10 0 rfl rfl 30 (by decide) (mc wq_6_0) rfl ?_
          refine x_iload C 168 298 rfl 4 rfl ?_
          obtain ⟨hi, h⟩ := h
          refine x_iald (f := q38.2 30) C 169 300 rfl 19 rfl hi ?_
          refine x_icmp_ge C 170 301 309 rfl rfl (fun c53 => ?_) (fun c53 => ?_)
          · replace h := h.1 c53
            refine x_aload_n C 173 309 rfl 0 rfl rfl ?_
            refine x_get (v := .ref (aS 19)) C 174 310 rfl fi_X10 0 rfl rfl 30 (by decide) (mc wq_6_0) rfl ?_
            refine x_iload C 175 313 rfl 4 rfl ?_
            obtain ⟨hi, h⟩ := h
            refine x_iald (f := q38.2 30) C 176 315 rfl 19 rfl hi ?_
            obtain ⟨hi, h⟩ := h
            obtain ⟨z54, ez54⟩ : ∃ z : St, z = ua q38.2 30 y48 (q38.2 30 y48.toNatClampNeg) := ⟨_, rfl⟩
            replace h := h z54 ez54
            refine x_iast (f := q38.2 30) (ws' := fl [wdS (xk x) aS z54 sL]) C 177 316 rfl 19 rfl hi (by rw [ez54]; rfl) ?_
            obtain ⟨y55, ey55⟩ : ∃ y : Int32, y = q38.1 + (1 : Int32) := ⟨_, rfl⟩
            replace h := h y55 ey55
            refine x_iinc (v := y55) (lv' := [(0, .ref (aS 0)), (1, .int x1), (2, .int x2), (3, .int y55)]) C 178 317 rfl 3 rfl (by rw [ey55]; rfl) (by decide) [1, 2, 3, 0] rfl ?_
            refine x_goto C 179 320 194 rfl rfl ?_
            exact x_sub [0, 1, 2, 3] rfl (hR194 (y55, z54) h)
          · replace h := h.2 c53
            refine x_iload C 171 304 rfl 5 rfl ?_
            refine x_goto C 172 306 316 rfl rfl ?_
            obtain ⟨hi, h⟩ := h
            obtain ⟨z56, ez56⟩ : ∃ z : St, z = ua q38.2 30 y48 y49 := ⟨_, rfl⟩
            replace h := h z56 ez56
            refine x_iast (f := q38.2 30) (ws' := fl [wdS (xk x) aS z56 sL]) C 177 316 rfl 19 rfl hi (by rw [ez56]; rfl) ?_
            obtain ⟨y57, ey57⟩ : ∃ y : Int32, y = q38.1 + (1 : Int32) := ⟨_, rfl⟩
            replace h := h y57 ey57
            refine x_iinc (v := y57) (lv' := [(0, .ref (aS 0)), (1, .int x1), (2, .int x2), (3, .int y57)]) C 178 317 rfl 3 rfl (by rw [ey57]; rfl) (by decide) [1, 2, 3, 0] rfl ?_
            refine x_goto C 179 320 194 rfl rfl ?_
            exact x_sub [0, 1, 2, 3] rfl (hR194 (y57, z56) h)
set_option maxHeartbeats 4000000 in
set_option maxRecDepth 100000 in
theorem w_X10_layShortest_184 {x : CT} {aS : Nat → Nat} {sL : Int64} {x1 : Int32} {K : Int32 → St → Prop} {E329 : St → Prop} (C : Cx x cX10_layShortest tb_X10_layShortest 6 RX10 (Cond.code yX10_layShortest cX10_layShortest 6 (some .int) :: wsL_law) ({ frames := 4, cells := 0, slots := 0, locals := 96 } : Room)) (rt : RetI x 0 0 (fun (u : St) => fl [wdS (xk x) aS u sL]) (fun (r : Int32) (u : St) => K r u)) (hE329 : ∀ q : St, E329 q → Wx x 6 0 0 (fl [wdS (xk x) aS q sL]) [(0, .ref (aS 0)), (1, .int x1)] 329 []) {q36 : Int32 × St} (h : Lp (F_X10_layShortest_184 sL E329) q36) : Wx x 6 0 0 (fl [wdS (xk x) aS q36.2 sL]) [(0, .ref (aS 0)), (1, .int x1), (2, .int q36.1)] 184 [] := by
  refine lp_walk (P := fun q36 => Wx x 6 0 0 (fl [wdS (xk x) aS q36.2 sL]) [(0, .ref (aS 0)), (1, .int x1), (2, .int q36.1)] 184 []) (fun q36 R184 hR184 h => ?_) h
  refine x_iload_n C 102 184 rfl 2 rfl rfl ?_
  refine x_aload_n C 103 185 rfl 0 rfl rfl ?_
  refine x_get (v := .int (q36.2 22 0)) C 104 186 rfl fi_X10 0 rfl rfl 22 (by decide) (mc wq_22_8) rfl ?_
  refine x_icmp_ge C 105 189 329 rfl rfl (fun c37 => ?_) (fun c37 => ?_)
  · replace h := h.1 c37
    exact x_sub [0, 1] rfl (hE329 q36.2 h)
  · replace h := h.2 c37
    refine x_iconst (v := (0 : Int32)) C 106 192 rfl (by decide) ?_
    refine x_istore_n (lv' := [(0, .ref (aS 0)), (1, .int x1), (2, .int q36.1), (3, .int (0 : Int32))]) C 107 193 rfl rfl (by decide) [1, 2, 3, 0] rfl ?_
    refine x_sub (lv' := [(0, .ref (aS 0)), (1, .int x1), (2, .int q36.1), (3, .int (0 : Int32))]) [0, 1, 2, 3] rfl (w_X10_layShortest_194 C rt hR184 h)
set_option maxHeartbeats 4000000 in
set_option maxRecDepth 100000 in
theorem w_X10_layShortest_331 {x : CT} {aS : Nat → Nat} {sL : Int64} {x1 : Int32} {K : Int32 → St → Prop} {R74 : Int32 × St → Prop} (C : Cx x cX10_layShortest tb_X10_layShortest 6 RX10 (Cond.code yX10_layShortest cX10_layShortest 6 (some .int) :: wsL_law) ({ frames := 4, cells := 0, slots := 0, locals := 96 } : Room)) (rt : RetI x 0 0 (fun (u : St) => fl [wdS (xk x) aS u sL]) (fun (r : Int32) (u : St) => K r u)) (hR74 : ∀ q : Int32 × St, R74 q → Wx x 6 0 0 (fl [wdS (xk x) aS q.2 sL]) [(0, .ref (aS 0)), (1, .int q.1)] 74 []) {q59 : Int32 × St} (h : Lp (F_X10_layShortest_331 x1 R74) q59) : Wx x 6 0 0 (fl [wdS (xk x) aS q59.2 sL]) [(0, .ref (aS 0)), (1, .int x1), (2, .int q59.1)] 331 [] := by
  refine lp_walk (P := fun q59 => Wx x 6 0 0 (fl [wdS (xk x) aS q59.2 sL]) [(0, .ref (aS 0)), (1, .int x1), (2, .int q59.1)] 331 []) (fun q59 R331 hR331 h => ?_) h
  refine x_iload_n C 184 331 rfl 2 rfl rfl ?_
  refine x_aload_n C 185 332 rfl 0 rfl rfl ?_
  refine x_get (v := .int (q59.2 22 0)) C 186 333 rfl fi_X10 0 rfl rfl 22 (by decide) (mc wq_22_8) rfl ?_
  refine x_icmp_ge C 187 336 357 rfl rfl (fun c60 => ?_) (fun c60 => ?_)
  · replace h := h.1 c60
    obtain ⟨y61, ey61⟩ : ∃ y : Int32, y = x1 + (1 : Int32) := ⟨_, rfl⟩
    replace h := h y61 ey61
    refine x_iinc (v := y61) (lv' := [(0, .ref (aS 0)), (1, .int y61)]) C 198 357 rfl 1 rfl (by rw [ey61]; rfl) (by decide) [1, 0] rfl ?_
    refine x_goto C 199 360 74 rfl rfl ?_
    exact x_sub [0, 1] rfl (hR74 (y61, q59.2) h)
  · replace h := h.2 c60
    refine x_aload_n C 188 339 rfl 0 rfl rfl ?_
    refine x_get (v := .ref (aS 18)) C 189 340 rfl fi_X10 0 rfl rfl 29 (by decide) (mc wq_5_23) rfl ?_
    refine x_iload_n C 190 343 rfl 2 rfl rfl ?_
    refine x_aload_n C 191 344 rfl 0 rfl rfl ?_
    refine x_get (v := .ref (aS 19)) C 192 345 rfl fi_X10 0 rfl rfl 30 (by decide) (mc wq_6_0) rfl ?_
    refine x_iload_n C 193 348 rfl 2 rfl rfl ?_
    obtain ⟨hi, h⟩ := h
    refine x_iald (f := q59.2 30) C 194 349 rfl 19 rfl hi ?_
    obtain ⟨hi, h⟩ := h
    obtain ⟨z62, ez62⟩ : ∃ z : St, z = ua q59.2 29 q59.1 (q59.2 30 q59.1.toNatClampNeg) := ⟨_, rfl⟩
    replace h := h z62 ez62
    refine x_iast (f := q59.2 29) (ws' := fl [wdS (xk x) aS z62 sL]) C 195 350 rfl 18 rfl hi (by rw [ez62]; rfl) ?_
    obtain ⟨y63, ey63⟩ : ∃ y : Int32, y = q59.1 + (1 : Int32) := ⟨_, rfl⟩
    replace h := h y63 ey63
    refine x_iinc (v := y63) (lv' := [(0, .ref (aS 0)), (1, .int x1), (2, .int y63)]) C 196 351 rfl 2 rfl (by rw [ey63]; rfl) (by decide) [1, 2, 0] rfl ?_
    refine x_goto C 197 354 331 rfl rfl ?_
    exact x_sub [0, 1, 2] rfl (hR331 (y63, z62) h)
set_option maxHeartbeats 4000000 in
set_option maxRecDepth 100000 in
theorem w_X10_layShortest_74 {x : CT} {aS : Nat → Nat} {sL : Int64} {K : Int32 → St → Prop} (C : Cx x cX10_layShortest tb_X10_layShortest 6 RX10 (Cond.code yX10_layShortest cX10_layShortest 6 (some .int) :: wsL_law) ({ frames := 4, cells := 0, slots := 0, locals := 96 } : Room)) (rt : RetI x 0 0 (fun (u : St) => fl [wdS (xk x) aS u sL]) (fun (r : Int32) (u : St) => K r u))  {q14 : Int32 × St} (h : Lp (F_X10_layShortest_74 sL K) q14) : Wx x 6 0 0 (fl [wdS (xk x) aS q14.2 sL]) [(0, .ref (aS 0)), (1, .int q14.1)] 74 [] := by
  refine lp_walk (P := fun q14 => Wx x 6 0 0 (fl [wdS (xk x) aS q14.2 sL]) [(0, .ref (aS 0)), (1, .int q14.1)] 74 []) (fun q14 R74 hR74 h => ?_) h
  refine x_iload_n C 43 74 rfl 1 rfl rfl ?_
  refine x_bipush (v := (8 : Int32)) C 44 75 rfl (by decide) ?_
  refine x_icmp_gt C 45 77 363 rfl rfl (fun c15 => ?_) (fun c15 => ?_)
  · replace h := h.1 c15
    refine x_bipush (v := (-9 : Int32)) C 200 363 rfl (by decide) ?_
    exact x_iret C rt 201 365 rfl q14.2 rfl h
  · replace h := h.2 c15
    refine x_aload_n C 46 80 rfl 0 rfl rfl ?_
    refine x_bipush (v := (-9 : Int32)) C 47 81 rfl (by decide) ?_
    obtain ⟨z16, ez16⟩ : ∃ z : St, z = us q14.2 31 (-9 : Int32) := ⟨_, rfl⟩
    replace h := h z16 ez16
    refine x_put (ws' := fl [wdS (xk x) aS z16 sL]) C 48 83 rfl fi_X10 tyX10 tyX10_ok nmX10 0 rfl rfl 31 (by decide) (mc wq_27_1) rfl rfl rfl (Nat.le_of_ble_eq_true rfl) (by rw [ez16]; rfl) ?_
    refine x_iconst (v := (0 : Int32)) C 49 86 rfl (by decide) ?_
    refine x_istore_n (lv' := [(0, .ref (aS 0)), (1, .int q14.1), (2, .int (0 : Int32))]) C 50 87 rfl rfl (by decide) [1, 2, 0] rfl ?_
    refine x_sub (lv' := [(0, .ref (aS 0)), (1, .int q14.1), (2, .int (0 : Int32))]) [0, 1, 2] rfl (w_X10_layShortest_88 C rt (fun q29 h => ?_) h)
    · refine x_aload_n C 82 149 rfl 0 rfl rfl ?_
      refine x_get (v := .int (q29 31 0)) C 83 150 rfl fi_X10 0 rfl rfl 31 (by decide) (mc wq_27_1) rfl ?_
      refine x_if_lt C 84 153 158 rfl rfl (fun c30 => ?_) (fun c30 => ?_)
      · replace h := h.1 c30
        refine x_iconst (v := (0 : Int32)) C 87 158 rfl (by decide) ?_
        refine x_istore_n (lv' := [(0, .ref (aS 0)), (1, .int q14.1), (2, .int (0 : Int32))]) C 88 159 rfl rfl (by decide) [1, 2, 0] rfl ?_
        refine x_sub (lv' := [(0, .ref (aS 0)), (1, .int q14.1), (2, .int (0 : Int32))]) [0, 1, 2] rfl (w_X10_layShortest_160 C rt (fun q35 h => ?_) h)
        · refine x_iconst (v := (0 : Int32)) C 100 182 rfl (by decide) ?_
          refine x_istore_n (lv' := [(0, .ref (aS 0)), (1, .int q14.1), (2, .int (0 : Int32))]) C 101 183 rfl rfl (by decide) [1, 2, 0] rfl ?_
          refine x_sub (lv' := [(0, .ref (aS 0)), (1, .int q14.1), (2, .int (0 : Int32))]) [0, 1, 2] rfl (w_X10_layShortest_184 C rt (fun q58 h => ?_) h)
          · refine x_iconst (v := (0 : Int32)) C 182 329 rfl (by decide) ?_
            refine x_istore_n (lv' := [(0, .ref (aS 0)), (1, .int q14.1), (2, .int (0 : Int32))]) C 183 330 rfl rfl (by decide) [1, 2, 0] rfl ?_
            refine x_sub (lv' := [(0, .ref (aS 0)), (1, .int q14.1), (2, .int (0 : Int32))]) [0, 1, 2] rfl (w_X10_layShortest_331 C rt hR74 h)
      · replace h := h.2 c30
        refine x_iload_n C 85 156 rfl 1 rfl rfl ?_
        exact x_iret C rt 86 157 rfl q29 rfl h
set_option maxHeartbeats 4000000 in
set_option maxRecDepth 100000 in
theorem w_X10_layShortest {x : CT} {aS : Nat → Nat} {sS : St} {sL : Int64} {K : Int32 → St → Prop} (C : Cx x cX10_layShortest tb_X10_layShortest 6 RX10 (Cond.code yX10_layShortest cX10_layShortest 6 (some .int) :: wsL_law) ({ frames := 4, cells := 0, slots := 0, locals := 96 } : Room)) (rt : RetI x 0 0 (fun (u : St) => fl [wdS (xk x) aS u sL]) (fun (r : Int32) (u : St) => K r u)) (h : wp_X10_layShortest sS sL K) : Wx x 6 0 0 (fl [wdS (xk x) aS sS sL]) [(0, .ref (aS 0))] 0 [] := by
  unfold wp_X10_layShortest at h
  refine x_iconst (v := (0 : Int32)) C 0 0 rfl (by decide) ?_
  refine x_istore_n (lv' := [(0, .ref (aS 0)), (1, .int (0 : Int32))]) C 1 1 rfl rfl (by decide) [1, 0] rfl ?_
  refine x_sub (lv' := [(0, .ref (aS 0)), (1, .int (0 : Int32))]) [0, 1] rfl (w_X10_layShortest_2 C rt (fun q5 h => ?_) h)
  · refine x_aload_n C 13 24 rfl 0 rfl rfl ?_
    refine x_get (v := .int (q5 3 0)) C 14 25 rfl fi_X10 0 rfl rfl 3 (by decide) (mc wq_14_4) rfl ?_
    refine x_iconst (v := (1 : Int32)) C 15 28 rfl (by decide) ?_
    refine x_isub C 16 29 rfl ?_
    refine x_topi (fun y6 ey6 => ?_)
    replace h := h y6 ey6
    refine x_istore_n (lv' := [(0, .ref (aS 0)), (1, .int y6)]) C 17 30 rfl rfl (by decide) [1, 0] rfl ?_
    refine x_sub (lv' := [(0, .ref (aS 0)), (1, .int y6)]) [0, 1] rfl (w_X10_layShortest_31 C rt (fun q13 h => ?_) h)
    · refine x_iconst (v := (1 : Int32)) C 41 72 rfl (by decide) ?_
      refine x_istore_n (lv' := [(0, .ref (aS 0)), (1, .int (1 : Int32))]) C 42 73 rfl rfl (by decide) [1, 0] rfl ?_
      refine x_sub (lv' := [(0, .ref (aS 0)), (1, .int (1 : Int32))]) [0, 1] rfl (w_X10_layShortest_74 C rt h)
theorem c_X10_layShortest (l : Launch) (D : va_G) (k : ClassId × ClassId) (g : Nat → Nat) (aS : Nat → Nat) (sS : St) (sL : Int64) (K : Int32 → St → Prop) (h : wp_X10_layShortest sS sL K) : ConI l yX10_layShortest (Cond.code yX10_layShortest cX10_layShortest 6 (some .int) :: wsL_law) ({ frames := 4, cells := 0, slots := 0, locals := 96 } : Room) D k g [.ref (aS 0)] (fl [wdS k aS sS sL]) (fun (u : St) => fl [wdS k aS u sL]) (fun (r : Int32) (u : St) => K r u) := by
  refine ConI.of (tb := tb_X10_layShortest) (cc := cX10_layShortest) (nL := 6) (by decide) rfl tbk_X10_layShortest (Nat.le_of_ble_eq_true rfl) ?_
  intro x hl hD hk hg C rt
  subst hl hD hk hg
  exact w_X10_layShortest C rt h
set_option maxHeartbeats 4000000 in
set_option maxRecDepth 100000 in
theorem w_X10_shortest {x : CT} {aS : Nat → Nat} {sS : St} {sL : Int64} {p1 : Int32} {K : Int32 → St → Prop} (C : Cx x cX10_shortest tb_X10_shortest 3 RX10 (Cond.code yX10_shortest cX10_shortest 3 (some .int) :: wsL_law) ({ frames := 5, cells := 0, slots := 0, locals := 121 } : Room)) (rt : RetI x 0 0 (fun (u : St) => fl [wdS (xk x) aS u sL]) (fun (r : Int32) (u : St) => K r u)) (h : wp_X10_shortest sS sL p1 K) : Wx x 3 0 0 (fl [wdS (xk x) aS sS sL]) [(0, .ref (aS 0)), (1, .int p1)] 0 [] := by
  unfold wp_X10_shortest at h
  refine x_iload_n C 0 0 rfl 1 rfl rfl ?_
  refine x_iconst (v := (-1 : Int32)) C 1 1 rfl (by decide) ?_
  refine x_icmp_ge C 2 2 7 rfl rfl (fun c1 => ?_) (fun c1 => ?_)
  · replace h := h.1 c1
    refine x_aload_n C 5 7 rfl 0 rfl rfl ?_
    refine x_iconst (v := (0 : Int32)) C 6 8 rfl (by decide) ?_
    refine x_callWVZ (ci := 8) (q0 := 0) (q := (RX10, TX10, 34)) C 7 9 (c_X10_layGraphs (xl x) (xD x) (xk x) (xg x) aS sS sL (0 : Int32) _ h) rfl wwGood (mem4 wq_22_9 wq_22_10 wq_22_11 wq_1_5) wq_22_12 1 ok_X10_layGraphs rfl ⟨by decide, by decide⟩ (Nat.le_of_ble_eq_true rfl) ⟨Nat.le_refl _, Nat.le_refl _⟩ ⟨rfl, rfl⟩ rfl rfl rfl (fun r2 u2 h => ?_)
    refine x_if_ne C 8 12 18 rfl rfl (fun c3 => ?_) (fun c3 => ?_)
    · replace h := h.2 c3
      refine x_aload_n C 11 18 rfl 0 rfl rfl ?_
      refine x_callWVI (ci := 8) (q0 := 0) (q := (RX10, TX10, 34)) C 12 19 (c_X10_layShortest (xl x) (xD x) (xk x) (xg x) aS u2 sL _ h) rfl wwGood (mem4 wq_27_2 wq_27_3 wq_27_4 wq_1_5) wq_27_5 0 ok_X10_layShortest rfl ⟨by decide, by decide⟩ (Nat.le_of_ble_eq_true rfl) ⟨Nat.le_refl _, Nat.le_refl _⟩ ⟨rfl, rfl⟩ rfl rfl rfl (fun r4 u4 h => ?_)
      refine x_istore_n (lv' := [(0, .ref (aS 0)), (1, .int p1), (2, .int r4)]) C 13 22 rfl rfl (by decide) [1, 2, 0] rfl ?_
      refine x_iload_n C 14 23 rfl 2 rfl rfl ?_
      refine x_bipush (v := (-9 : Int32)) C 15 24 rfl (by decide) ?_
      refine x_icmp_eq C 16 26 33 rfl rfl (fun c5 => ?_) (fun c5 => ?_)
      · replace h := h.1 c5
        refine x_iload_n C 19 33 rfl 2 rfl rfl ?_
        exact x_iret C rt 20 34 rfl u4 rfl h
      · replace h := h.2 c5
        refine x_iload_n C 17 29 rfl 1 rfl rfl ?_
        refine x_if_ge C 18 30 35 rfl rfl (fun c6 => ?_) (fun c6 => ?_)
        · replace h := h.1 c6
          refine x_iload_n C 21 35 rfl 1 rfl rfl ?_
          refine x_iload_n C 22 36 rfl 2 rfl rfl ?_
          refine x_icmp_ge C 23 37 58 rfl rfl (fun c7 => ?_) (fun c7 => ?_)
          · replace h := h.1 c7
            refine x_iconst (v := (-1 : Int32)) C 37 58 rfl (by decide) ?_
            exact x_iret C rt 38 59 rfl u4 rfl h
          · replace h := h.2 c7
            refine x_aload_n C 24 40 rfl 0 rfl rfl ?_
            refine x_get (v := .int (u4 31 0)) C 25 41 rfl fi_X10 0 rfl rfl 31 (by decide) (mc wq_27_1) rfl ?_
            refine x_iconst (v := (3 : Int32)) C 26 44 rfl (by decide) ?_
            refine x_iload_n C 27 45 rfl 2 rfl rfl ?_
            refine x_iconst (v := (1 : Int32)) C 28 46 rfl (by decide) ?_
            refine x_isub C 29 47 rfl ?_
            refine x_iload_n C 30 48 rfl 1 rfl rfl ?_
            refine x_isub C 31 49 rfl ?_
            refine x_imul C 32 50 rfl ?_
            refine x_ishr C 33 51 rfl ?_
            refine x_bipush (v := (7 : Int32)) C 34 52 rfl (by decide) ?_
            refine x_iand C 35 54 rfl ?_
            refine x_goto C 36 55 59 rfl rfl ?_
            exact x_iret C rt 38 59 rfl u4 rfl h
        · replace h := h.2 c6
          refine x_iload_n C 19 33 rfl 2 rfl rfl ?_
          exact x_iret C rt 20 34 rfl u4 rfl h
    · replace h := h.1 c3
      refine x_bipush (v := (-2 : Int32)) C 9 15 rfl (by decide) ?_
      exact x_iret C rt 10 17 rfl u2 rfl h
  · replace h := h.2 c1
    refine x_iconst (v := (-1 : Int32)) C 3 5 rfl (by decide) ?_
    exact x_iret C rt 4 6 rfl sS rfl h
theorem c_X10_shortest (l : Launch) (D : va_G) (k : ClassId × ClassId) (g : Nat → Nat) (aS : Nat → Nat) (sS : St) (sL : Int64) (p1 : Int32) (K : Int32 → St → Prop) (h : wp_X10_shortest sS sL p1 K) : ConI l yX10_shortest (Cond.code yX10_shortest cX10_shortest 3 (some .int) :: wsL_law) ({ frames := 5, cells := 0, slots := 0, locals := 121 } : Room) D k g [.ref (aS 0), .int p1] (fl [wdS k aS sS sL]) (fun (u : St) => fl [wdS k aS u sL]) (fun (r : Int32) (u : St) => K r u) := by
  refine ConI.of (tb := tb_X10_shortest) (cc := cX10_shortest) (nL := 3) (by decide) rfl tbk_X10_shortest (Nat.le_of_ble_eq_true rfl) ?_
  intro x hl hD hk hg C rt
  subst hl hD hk hg
  exact w_X10_shortest C rt h
set_option maxHeartbeats 4000000 in
set_option maxRecDepth 100000 in
theorem wj_X10_go_45 {x : CT} {aS : Nat → Nat} {sS : St} {sL : Int64} {x1 : Int32} {K : Int32 → St → Prop} (C : Cx x cX10_go tb_X10_go 2 RX10 (Cond.code yX10_go cX10_go 2 (some .int) :: wsL_law) ({ frames := 2, cells := 0, slots := 0, locals := 46 } : Room)) (rt : RetI x 0 0 (fun (u : St) => fl [wdS (xk x) aS u sL]) (fun (r : Int32) (u : St) => K r u))  (h : J_X10_go_45 sS x1 K) : Wx x 2 0 0 (fl [wdS (xk x) aS sS sL]) [(0, .ref (aS 0)), (1, .int x1)] 45 [] := by
  unfold J_X10_go_45 at h
  refine x_aload_n C 26 45 rfl 0 rfl rfl ?_
  refine x_get (v := .int (sS 7 0)) C 27 46 rfl fi_X10 0 rfl rfl 7 (by decide) (mc wq_14_5) rfl ?_
  refine x_bipush (v := (12 : Int32)) C 28 49 rfl (by decide) ?_
  refine x_icmp_ne C 29 51 57 rfl rfl (fun c4 => ?_) (fun c4 => ?_)
  · replace h := h.2 c4
    refine x_aload_n C 32 57 rfl 0 rfl rfl ?_
    refine x_get (v := .ref (aS 6)) C 33 58 rfl fi_X10 0 rfl rfl 8 (by decide) (mc wq_5_8) rfl ?_
    refine x_aload_n C 34 61 rfl 0 rfl rfl ?_
    refine x_get (v := .int (sS 7 0)) C 35 62 rfl fi_X10 0 rfl rfl 7 (by decide) (mc wq_14_5) rfl ?_
    refine x_iload_n C 36 65 rfl 1 rfl rfl ?_
    obtain ⟨hi, h⟩ := h
    obtain ⟨z5, ez5⟩ : ∃ z : St, z = ua sS 8 (sS 7 0) x1 := ⟨_, rfl⟩
    replace h := h z5 ez5
    refine x_iast (f := sS 8) (ws' := fl [wdS (xk x) aS z5 sL]) C 37 66 rfl 6 rfl hi (by rw [ez5]; rfl) ?_
    refine x_aload_n C 38 67 rfl 0 rfl rfl ?_
    refine x_dup C 39 68 rfl rfl ?_
    refine x_get (v := .int (z5 7 0)) C 40 69 rfl fi_X10 0 rfl rfl 7 (by decide) (mc wq_14_5) rfl ?_
    refine x_iconst (v := (1 : Int32)) C 41 72 rfl (by decide) ?_
    refine x_iadd C 42 73 rfl ?_
    obtain ⟨z6, ez6⟩ : ∃ z : St, z = us z5 7 (z5 7 0 + (1 : Int32)) := ⟨_, rfl⟩
    replace h := h z6 ez6
    refine x_put (ws' := fl [wdS (xk x) aS z6 sL]) C 43 74 rfl fi_X10 tyX10 tyX10_ok nmX10 0 rfl rfl 7 (by decide) (mc wq_14_5) rfl rfl rfl (Nat.le_of_ble_eq_true rfl) (by rw [ez6]; rfl) ?_
    refine x_aload_n C 44 77 rfl 0 rfl rfl ?_
    refine x_get (v := .int (z6 7 0)) C 45 78 rfl fi_X10 0 rfl rfl 7 (by decide) (mc wq_14_5) rfl ?_
    exact x_iret C rt 46 81 rfl z6 rfl h
  · replace h := h.1 c4
    refine x_bipush (v := (-3 : Int32)) C 30 54 rfl (by decide) ?_
    exact x_iret C rt 31 56 rfl sS rfl h
set_option maxHeartbeats 4000000 in
set_option maxRecDepth 100000 in
theorem w_X10_go {x : CT} {aS : Nat → Nat} {sS : St} {sL : Int64} {p1 : Int32} {K : Int32 → St → Prop} (C : Cx x cX10_go tb_X10_go 2 RX10 (Cond.code yX10_go cX10_go 2 (some .int) :: wsL_law) ({ frames := 2, cells := 0, slots := 0, locals := 46 } : Room)) (rt : RetI x 0 0 (fun (u : St) => fl [wdS (xk x) aS u sL]) (fun (r : Int32) (u : St) => K r u)) (h : wp_X10_go sS sL p1 K) : Wx x 2 0 0 (fl [wdS (xk x) aS sS sL]) [(0, .ref (aS 0)), (1, .int p1)] 0 [] := by
  unfold wp_X10_go at h
  refine x_aload_n C 0 0 rfl 0 rfl rfl ?_
  refine x_iload_n C 1 1 rfl 1 rfl rfl ?_
  refine x_callWVZ (ci := 8) (q0 := 0) (q := (RX10, TX10, 34)) C 2 2 (c_X10_isCall (xl x) (xD x) (xk x) (xg x) aS sS sL p1 _ h) rfl wwGood (mem4 wq_17_11 wq_17_12 wq_17_13 wq_1_5) wq_17_14 1 ok_X10_isCall rfl ⟨by decide, by decide⟩ (Nat.le_of_ble_eq_true rfl) ⟨Nat.le_refl _, Nat.le_refl _⟩ ⟨rfl, rfl⟩ rfl rfl rfl (fun r1 _ h => ?_)
  refine x_if_ne C 3 5 10 rfl rfl (fun c2 => ?_) (fun c2 => ?_)
  · replace h := h.2 c2
    refine x_aload_n C 6 10 rfl 0 rfl rfl ?_
    refine x_get (v := .int (sS 7 0)) C 7 11 rfl fi_X10 0 rfl rfl 7 (by decide) (mc wq_14_5) rfl ?_
    refine x_if_le C 8 14 45 rfl rfl (fun c3 => ?_) (fun c3 => ?_)
    · replace h := h.1 c3
      exact x_sub (lv' := [(0, .ref (aS 0)), (1, .int p1)]) [0, 1] rfl (wj_X10_go_45 C rt h)
    · replace h := h.2 c3
      refine x_aload_n C 9 17 rfl 0 rfl rfl ?_
      refine x_get (v := .ref (aS 4)) C 10 18 rfl fi_X10 0 rfl rfl 5 (by decide) (mc wq_5_6) rfl ?_
      refine x_aload_n C 11 21 rfl 0 rfl rfl ?_
      refine x_get (v := .ref (aS 6)) C 12 22 rfl fi_X10 0 rfl rfl 8 (by decide) (mc wq_5_8) rfl ?_
      refine x_aload_n C 13 25 rfl 0 rfl rfl ?_
      refine x_get (v := .int (sS 7 0)) C 14 26 rfl fi_X10 0 rfl rfl 7 (by decide) (mc wq_14_5) rfl ?_
      refine x_iconst (v := (1 : Int32)) C 15 29 rfl (by decide) ?_
      refine x_isub C 16 30 rfl ?_
      obtain ⟨hi, h⟩ := h
      refine x_iald (f := sS 8) C 17 31 rfl 6 rfl hi ?_
      obtain ⟨hi, h⟩ := h
      refine x_iald (f := sS 5) C 18 32 rfl 4 rfl hi ?_
      refine x_aload_n C 19 33 rfl 0 rfl rfl ?_
      refine x_get (v := .ref (aS 3)) C 20 34 rfl fi_X10 0 rfl rfl 4 (by decide) (mc wq_5_5) rfl ?_
      refine x_iload_n C 21 37 rfl 1 rfl rfl ?_
      obtain ⟨hi, h⟩ := h
      refine x_iald (f := sS 4) C 22 38 rfl 3 rfl hi ?_
      refine x_icmp_eq C 23 39 45 rfl rfl (fun c7 => ?_) (fun c7 => ?_)
      · replace h := h.1 c7
        exact x_sub (lv' := [(0, .ref (aS 0)), (1, .int p1)]) [0, 1] rfl (wj_X10_go_45 C rt h)
      · replace h := h.2 c7
        refine x_bipush (v := (-2 : Int32)) C 24 42 rfl (by decide) ?_
        exact x_iret C rt 25 44 rfl sS rfl h
  · replace h := h.1 c2
    refine x_iconst (v := (-1 : Int32)) C 4 8 rfl (by decide) ?_
    exact x_iret C rt 5 9 rfl sS rfl h
theorem c_X10_go (l : Launch) (D : va_G) (k : ClassId × ClassId) (g : Nat → Nat) (aS : Nat → Nat) (sS : St) (sL : Int64) (p1 : Int32) (K : Int32 → St → Prop) (h : wp_X10_go sS sL p1 K) : ConI l yX10_go (Cond.code yX10_go cX10_go 2 (some .int) :: wsL_law) ({ frames := 2, cells := 0, slots := 0, locals := 46 } : Room) D k g [.ref (aS 0), .int p1] (fl [wdS k aS sS sL]) (fun (u : St) => fl [wdS k aS u sL]) (fun (r : Int32) (u : St) => K r u) := by
  refine ConI.of (tb := tb_X10_go) (cc := cX10_go) (nL := 2) (by decide) rfl tbk_X10_go (Nat.le_of_ble_eq_true rfl) ?_
  intro x hl hD hk hg C rt
  subst hl hD hk hg
  exact w_X10_go C rt h
set_option maxHeartbeats 4000000 in
set_option maxRecDepth 100000 in
theorem w_X10_anew {x : CT} {aS : Nat → Nat} {sS : St} {sL : Int64} {K : Int32 → St → Prop} (C : Cx x cX10_anew tb_X10_anew 2 RX10 (Cond.code yX10_anew cX10_anew 2 (some .int) :: wsL_law) ({ frames := 0, cells := 0, slots := 0, locals := 0 } : Room)) (rt : RetI x 0 0 (fun (u : St) => fl [wdS (xk x) aS u sL]) (fun (r : Int32) (u : St) => K r u)) (h : wp_X10_anew sS sL K) : Wx x 2 0 0 (fl [wdS (xk x) aS sS sL]) [(0, .ref (aS 0))] 0 [] := by
  unfold wp_X10_anew at h
  refine x_aload_n C 0 0 rfl 0 rfl rfl ?_
  refine x_get (v := .int (sS 7 0)) C 1 1 rfl fi_X10 0 rfl rfl 7 (by decide) (mc wq_14_5) rfl ?_
  refine x_topi (fun y1 ey1 => ?_)
  replace h := h y1 ey1
  refine x_istore_n (lv' := [(0, .ref (aS 0)), (1, .int y1)]) C 2 4 rfl rfl (by decide) [1, 0] rfl ?_
  refine x_aload_n C 3 5 rfl 0 rfl rfl ?_
  refine x_iconst (v := (0 : Int32)) C 4 6 rfl (by decide) ?_
  obtain ⟨z2, ez2⟩ : ∃ z : St, z = us sS 7 (0 : Int32) := ⟨_, rfl⟩
  replace h := h z2 ez2
  refine x_put (ws' := fl [wdS (xk x) aS z2 sL]) C 5 7 rfl fi_X10 tyX10 tyX10_ok nmX10 0 rfl rfl 7 (by decide) (mc wq_14_5) rfl rfl rfl (Nat.le_of_ble_eq_true rfl) (by rw [ez2]; rfl) ?_
  refine x_iload_n C 6 10 rfl 1 rfl rfl ?_
  exact x_iret C rt 7 11 rfl z2 rfl h
theorem c_X10_anew (l : Launch) (D : va_G) (k : ClassId × ClassId) (g : Nat → Nat) (aS : Nat → Nat) (sS : St) (sL : Int64) (K : Int32 → St → Prop) (h : wp_X10_anew sS sL K) : ConI l yX10_anew (Cond.code yX10_anew cX10_anew 2 (some .int) :: wsL_law) ({ frames := 0, cells := 0, slots := 0, locals := 0 } : Room) D k g [.ref (aS 0)] (fl [wdS k aS sS sL]) (fun (u : St) => fl [wdS k aS u sL]) (fun (r : Int32) (u : St) => K r u) := by
  refine ConI.of (tb := tb_X10_anew) (cc := cX10_anew) (nL := 2) (by decide) rfl tbk_X10_anew (Nat.le_of_ble_eq_true rfl) ?_
  intro x hl hD hk hg C rt
  subst hl hD hk hg
  exact w_X10_anew C rt h
set_option maxHeartbeats 4000000 in
set_option maxRecDepth 100000 in
theorem w_X10_threadsOf_28 {x : CT} {aS : Nat → Nat} {sS : St} {sL : Int64} {x1 : Int32} {x2 : Int32} {x3 : Int32} {x4 : Int32} {x5 : Int32} {K : Int32 → Prop} {E73 : Int32 → Prop} (C : Cx x cX10_threadsOf tb_X10_threadsOf 8 RX10 (Cond.code yX10_threadsOf cX10_threadsOf 8 (some .int) :: wsL_law) ({ frames := 1, cells := 0, slots := 0, locals := 23 } : Room)) (rt : RetI x 0 0 (fun (u : Unit) => fl [wdS (xk x) aS sS sL]) (fun (r : Int32) (_ : Unit) => K r)) (hE73 : ∀ q : Int32, E73 q → Wx x 8 0 0 (fl [wdS (xk x) aS sS sL]) [(0, .ref (aS 0)), (1, .int x1), (2, .int x2), (3, .int x3), (4, .int x4), (5, .int x5), (6, .int q)] 73 []) {q6 : Int32 × Int32} (h : Lp (F_X10_threadsOf_28 sS sL x1 x2 x5 E73) q6) : Wx x 8 0 0 (fl [wdS (xk x) aS sS sL]) [(0, .ref (aS 0)), (1, .int x1), (2, .int x2), (3, .int x3), (4, .int x4), (5, .int x5), (6, .int q6.1), (7, .int q6.2)] 28 [] := by
  refine lp_walk (P := fun q6 => Wx x 8 0 0 (fl [wdS (xk x) aS sS sL]) [(0, .ref (aS 0)), (1, .int x1), (2, .int x2), (3, .int x3), (4, .int x4), (5, .int x5), (6, .int q6.1), (7, .int q6.2)] 28 []) (fun q6 R28 hR28 h => ?_) h
  refine x_iload C 18 28 rfl 7 rfl ?_
  refine x_iconst (v := (3 : Int32)) C 19 30 rfl (by decide) ?_
  refine x_icmp_ge C 20 31 73 rfl rfl (fun c7 => ?_) (fun c7 => ?_)
  · replace h := h.1 c7
    exact x_sub [0, 1, 2, 3, 4, 5, 6] rfl (hE73 q6.1 h)
  · replace h := h.2 c7
    refine x_iload C 21 34 rfl 6 rfl ?_
    refine x_if_ne C 22 36 60 rfl rfl (fun c8 => ?_) (fun c8 => ?_)
    · replace h := h.2 c8
      refine x_iconst (v := (1 : Int32)) C 33 60 rfl (by decide) ?_
      refine x_goto C 34 61 65 rfl rfl ?_
      refine x_istore (lv' := [(0, .ref (aS 0)), (1, .int x1), (2, .int x2), (3, .int x3), (4, .int x4), (5, .int x5), (6, .int (1 : Int32)), (7, .int q6.2)]) C 36 65 rfl (by decide) [1, 2, 3, 4, 5, 6, 0, 7] rfl ?_
      obtain ⟨y9, ey9⟩ : ∃ y : Int32, y = q6.2 + (1 : Int32) := ⟨_, rfl⟩
      replace h := h y9 ey9
      refine x_iinc (v := y9) (lv' := [(0, .ref (aS 0)), (1, .int x1), (2, .int x2), (3, .int x3), (4, .int x4), (5, .int x5), (6, .int (1 : Int32)), (7, .int y9)]) C 37 67 rfl 7 rfl (by rw [ey9]; rfl) (by decide) [1, 2, 3, 4, 5, 6, 7, 0] rfl ?_
      refine x_goto C 38 70 28 rfl rfl ?_
      exact x_sub [0, 1, 2, 3, 4, 5, 6, 7] rfl (hR28 ((1 : Int32), y9) h)
    · replace h := h.1 c8
      refine x_iload_n C 23 39 rfl 2 rfl rfl ?_
      refine x_iload C 24 40 rfl 7 rfl ?_
      refine x_call0SZ C 25 42 (c_X10_has (xl x) (xD x) (xk x) (xg x) x2 q6.2 _ h) rfl wwGood (mem3 wq_22_15 wq_22_16 wq_1_5) wq_22_17 2 ok_X10_has rfl ⟨by decide, by decide⟩ (Nat.le_of_ble_eq_true rfl) ⟨Nat.le_refl _, Nat.le_refl _⟩ ⟨rfl, rfl⟩ rfl (fun r10 _ h => ?_)
      refine x_if_eq C 26 45 64 rfl rfl (fun c11 => ?_) (fun c11 => ?_)
      · replace h := h.1 c11
        refine x_iconst (v := (0 : Int32)) C 35 64 rfl (by decide) ?_
        refine x_istore (lv' := [(0, .ref (aS 0)), (1, .int x1), (2, .int x2), (3, .int x3), (4, .int x4), (5, .int x5), (6, .int (0 : Int32)), (7, .int q6.2)]) C 36 65 rfl (by decide) [1, 2, 3, 4, 5, 6, 0, 7] rfl ?_
        obtain ⟨y12, ey12⟩ : ∃ y : Int32, y = q6.2 + (1 : Int32) := ⟨_, rfl⟩
        replace h := h y12 ey12
        refine x_iinc (v := y12) (lv' := [(0, .ref (aS 0)), (1, .int x1), (2, .int x2), (3, .int x3), (4, .int x4), (5, .int x5), (6, .int (0 : Int32)), (7, .int y12)]) C 37 67 rfl 7 rfl (by rw [ey12]; rfl) (by decide) [1, 2, 3, 4, 5, 6, 7, 0] rfl ?_
        refine x_goto C 38 70 28 rfl rfl ?_
        exact x_sub [0, 1, 2, 3, 4, 5, 6, 7] rfl (hR28 ((0 : Int32), y12) h)
      · replace h := h.2 c11
        refine x_aload_n C 27 48 rfl 0 rfl rfl ?_
        refine x_iload_n C 28 49 rfl 1 rfl rfl ?_
        refine x_iload C 29 50 rfl 5 rfl ?_
        refine x_iload C 30 52 rfl 7 rfl ?_
        refine x_callWVI (ci := 8) (q0 := 0) (q := (RX10, TX10, 34)) C 31 54 (c_X10_digit (xl x) (xD x) (xk x) (xg x) aS sS sL x1 x5 q6.2 _ h) rfl wwGood (mem4 wq_23_5 wq_23_6 wq_23_7 wq_1_5) wq_23_8 3 ok_X10_digit rfl ⟨by decide, by decide⟩ (Nat.le_of_ble_eq_true rfl) ⟨Nat.le_refl _, Nat.le_refl _⟩ ⟨rfl, rfl⟩ rfl rfl rfl (fun r13 _ h => ?_)
        refine x_if_le C 32 57 64 rfl rfl (fun c14 => ?_) (fun c14 => ?_)
        · replace h := h.1 c14
          refine x_iconst (v := (0 : Int32)) C 35 64 rfl (by decide) ?_
          refine x_istore (lv' := [(0, .ref (aS 0)), (1, .int x1), (2, .int x2), (3, .int x3), (4, .int x4), (5, .int x5), (6, .int (0 : Int32)), (7, .int q6.2)]) C 36 65 rfl (by decide) [1, 2, 3, 4, 5, 6, 0, 7] rfl ?_
          obtain ⟨y15, ey15⟩ : ∃ y : Int32, y = q6.2 + (1 : Int32) := ⟨_, rfl⟩
          replace h := h y15 ey15
          refine x_iinc (v := y15) (lv' := [(0, .ref (aS 0)), (1, .int x1), (2, .int x2), (3, .int x3), (4, .int x4), (5, .int x5), (6, .int (0 : Int32)), (7, .int y15)]) C 37 67 rfl 7 rfl (by rw [ey15]; rfl) (by decide) [1, 2, 3, 4, 5, 6, 7, 0] rfl ?_
          refine x_goto C 38 70 28 rfl rfl ?_
          exact x_sub [0, 1, 2, 3, 4, 5, 6, 7] rfl (hR28 ((0 : Int32), y15) h)
        · replace h := h.2 c14
          refine x_iconst (v := (1 : Int32)) C 33 60 rfl (by decide) ?_
          refine x_goto C 34 61 65 rfl rfl ?_
          refine x_istore (lv' := [(0, .ref (aS 0)), (1, .int x1), (2, .int x2), (3, .int x3), (4, .int x4), (5, .int x5), (6, .int (1 : Int32)), (7, .int q6.2)]) C 36 65 rfl (by decide) [1, 2, 3, 4, 5, 6, 0, 7] rfl ?_
          obtain ⟨y16, ey16⟩ : ∃ y : Int32, y = q6.2 + (1 : Int32) := ⟨_, rfl⟩
          replace h := h y16 ey16
          refine x_iinc (v := y16) (lv' := [(0, .ref (aS 0)), (1, .int x1), (2, .int x2), (3, .int x3), (4, .int x4), (5, .int x5), (6, .int (1 : Int32)), (7, .int y16)]) C 37 67 rfl 7 rfl (by rw [ey16]; rfl) (by decide) [1, 2, 3, 4, 5, 6, 7, 0] rfl ?_
          refine x_goto C 38 70 28 rfl rfl ?_
          exact x_sub [0, 1, 2, 3, 4, 5, 6, 7] rfl (hR28 ((1 : Int32), y16) h)
set_option maxHeartbeats 4000000 in
set_option maxRecDepth 100000 in
theorem w_X10_threadsOf_16 {x : CT} {aS : Nat → Nat} {sS : St} {sL : Int64} {x1 : Int32} {x2 : Int32} {x3 : Int32} {K : Int32 → Prop} {R5 : Int32 × Int32 → Prop} (C : Cx x cX10_threadsOf tb_X10_threadsOf 8 RX10 (Cond.code yX10_threadsOf cX10_threadsOf 8 (some .int) :: wsL_law) ({ frames := 1, cells := 0, slots := 0, locals := 23 } : Room)) (rt : RetI x 0 0 (fun (u : Unit) => fl [wdS (xk x) aS sS sL]) (fun (r : Int32) (_ : Unit) => K r)) (hR5 : ∀ q : Int32 × Int32, R5 q → Wx x 8 0 0 (fl [wdS (xk x) aS sS sL]) [(0, .ref (aS 0)), (1, .int x1), (2, .int q.1), (3, .int q.2)] 5 []) {q3 : Int32 × Int32} (h : Lp (F_X10_threadsOf_16 sS sL x1 x2 x3 R5) q3) : Wx x 8 0 0 (fl [wdS (xk x) aS sS sL]) [(0, .ref (aS 0)), (1, .int x1), (2, .int x2), (3, .int x3), (4, .int q3.1), (5, .int q3.2)] 16 [] := by
  refine lp_walk (P := fun q3 => Wx x 8 0 0 (fl [wdS (xk x) aS sS sL]) [(0, .ref (aS 0)), (1, .int x1), (2, .int x2), (3, .int x3), (4, .int q3.1), (5, .int q3.2)] 16 []) (fun q3 R16 hR16 h => ?_) h
  refine x_iload C 11 16 rfl 5 rfl ?_
  refine x_iconst (v := (3 : Int32)) C 12 18 rfl (by decide) ?_
  refine x_icmp_ge C 13 19 97 rfl rfl (fun c4 => ?_) (fun c4 => ?_)
  · replace h := h.1 c4
    refine x_iload C 51 97 rfl 4 rfl ?_
    refine x_istore_n (lv' := [(0, .ref (aS 0)), (1, .int x1), (2, .int q3.1), (3, .int x3)]) C 52 99 rfl rfl (by decide) [1, 2, 0, 3] rfl ?_
    obtain ⟨y5, ey5⟩ : ∃ y : Int32, y = x3 + (1 : Int32) := ⟨_, rfl⟩
    replace h := h y5 ey5
    refine x_iinc (v := y5) (lv' := [(0, .ref (aS 0)), (1, .int x1), (2, .int q3.1), (3, .int y5)]) C 53 100 rfl 3 rfl (by rw [ey5]; rfl) (by decide) [1, 2, 3, 0] rfl ?_
    refine x_goto C 54 103 5 rfl rfl ?_
    exact x_sub [0, 1, 2, 3] rfl (hR5 (q3.1, y5) h)
  · replace h := h.2 c4
    refine x_iconst (v := (0 : Int32)) C 14 22 rfl (by decide) ?_
    refine x_istore (lv' := [(0, .ref (aS 0)), (1, .int x1), (2, .int x2), (3, .int x3), (4, .int q3.1), (5, .int q3.2), (6, .int (0 : Int32))]) C 15 23 rfl (by decide) [1, 2, 3, 4, 5, 6, 0] rfl ?_
    refine x_iconst (v := (0 : Int32)) C 16 25 rfl (by decide) ?_
    refine x_istore (lv' := [(0, .ref (aS 0)), (1, .int x1), (2, .int x2), (3, .int x3), (4, .int q3.1), (5, .int q3.2), (6, .int (0 : Int32)), (7, .int (0 : Int32))]) C 17 26 rfl (by decide) [1, 2, 3, 4, 5, 6, 7, 0] rfl ?_
    refine x_sub (lv' := [(0, .ref (aS 0)), (1, .int x1), (2, .int x2), (3, .int x3), (4, .int q3.1), (5, .int q3.2), (6, .int (0 : Int32)), (7, .int (0 : Int32))]) [0, 1, 2, 3, 4, 5, 6, 7] rfl (w_X10_threadsOf_28 C rt (fun q17 h => ?_) h)
    · refine x_iload C 39 73 rfl 4 rfl ?_
      refine x_iload C 40 75 rfl 6 rfl ?_
      refine x_if_eq C 41 77 87 rfl rfl (fun c18 => ?_) (fun c18 => ?_)
      · replace h := h.1 c18
        refine x_iconst (v := (0 : Int32)) C 46 87 rfl (by decide) ?_
        refine x_ior C 47 88 rfl ?_
        refine x_topi (fun y19 ey19 => ?_)
        replace h := h y19 ey19
        refine x_istore (lv' := [(0, .ref (aS 0)), (1, .int x1), (2, .int x2), (3, .int x3), (4, .int y19), (5, .int q3.2)]) C 48 89 rfl (by decide) [1, 2, 3, 4, 0, 5] rfl ?_
        obtain ⟨y20, ey20⟩ : ∃ y : Int32, y = q3.2 + (1 : Int32) := ⟨_, rfl⟩
        replace h := h y20 ey20
        refine x_iinc (v := y20) (lv' := [(0, .ref (aS 0)), (1, .int x1), (2, .int x2), (3, .int x3), (4, .int y19), (5, .int y20)]) C 49 91 rfl 5 rfl (by rw [ey20]; rfl) (by decide) [1, 2, 3, 4, 5, 0] rfl ?_
        refine x_goto C 50 94 16 rfl rfl ?_
        exact x_sub [0, 1, 2, 3, 4, 5] rfl (hR16 (y19, y20) h)
      · replace h := h.2 c18
        refine x_iconst (v := (1 : Int32)) C 42 80 rfl (by decide) ?_
        refine x_iload C 43 81 rfl 5 rfl ?_
        refine x_ishl C 44 83 rfl ?_
        refine x_goto C 45 84 88 rfl rfl ?_
        refine x_ior C 47 88 rfl ?_
        refine x_topi (fun y21 ey21 => ?_)
        replace h := h y21 ey21
        refine x_istore (lv' := [(0, .ref (aS 0)), (1, .int x1), (2, .int x2), (3, .int x3), (4, .int y21), (5, .int q3.2)]) C 48 89 rfl (by decide) [1, 2, 3, 4, 0, 5] rfl ?_
        obtain ⟨y22, ey22⟩ : ∃ y : Int32, y = q3.2 + (1 : Int32) := ⟨_, rfl⟩
        replace h := h y22 ey22
        refine x_iinc (v := y22) (lv' := [(0, .ref (aS 0)), (1, .int x1), (2, .int x2), (3, .int x3), (4, .int y21), (5, .int y22)]) C 49 91 rfl 5 rfl (by rw [ey22]; rfl) (by decide) [1, 2, 3, 4, 5, 0] rfl ?_
        refine x_goto C 50 94 16 rfl rfl ?_
        exact x_sub [0, 1, 2, 3, 4, 5] rfl (hR16 (y21, y22) h)
set_option maxHeartbeats 4000000 in
set_option maxRecDepth 100000 in
theorem w_X10_threadsOf_5 {x : CT} {aS : Nat → Nat} {sS : St} {sL : Int64} {x1 : Int32} {K : Int32 → Prop} (C : Cx x cX10_threadsOf tb_X10_threadsOf 8 RX10 (Cond.code yX10_threadsOf cX10_threadsOf 8 (some .int) :: wsL_law) ({ frames := 1, cells := 0, slots := 0, locals := 23 } : Room)) (rt : RetI x 0 0 (fun (u : Unit) => fl [wdS (xk x) aS sS sL]) (fun (r : Int32) (_ : Unit) => K r))  {q1 : Int32 × Int32} (h : Lp (F_X10_threadsOf_5 sS sL x1 K) q1) : Wx x 8 0 0 (fl [wdS (xk x) aS sS sL]) [(0, .ref (aS 0)), (1, .int x1), (2, .int q1.1), (3, .int q1.2)] 5 [] := by
  refine lp_walk (P := fun q1 => Wx x 8 0 0 (fl [wdS (xk x) aS sS sL]) [(0, .ref (aS 0)), (1, .int x1), (2, .int q1.1), (3, .int q1.2)] 5 []) (fun q1 R5 hR5 h => ?_) h
  refine x_iload_n C 4 5 rfl 3 rfl rfl ?_
  refine x_iconst (v := (3 : Int32)) C 5 6 rfl (by decide) ?_
  refine x_icmp_ge C 6 7 106 rfl rfl (fun c2 => ?_) (fun c2 => ?_)
  · replace h := h.1 c2
    refine x_iload_n C 55 106 rfl 2 rfl rfl ?_
    exact x_iret C rt 56 107 rfl () rfl h
  · replace h := h.2 c2
    refine x_iconst (v := (0 : Int32)) C 7 10 rfl (by decide) ?_
    refine x_istore (lv' := [(0, .ref (aS 0)), (1, .int x1), (2, .int q1.1), (3, .int q1.2), (4, .int (0 : Int32))]) C 8 11 rfl (by decide) [1, 2, 3, 4, 0] rfl ?_
    refine x_iconst (v := (0 : Int32)) C 9 13 rfl (by decide) ?_
    refine x_istore (lv' := [(0, .ref (aS 0)), (1, .int x1), (2, .int q1.1), (3, .int q1.2), (4, .int (0 : Int32)), (5, .int (0 : Int32))]) C 10 14 rfl (by decide) [1, 2, 3, 4, 5, 0] rfl ?_
    refine x_sub (lv' := [(0, .ref (aS 0)), (1, .int x1), (2, .int q1.1), (3, .int q1.2), (4, .int (0 : Int32)), (5, .int (0 : Int32))]) [0, 1, 2, 3, 4, 5] rfl (w_X10_threadsOf_16 C rt hR5 h)
set_option maxHeartbeats 4000000 in
set_option maxRecDepth 100000 in
theorem w_X10_threadsOf {x : CT} {aS : Nat → Nat} {sS : St} {sL : Int64} {p1 : Int32} {K : Int32 → Prop} (C : Cx x cX10_threadsOf tb_X10_threadsOf 8 RX10 (Cond.code yX10_threadsOf cX10_threadsOf 8 (some .int) :: wsL_law) ({ frames := 1, cells := 0, slots := 0, locals := 23 } : Room)) (rt : RetI x 0 0 (fun (u : Unit) => fl [wdS (xk x) aS sS sL]) (fun (r : Int32) (_ : Unit) => K r)) (h : wp_X10_threadsOf sS sL p1 K) : Wx x 8 0 0 (fl [wdS (xk x) aS sS sL]) [(0, .ref (aS 0)), (1, .int p1)] 0 [] := by
  unfold wp_X10_threadsOf at h
  refine x_bipush (v := (7 : Int32)) C 0 0 rfl (by decide) ?_
  refine x_istore_n (lv' := [(0, .ref (aS 0)), (1, .int p1), (2, .int (7 : Int32))]) C 1 2 rfl rfl (by decide) [1, 2, 0] rfl ?_
  refine x_iconst (v := (0 : Int32)) C 2 3 rfl (by decide) ?_
  refine x_istore_n (lv' := [(0, .ref (aS 0)), (1, .int p1), (2, .int (7 : Int32)), (3, .int (0 : Int32))]) C 3 4 rfl rfl (by decide) [1, 2, 3, 0] rfl ?_
  refine x_sub (lv' := [(0, .ref (aS 0)), (1, .int p1), (2, .int (7 : Int32)), (3, .int (0 : Int32))]) [0, 1, 2, 3] rfl (w_X10_threadsOf_5 C rt h)
theorem c_X10_threadsOf (l : Launch) (D : va_G) (k : ClassId × ClassId) (g : Nat → Nat) (aS : Nat → Nat) (sS : St) (sL : Int64) (p1 : Int32) (K : Int32 → Prop) (h : wp_X10_threadsOf sS sL p1 K) : ConI l yX10_threadsOf (Cond.code yX10_threadsOf cX10_threadsOf 8 (some .int) :: wsL_law) ({ frames := 1, cells := 0, slots := 0, locals := 23 } : Room) D k g [.ref (aS 0), .int p1] (fl [wdS k aS sS sL]) (fun (u : Unit) => fl [wdS k aS sS sL]) (fun (r : Int32) (_ : Unit) => K r) := by
  refine ConI.of (tb := tb_X10_threadsOf) (cc := cX10_threadsOf) (nL := 8) (by decide) rfl tbk_X10_threadsOf (Nat.le_of_ble_eq_true rfl) ?_
  intro x hl hD hk hg C rt
  subst hl hD hk hg
  exact w_X10_threadsOf C rt h
set_option maxHeartbeats 4000000 in
set_option maxRecDepth 100000 in
theorem w_X10_falls_16 {x : CT} {aS : Nat → Nat} {sS : St} {sL : Int64} {x1 : Int32} {x3 : Int32} {x4 : Int32} {K : Int32 → Prop} {E51 : Int32 → Prop} (C : Cx x cX10_falls tb_X10_falls 6 RX10 (Cond.code yX10_falls cX10_falls 6 (some .boolean) :: wsL_law) ({ frames := 2, cells := 0, slots := 0, locals := 52 } : Room)) (rt : RetZ x 0 0 (fun (u : Unit) => fl [wdS (xk x) aS sS sL]) (fun (r : Int32) (_ : Unit) => K r)) (hE51 : ∀ q : Int32, E51 q → Wx x 6 0 0 (fl [wdS (xk x) aS sS sL]) [(0, .ref (aS 0)), (1, .int x1), (2, .int q), (3, .int x3), (4, .int x4)] 51 []) {q3 : Int32 × Int32} (h : Lp (F_X10_falls_16 sS sL x3 E51) q3) : Wx x 6 0 0 (fl [wdS (xk x) aS sS sL]) [(0, .ref (aS 0)), (1, .int x1), (2, .int q3.1), (3, .int x3), (4, .int x4), (5, .int q3.2)] 16 [] := by
  refine lp_walk (P := fun q3 => Wx x 6 0 0 (fl [wdS (xk x) aS sS sL]) [(0, .ref (aS 0)), (1, .int x1), (2, .int q3.1), (3, .int x3), (4, .int x4), (5, .int q3.2)] 16 []) (fun q3 R16 hR16 h => ?_) h
  refine x_iload C 11 16 rfl 5 rfl ?_
  refine x_iconst (v := (3 : Int32)) C 12 18 rfl (by decide) ?_
  refine x_icmp_ge C 13 19 51 rfl rfl (fun c4 => ?_) (fun c4 => ?_)
  · replace h := h.1 c4
    exact x_sub [0, 1, 2, 3, 4] rfl (hE51 q3.1 h)
  · replace h := h.2 c4
    refine x_iload_n C 14 22 rfl 2 rfl rfl ?_
    refine x_if_ne C 15 23 39 rfl rfl (fun c5 => ?_) (fun c5 => ?_)
    · replace h := h.2 c5
      refine x_iconst (v := (1 : Int32)) C 23 39 rfl (by decide) ?_
      refine x_goto C 24 40 44 rfl rfl ?_
      refine x_istore_n (lv' := [(0, .ref (aS 0)), (1, .int x1), (2, .int (1 : Int32)), (3, .int x3), (4, .int x4), (5, .int q3.2)]) C 26 44 rfl rfl (by decide) [1, 2, 0, 3, 4, 5] rfl ?_
      obtain ⟨y6, ey6⟩ : ∃ y : Int32, y = q3.2 + (1 : Int32) := ⟨_, rfl⟩
      replace h := h y6 ey6
      refine x_iinc (v := y6) (lv' := [(0, .ref (aS 0)), (1, .int x1), (2, .int (1 : Int32)), (3, .int x3), (4, .int x4), (5, .int y6)]) C 27 45 rfl 5 rfl (by rw [ey6]; rfl) (by decide) [1, 2, 3, 4, 5, 0] rfl ?_
      refine x_goto C 28 48 16 rfl rfl ?_
      exact x_sub [0, 1, 2, 3, 4, 5] rfl (hR16 ((1 : Int32), y6) h)
    · replace h := h.1 c5
      refine x_aload_n C 16 26 rfl 0 rfl rfl ?_
      refine x_iload_n C 17 27 rfl 3 rfl rfl ?_
      refine x_iload C 18 28 rfl 5 rfl ?_
      refine x_iload C 19 30 rfl 5 rfl ?_
      refine x_callWVI (ci := 8) (q0 := 0) (q := (RX10, TX10, 34)) C 20 32 (c_X10_digit (xl x) (xD x) (xk x) (xg x) aS sS sL x3 q3.2 q3.2 _ h) rfl wwGood (mem4 wq_23_5 wq_23_6 wq_23_7 wq_1_5) wq_23_8 3 ok_X10_digit rfl ⟨by decide, by decide⟩ (Nat.le_of_ble_eq_true rfl) ⟨Nat.le_refl _, Nat.le_refl _⟩ ⟨rfl, rfl⟩ rfl rfl rfl (fun r7 _ h => ?_)
      refine x_iconst (v := (2 : Int32)) C 21 35 rfl (by decide) ?_
      refine x_icmp_ne C 22 36 43 rfl rfl (fun c8 => ?_) (fun c8 => ?_)
      · replace h := h.2 c8
        refine x_iconst (v := (0 : Int32)) C 25 43 rfl (by decide) ?_
        refine x_istore_n (lv' := [(0, .ref (aS 0)), (1, .int x1), (2, .int (0 : Int32)), (3, .int x3), (4, .int x4), (5, .int q3.2)]) C 26 44 rfl rfl (by decide) [1, 2, 0, 3, 4, 5] rfl ?_
        obtain ⟨y9, ey9⟩ : ∃ y : Int32, y = q3.2 + (1 : Int32) := ⟨_, rfl⟩
        replace h := h y9 ey9
        refine x_iinc (v := y9) (lv' := [(0, .ref (aS 0)), (1, .int x1), (2, .int (0 : Int32)), (3, .int x3), (4, .int x4), (5, .int y9)]) C 27 45 rfl 5 rfl (by rw [ey9]; rfl) (by decide) [1, 2, 3, 4, 5, 0] rfl ?_
        refine x_goto C 28 48 16 rfl rfl ?_
        exact x_sub [0, 1, 2, 3, 4, 5] rfl (hR16 ((0 : Int32), y9) h)
      · replace h := h.1 c8
        refine x_iconst (v := (1 : Int32)) C 23 39 rfl (by decide) ?_
        refine x_goto C 24 40 44 rfl rfl ?_
        refine x_istore_n (lv' := [(0, .ref (aS 0)), (1, .int x1), (2, .int (1 : Int32)), (3, .int x3), (4, .int x4), (5, .int q3.2)]) C 26 44 rfl rfl (by decide) [1, 2, 0, 3, 4, 5] rfl ?_
        obtain ⟨y10, ey10⟩ : ∃ y : Int32, y = q3.2 + (1 : Int32) := ⟨_, rfl⟩
        replace h := h y10 ey10
        refine x_iinc (v := y10) (lv' := [(0, .ref (aS 0)), (1, .int x1), (2, .int (1 : Int32)), (3, .int x3), (4, .int x4), (5, .int y10)]) C 27 45 rfl 5 rfl (by rw [ey10]; rfl) (by decide) [1, 2, 3, 4, 5, 0] rfl ?_
        refine x_goto C 28 48 16 rfl rfl ?_
        exact x_sub [0, 1, 2, 3, 4, 5] rfl (hR16 ((1 : Int32), y10) h)
set_option maxHeartbeats 4000000 in
set_option maxRecDepth 100000 in
theorem w_X10_falls_7 {x : CT} {aS : Nat → Nat} {sS : St} {sL : Int64} {x1 : Int32} {K : Int32 → Prop} (C : Cx x cX10_falls tb_X10_falls 6 RX10 (Cond.code yX10_falls cX10_falls 6 (some .boolean) :: wsL_law) ({ frames := 2, cells := 0, slots := 0, locals := 52 } : Room)) (rt : RetZ x 0 0 (fun (u : Unit) => fl [wdS (xk x) aS sS sL]) (fun (r : Int32) (_ : Unit) => K r))  {q1 : Int32 × Int32 × Int32} (h : Lp (F_X10_falls_7 sS sL x1 K) q1) : Wx x 6 0 0 (fl [wdS (xk x) aS sS sL]) [(0, .ref (aS 0)), (1, .int x1), (2, .int q1.1), (3, .int q1.2.1), (4, .int q1.2.2)] 7 [] := by
  refine lp_walk (P := fun q1 => Wx x 6 0 0 (fl [wdS (xk x) aS sS sL]) [(0, .ref (aS 0)), (1, .int x1), (2, .int q1.1), (3, .int q1.2.1), (4, .int q1.2.2)] 7 []) (fun q1 R7 hR7 h => ?_) h
  refine x_iload C 6 7 rfl 4 rfl ?_
  refine x_iconst (v := (3 : Int32)) C 7 9 rfl (by decide) ?_
  refine x_icmp_gt C 8 10 64 rfl rfl (fun c2 => ?_) (fun c2 => ?_)
  · replace h := h.1 c2
    refine x_iload_n C 36 64 rfl 2 rfl rfl ?_
    exact x_zret C rt 37 65 rfl h.1 () rfl h.2
  · replace h := h.2 c2
    refine x_iconst (v := (0 : Int32)) C 9 13 rfl (by decide) ?_
    refine x_istore (lv' := [(0, .ref (aS 0)), (1, .int x1), (2, .int q1.1), (3, .int q1.2.1), (4, .int q1.2.2), (5, .int (0 : Int32))]) C 10 14 rfl (by decide) [1, 2, 3, 4, 5, 0] rfl ?_
    refine x_sub (lv' := [(0, .ref (aS 0)), (1, .int x1), (2, .int q1.1), (3, .int q1.2.1), (4, .int q1.2.2), (5, .int (0 : Int32))]) [0, 1, 2, 3, 4, 5] rfl (w_X10_falls_16 C rt (fun q11 h => ?_) h)
    · refine x_aload_n C 29 51 rfl 0 rfl rfl ?_
      refine x_iload_n C 30 52 rfl 3 rfl rfl ?_
      refine x_iload_n C 31 53 rfl 1 rfl rfl ?_
      refine x_callWVI (ci := 8) (q0 := 0) (q := (RX10, TX10, 34)) C 32 54 (c_X10_put2 (xl x) (xD x) (xk x) (xg x) aS sS sL q1.2.1 x1 _ h) rfl wwGood (mem4 wq_23_1 wq_23_2 wq_23_3 wq_1_5) wq_23_4 2 ok_X10_put2 rfl ⟨by decide, by decide⟩ (Nat.le_of_ble_eq_true rfl) ⟨Nat.le_refl _, Nat.le_refl _⟩ ⟨rfl, rfl⟩ rfl rfl rfl (fun r12 _ h => ?_)
      refine x_istore_n (lv' := [(0, .ref (aS 0)), (1, .int x1), (2, .int q11), (3, .int r12), (4, .int q1.2.2)]) C 33 57 rfl rfl (by decide) [1, 2, 3, 0, 4] rfl ?_
      obtain ⟨y13, ey13⟩ : ∃ y : Int32, y = q1.2.2 + (1 : Int32) := ⟨_, rfl⟩
      replace h := h y13 ey13
      refine x_iinc (v := y13) (lv' := [(0, .ref (aS 0)), (1, .int x1), (2, .int q11), (3, .int r12), (4, .int y13)]) C 34 58 rfl 4 rfl (by rw [ey13]; rfl) (by decide) [1, 2, 3, 4, 0] rfl ?_
      refine x_goto C 35 61 7 rfl rfl ?_
      exact x_sub [0, 1, 2, 3, 4] rfl (hR7 (q11, r12, y13) h)
set_option maxHeartbeats 4000000 in
set_option maxRecDepth 100000 in
theorem w_X10_falls {x : CT} {aS : Nat → Nat} {sS : St} {sL : Int64} {p1 : Int32} {K : Int32 → Prop} (C : Cx x cX10_falls tb_X10_falls 6 RX10 (Cond.code yX10_falls cX10_falls 6 (some .boolean) :: wsL_law) ({ frames := 2, cells := 0, slots := 0, locals := 52 } : Room)) (rt : RetZ x 0 0 (fun (u : Unit) => fl [wdS (xk x) aS sS sL]) (fun (r : Int32) (_ : Unit) => K r)) (h : wp_X10_falls sS sL p1 K) : Wx x 6 0 0 (fl [wdS (xk x) aS sS sL]) [(0, .ref (aS 0)), (1, .int p1)] 0 [] := by
  unfold wp_X10_falls at h
  refine x_iconst (v := (0 : Int32)) C 0 0 rfl (by decide) ?_
  refine x_istore_n (lv' := [(0, .ref (aS 0)), (1, .int p1), (2, .int (0 : Int32))]) C 1 1 rfl rfl (by decide) [1, 2, 0] rfl ?_
  refine x_iload_n C 2 2 rfl 1 rfl rfl ?_
  refine x_istore_n (lv' := [(0, .ref (aS 0)), (1, .int p1), (2, .int (0 : Int32)), (3, .int p1)]) C 3 3 rfl rfl (by decide) [1, 2, 3, 0] rfl ?_
  refine x_iconst (v := (1 : Int32)) C 4 4 rfl (by decide) ?_
  refine x_istore (lv' := [(0, .ref (aS 0)), (1, .int p1), (2, .int (0 : Int32)), (3, .int p1), (4, .int (1 : Int32))]) C 5 5 rfl (by decide) [1, 2, 3, 4, 0] rfl ?_
  refine x_sub (lv' := [(0, .ref (aS 0)), (1, .int p1), (2, .int (0 : Int32)), (3, .int p1), (4, .int (1 : Int32))]) [0, 1, 2, 3, 4] rfl (w_X10_falls_7 C rt h)
theorem c_X10_falls (l : Launch) (D : va_G) (k : ClassId × ClassId) (g : Nat → Nat) (aS : Nat → Nat) (sS : St) (sL : Int64) (p1 : Int32) (K : Int32 → Prop) (h : wp_X10_falls sS sL p1 K) : ConZ l yX10_falls (Cond.code yX10_falls cX10_falls 6 (some .boolean) :: wsL_law) ({ frames := 2, cells := 0, slots := 0, locals := 52 } : Room) D k g [.ref (aS 0), .int p1] (fl [wdS k aS sS sL]) (fun (u : Unit) => fl [wdS k aS sS sL]) (fun (r : Int32) (_ : Unit) => K r) := by
  refine ConZ.of (tb := tb_X10_falls) (cc := cX10_falls) (nL := 6) (by decide) rfl tbk_X10_falls (Nat.le_of_ble_eq_true rfl) ?_
  intro x hl hD hk hg C rt
  subst hl hD hk hg
  exact w_X10_falls C rt h
set_option maxHeartbeats 4000000 in
set_option maxRecDepth 100000 in
theorem w_X10_trip_67 {x : CT} {aS : Nat → Nat} {sS : St} {sL : Int64} {x1 : Int32} {K : Int32 → Prop} {E97 : Int32 → Prop} (C : Cx x cX10_trip tb_X10_trip 4 RX10 (Cond.code yX10_trip cX10_trip 4 (some .int) :: wsL_law) ({ frames := 3, cells := 0, slots := 0, locals := 77 } : Room)) (rt : RetI x 0 0 (fun (u : Unit) => fl [wdS (xk x) aS sS sL]) (fun (r : Int32) (_ : Unit) => K r)) (hE97 : ∀ q : Int32, E97 q → Wx x 4 0 0 (fl [wdS (xk x) aS sS sL]) [(0, .ref (aS 0)), (1, .int x1), (2, .int q)] 97 []) {q6 : Int32 × Int32} (h : Lp (F_X10_trip_67 sS sL E97) q6) : Wx x 4 0 0 (fl [wdS (xk x) aS sS sL]) [(0, .ref (aS 0)), (1, .int x1), (2, .int q6.1), (3, .int q6.2)] 67 [] := by
  refine lp_walk (P := fun q6 => Wx x 4 0 0 (fl [wdS (xk x) aS sS sL]) [(0, .ref (aS 0)), (1, .int x1), (2, .int q6.1), (3, .int q6.2)] 67 []) (fun q6 R67 hR67 h => ?_) h
  refine x_iload_n C 40 67 rfl 3 rfl rfl ?_
  refine x_aload_n C 41 68 rfl 0 rfl rfl ?_
  refine x_get (v := .int (sS 7 0)) C 42 69 rfl fi_X10 0 rfl rfl 7 (by decide) (mc wq_14_5) rfl ?_
  refine x_icmp_ge C 43 72 97 rfl rfl (fun c7 => ?_) (fun c7 => ?_)
  · replace h := h.1 c7
    exact x_sub [0, 1, 2] rfl (hE97 q6.1 h)
  · replace h := h.2 c7
    refine x_aload_n C 44 75 rfl 0 rfl rfl ?_
    refine x_iload_n C 45 76 rfl 2 rfl rfl ?_
    refine x_aload_n C 46 77 rfl 0 rfl rfl ?_
    refine x_aload_n C 47 78 rfl 0 rfl rfl ?_
    refine x_get (v := .ref (aS 6)) C 48 79 rfl fi_X10 0 rfl rfl 8 (by decide) (mc wq_5_8) rfl ?_
    refine x_iload_n C 49 82 rfl 3 rfl rfl ?_
    obtain ⟨hi, h⟩ := h
    refine x_iald (f := sS 8) C 50 83 rfl 6 rfl hi ?_
    refine x_callWVI (ci := 8) (q0 := 0) (q := (RX10, TX10, 34)) C 51 84 (c_X10_numberOf (xl x) (xD x) (xk x) (xg x) aS sS sL (sS 8 q6.2.toNatClampNeg) _ h) rfl wwGood (mem4 wq_17_15 wq_17_16 wq_17_17 wq_1_5) wq_17_18 1 ok_X10_numberOf rfl ⟨by decide, by decide⟩ (Nat.le_of_ble_eq_true rfl) ⟨Nat.le_refl _, Nat.le_refl _⟩ ⟨rfl, rfl⟩ rfl rfl rfl (fun r8 _ h => ?_)
    refine x_callWVI (ci := 8) (q0 := 0) (q := (RX10, TX10, 34)) C 52 87 (c_X10_put2 (xl x) (xD x) (xk x) (xg x) aS sS sL q6.1 r8 _ h) rfl wwGood (mem4 wq_23_1 wq_23_2 wq_23_3 wq_1_5) wq_23_4 2 ok_X10_put2 rfl ⟨by decide, by decide⟩ (Nat.le_of_ble_eq_true rfl) ⟨Nat.le_refl _, Nat.le_refl _⟩ ⟨rfl, rfl⟩ rfl rfl rfl (fun r9 _ h => ?_)
    refine x_istore_n (lv' := [(0, .ref (aS 0)), (1, .int x1), (2, .int r9), (3, .int q6.2)]) C 53 90 rfl rfl (by decide) [1, 2, 0, 3] rfl ?_
    obtain ⟨y10, ey10⟩ : ∃ y : Int32, y = q6.2 + (1 : Int32) := ⟨_, rfl⟩
    replace h := h y10 ey10
    refine x_iinc (v := y10) (lv' := [(0, .ref (aS 0)), (1, .int x1), (2, .int r9), (3, .int y10)]) C 54 91 rfl 3 rfl (by rw [ey10]; rfl) (by decide) [1, 2, 3, 0] rfl ?_
    refine x_goto C 55 94 67 rfl rfl ?_
    exact x_sub [0, 1, 2, 3] rfl (hR67 (r9, y10) h)
set_option maxHeartbeats 4000000 in
set_option maxRecDepth 100000 in
theorem w_X10_trip {x : CT} {aS : Nat → Nat} {sS : St} {sL : Int64} {p1 : Int32} {K : Int32 → Prop} (C : Cx x cX10_trip tb_X10_trip 4 RX10 (Cond.code yX10_trip cX10_trip 4 (some .int) :: wsL_law) ({ frames := 3, cells := 0, slots := 0, locals := 77 } : Room)) (rt : RetI x 0 0 (fun (u : Unit) => fl [wdS (xk x) aS sS sL]) (fun (r : Int32) (_ : Unit) => K r)) (h : wp_X10_trip sS sL p1 K) : Wx x 4 0 0 (fl [wdS (xk x) aS sS sL]) [(0, .ref (aS 0)), (1, .int p1)] 0 [] := by
  unfold wp_X10_trip at h
  refine x_iload_n C 0 0 rfl 1 rfl rfl ?_
  refine x_i2l C 1 1 rfl ?_
  refine x_lconst (v := (0 : Int64)) C 2 2 rfl (by decide) ?_
  refine x_ldc2 (v := (2 : Int64)) C 3 3 rfl (mc wq_17_10) ?_
  refine x_call0SZ C 4 6 (c_X10_in (xl x) (xD x) (xk x) (xg x) p1.toInt64 (0 : Int64) (2 : Int64) _ h) rfl wwGood (mem3 wq_6_21 wq_6_22 wq_1_5) wq_6_23 3 ok_X10_in rfl ⟨by decide, by decide⟩ (Nat.le_of_ble_eq_true rfl) ⟨Nat.le_refl _, Nat.le_refl _⟩ ⟨rfl, rfl⟩ rfl (fun r1 _ h => ?_)
  refine x_if_ne C 5 9 14 rfl rfl (fun c2 => ?_) (fun c2 => ?_)
  · replace h := h.2 c2
    refine x_aload_n C 8 14 rfl 0 rfl rfl ?_
    refine x_get (v := .int (sS 7 0)) C 9 15 rfl fi_X10 0 rfl rfl 7 (by decide) (mc wq_14_5) rfl ?_
    refine x_if_eq C 10 18 51 rfl rfl (fun c3 => ?_) (fun c3 => ?_)
    · replace h := h.1 c3
      refine x_bipush (v := (-2 : Int32)) C 29 51 rfl (by decide) ?_
      exact x_iret C rt 30 53 rfl () rfl h
    · replace h := h.2 c3
      refine x_aload_n C 11 21 rfl 0 rfl rfl ?_
      refine x_get (v := .ref (aS 4)) C 12 22 rfl fi_X10 0 rfl rfl 5 (by decide) (mc wq_5_6) rfl ?_
      refine x_aload_n C 13 25 rfl 0 rfl rfl ?_
      refine x_get (v := .ref (aS 6)) C 14 26 rfl fi_X10 0 rfl rfl 8 (by decide) (mc wq_5_8) rfl ?_
      refine x_aload_n C 15 29 rfl 0 rfl rfl ?_
      refine x_get (v := .int (sS 7 0)) C 16 30 rfl fi_X10 0 rfl rfl 7 (by decide) (mc wq_14_5) rfl ?_
      refine x_iconst (v := (1 : Int32)) C 17 33 rfl (by decide) ?_
      refine x_isub C 18 34 rfl ?_
      obtain ⟨hi, h⟩ := h
      refine x_iald (f := sS 8) C 19 35 rfl 6 rfl hi ?_
      obtain ⟨hi, h⟩ := h
      refine x_iald (f := sS 5) C 20 36 rfl 4 rfl hi ?_
      refine x_aload_n C 21 37 rfl 0 rfl rfl ?_
      refine x_get (v := .ref (aS 3)) C 22 38 rfl fi_X10 0 rfl rfl 4 (by decide) (mc wq_5_5) rfl ?_
      refine x_aload_n C 23 41 rfl 0 rfl rfl ?_
      refine x_get (v := .ref (aS 6)) C 24 42 rfl fi_X10 0 rfl rfl 8 (by decide) (mc wq_5_8) rfl ?_
      refine x_iconst (v := (0 : Int32)) C 25 45 rfl (by decide) ?_
      refine x_iald (f := sS 8) C 26 46 rfl 6 rfl (vpi rfl) ?_
      obtain ⟨hi, h⟩ := h
      refine x_iald (f := sS 4) C 27 47 rfl 3 rfl hi ?_
      refine x_icmp_eq C 28 48 54 rfl rfl (fun c4 => ?_) (fun c4 => ?_)
      · replace h := h.1 c4
        refine x_aload_n C 31 54 rfl 0 rfl rfl ?_
        refine x_aload_n C 32 55 rfl 0 rfl rfl ?_
        refine x_get (v := .ref (aS 6)) C 33 56 rfl fi_X10 0 rfl rfl 8 (by decide) (mc wq_5_8) rfl ?_
        refine x_iconst (v := (0 : Int32)) C 34 59 rfl (by decide) ?_
        refine x_iald (f := sS 8) C 35 60 rfl 6 rfl (vpi rfl) ?_
        refine x_callWVI (ci := 8) (q0 := 0) (q := (RX10, TX10, 34)) C 36 61 (c_X10_numberOf (xl x) (xD x) (xk x) (xg x) aS sS sL (sS 8 0) _ h) rfl wwGood (mem4 wq_17_15 wq_17_16 wq_17_17 wq_1_5) wq_17_18 1 ok_X10_numberOf rfl ⟨by decide, by decide⟩ (Nat.le_of_ble_eq_true rfl) ⟨Nat.le_refl _, Nat.le_refl _⟩ ⟨rfl, rfl⟩ rfl rfl rfl (fun r5 _ h => ?_)
        refine x_istore_n (lv' := [(0, .ref (aS 0)), (1, .int p1), (2, .int r5)]) C 37 64 rfl rfl (by decide) [1, 2, 0] rfl ?_
        refine x_iconst (v := (1 : Int32)) C 38 65 rfl (by decide) ?_
        refine x_istore_n (lv' := [(0, .ref (aS 0)), (1, .int p1), (2, .int r5), (3, .int (1 : Int32))]) C 39 66 rfl rfl (by decide) [1, 2, 3, 0] rfl ?_
        refine x_sub (lv' := [(0, .ref (aS 0)), (1, .int p1), (2, .int r5), (3, .int (1 : Int32))]) [0, 1, 2, 3] rfl (w_X10_trip_67 C rt (fun q11 h => ?_) h)
        · refine x_iload_n C 56 97 rfl 1 rfl rfl ?_
          refine x_if_ne C 57 98 105 rfl rfl (fun c12 => ?_) (fun c12 => ?_)
          · replace h := h.2 c12
            refine x_iload_n C 60 105 rfl 1 rfl rfl ?_
            refine x_iconst (v := (1 : Int32)) C 61 106 rfl (by decide) ?_
            refine x_icmp_ne C 62 107 118 rfl rfl (fun c13 => ?_) (fun c13 => ?_)
            · replace h := h.2 c13
              refine x_aload_n C 67 118 rfl 0 rfl rfl ?_
              refine x_iload_n C 68 119 rfl 2 rfl rfl ?_
              refine x_callWVZ (ci := 8) (q0 := 0) (q := (RX10, TX10, 34)) C 69 120 (c_X10_falls (xl x) (xD x) (xk x) (xg x) aS sS sL q11 _ h) rfl wwGood (mem4 wq_29_19 wq_29_20 wq_29_21 wq_1_5) wq_29_22 1 ok_X10_falls rfl ⟨by decide, by decide⟩ (Nat.le_of_ble_eq_true rfl) ⟨Nat.le_refl _, Nat.le_refl _⟩ ⟨rfl, rfl⟩ rfl rfl rfl (fun r14 _ h => ?_)
              refine x_if_eq C 70 123 130 rfl rfl (fun c15 => ?_) (fun c15 => ?_)
              · replace h := h.1 c15
                refine x_iconst (v := (0 : Int32)) C 73 130 rfl (by decide) ?_
                exact x_iret C rt 74 131 rfl () rfl h
              · replace h := h.2 c15
                refine x_iconst (v := (1 : Int32)) C 71 126 rfl (by decide) ?_
                refine x_goto C 72 127 131 rfl rfl ?_
                exact x_iret C rt 74 131 rfl () rfl h
            · replace h := h.1 c13
              refine x_aload_n C 63 110 rfl 0 rfl rfl ?_
              refine x_iload_n C 64 111 rfl 2 rfl rfl ?_
              refine x_callWVI (ci := 8) (q0 := 0) (q := (RX10, TX10, 34)) C 65 112 (c_X10_threadsOf (xl x) (xD x) (xk x) (xg x) aS sS sL q11 _ h) rfl wwGood (mem4 wq_29_15 wq_29_16 wq_29_17 wq_1_5) wq_29_18 1 ok_X10_threadsOf rfl ⟨by decide, by decide⟩ (Nat.le_of_ble_eq_true rfl) ⟨Nat.le_refl _, Nat.le_refl _⟩ ⟨rfl, rfl⟩ rfl rfl rfl (fun r16 _ h => ?_)
              refine x_goto C 66 115 131 rfl rfl ?_
              exact x_iret C rt 74 131 rfl () rfl h
          · replace h := h.1 c12
            refine x_iload_n C 58 101 rfl 2 rfl rfl ?_
            refine x_goto C 59 102 131 rfl rfl ?_
            exact x_iret C rt 74 131 rfl () rfl h
      · replace h := h.2 c4
        refine x_bipush (v := (-2 : Int32)) C 29 51 rfl (by decide) ?_
        exact x_iret C rt 30 53 rfl () rfl h
  · replace h := h.1 c2
    refine x_iconst (v := (-1 : Int32)) C 6 12 rfl (by decide) ?_
    exact x_iret C rt 7 13 rfl () rfl h
theorem c_X10_trip (l : Launch) (D : va_G) (k : ClassId × ClassId) (g : Nat → Nat) (aS : Nat → Nat) (sS : St) (sL : Int64) (p1 : Int32) (K : Int32 → Prop) (h : wp_X10_trip sS sL p1 K) : ConI l yX10_trip (Cond.code yX10_trip cX10_trip 4 (some .int) :: wsL_law) ({ frames := 3, cells := 0, slots := 0, locals := 77 } : Room) D k g [.ref (aS 0), .int p1] (fl [wdS k aS sS sL]) (fun (u : Unit) => fl [wdS k aS sS sL]) (fun (r : Int32) (_ : Unit) => K r) := by
  refine ConI.of (tb := tb_X10_trip) (cc := cX10_trip) (nL := 4) (by decide) rfl tbk_X10_trip (Nat.le_of_ble_eq_true rfl) ?_
  intro x hl hD hk hg C rt
  subst hl hD hk hg
  exact w_X10_trip C rt h
set_option maxHeartbeats 4000000 in
set_option maxRecDepth 100000 in
theorem w_X10_fallsBy_2 {x : CT} {aS : Nat → Nat} {sS : St} {sL : Int64} {x1 : Int32} {x2 : Int32} {K : Int32 → Prop} {E32 : Int32 → Prop} (C : Cx x cX10_fallsBy tb_X10_fallsBy 5 RX10 (Cond.code yX10_fallsBy cX10_fallsBy 5 (some .boolean) :: wsL_law) ({ frames := 1, cells := 0, slots := 0, locals := 23 } : Room)) (rt : RetZ x 0 0 (fun (u : Unit) => fl [wdS (xk x) aS sS sL]) (fun (r : Int32) (_ : Unit) => K r)) (hE32 : ∀ q : Int32, E32 q → Wx x 5 0 0 (fl [wdS (xk x) aS sS sL]) [(4, .int q)] 32 []) {q1 : Int32} (h : Lp (F_X10_fallsBy_2 sS sL x1 x2 K E32) q1) : Wx x 5 0 0 (fl [wdS (xk x) aS sS sL]) [(0, .ref (aS 0)), (1, .int x1), (2, .int x2), (3, .int q1)] 2 [] := by
  refine lp_walk (P := fun q1 => Wx x 5 0 0 (fl [wdS (xk x) aS sS sL]) [(0, .ref (aS 0)), (1, .int x1), (2, .int x2), (3, .int q1)] 2 []) (fun q1 R2 hR2 h => ?_) h
  refine x_iload_n C 2 2 rfl 3 rfl rfl ?_
  refine x_iload_n C 3 3 rfl 2 rfl rfl ?_
  refine x_icmp_ge C 4 4 50 rfl rfl (fun c2 => ?_) (fun c2 => ?_)
  · replace h := h.1 c2
    refine x_iconst (v := (0 : Int32)) C 29 50 rfl (by decide) ?_
    exact x_zret C rt 30 51 rfl zb_0 () rfl h
  · replace h := h.2 c2
    refine x_aload_n C 5 7 rfl 0 rfl rfl ?_
    refine x_iload_n C 6 8 rfl 1 rfl rfl ?_
    refine x_aload_n C 7 9 rfl 0 rfl rfl ?_
    refine x_get (v := .ref (aS 20)) C 8 10 rfl fi_X10 0 rfl rfl 32 (by decide) (mc wq_6_1) rfl ?_
    refine x_iload_n C 9 13 rfl 3 rfl rfl ?_
    obtain ⟨hi, h⟩ := h
    refine x_iald (f := sS 32) C 10 14 rfl 20 rfl hi ?_
    refine x_aload_n C 11 15 rfl 0 rfl rfl ?_
    refine x_get (v := .ref (aS 20)) C 12 16 rfl fi_X10 0 rfl rfl 32 (by decide) (mc wq_6_1) rfl ?_
    refine x_iload_n C 13 19 rfl 3 rfl rfl ?_
    obtain ⟨hi, h⟩ := h
    refine x_iald (f := sS 32) C 14 20 rfl 20 rfl hi ?_
    refine x_callWVI (ci := 8) (q0 := 0) (q := (RX10, TX10, 34)) C 15 21 (c_X10_digit (xl x) (xD x) (xk x) (xg x) aS sS sL x1 (sS 32 q1.toNatClampNeg) (sS 32 q1.toNatClampNeg) _ h) rfl wwGood (mem4 wq_23_5 wq_23_6 wq_23_7 wq_1_5) wq_23_8 3 ok_X10_digit rfl ⟨by decide, by decide⟩ (Nat.le_of_ble_eq_true rfl) ⟨Nat.le_refl _, Nat.le_refl _⟩ ⟨rfl, rfl⟩ rfl rfl rfl (fun r3 _ h => ?_)
    refine x_istore (lv' := [(0, .ref (aS 0)), (1, .int x1), (2, .int x2), (3, .int q1), (4, .int r3)]) C 16 24 rfl (by decide) [1, 2, 3, 4, 0] rfl ?_
    refine x_iload C 17 26 rfl 4 rfl ?_
    refine x_iconst (v := (1 : Int32)) C 18 28 rfl (by decide) ?_
    refine x_icmp_eq C 19 29 44 rfl rfl (fun c4 => ?_) (fun c4 => ?_)
    · replace h := h.1 c4
      obtain ⟨y5, ey5⟩ : ∃ y : Int32, y = q1 + (1 : Int32) := ⟨_, rfl⟩
      replace h := h y5 ey5
      refine x_iinc (v := y5) (lv' := [(0, .ref (aS 0)), (1, .int x1), (2, .int x2), (3, .int y5)]) C 27 44 rfl 3 rfl (by rw [ey5]; rfl) (by decide) [1, 2, 3, 0] rfl ?_
      refine x_goto C 28 47 2 rfl rfl ?_
      exact x_sub [0, 1, 2, 3] rfl (hR2 y5 h)
    · replace h := h.2 c4
      exact x_sub [4] rfl (hE32 r3 h)
set_option maxHeartbeats 4000000 in
set_option maxRecDepth 100000 in
theorem w_X10_fallsBy {x : CT} {aS : Nat → Nat} {sS : St} {sL : Int64} {p1 : Int32} {p2 : Int32} {K : Int32 → Prop} (C : Cx x cX10_fallsBy tb_X10_fallsBy 5 RX10 (Cond.code yX10_fallsBy cX10_fallsBy 5 (some .boolean) :: wsL_law) ({ frames := 1, cells := 0, slots := 0, locals := 23 } : Room)) (rt : RetZ x 0 0 (fun (u : Unit) => fl [wdS (xk x) aS sS sL]) (fun (r : Int32) (_ : Unit) => K r)) (h : wp_X10_fallsBy sS sL p1 p2 K) : Wx x 5 0 0 (fl [wdS (xk x) aS sS sL]) [(0, .ref (aS 0)), (1, .int p1), (2, .int p2)] 0 [] := by
  unfold wp_X10_fallsBy at h
  refine x_iconst (v := (0 : Int32)) C 0 0 rfl (by decide) ?_
  refine x_istore_n (lv' := [(0, .ref (aS 0)), (1, .int p1), (2, .int p2), (3, .int (0 : Int32))]) C 1 1 rfl rfl (by decide) [1, 2, 3, 0] rfl ?_
  refine x_sub (lv' := [(0, .ref (aS 0)), (1, .int p1), (2, .int p2), (3, .int (0 : Int32))]) [0, 1, 2, 3] rfl (w_X10_fallsBy_2 C rt (fun q6 h => ?_) h)
  · refine x_iload C 20 32 rfl 0 rfl ?_
    refine x_iconst (v := (2 : Int32)) C 21 34 rfl (by decide) ?_
    refine x_icmp_ne C 22 35 42 rfl rfl (fun c7 => ?_) (fun c7 => ?_)
    · replace h := h.2 c7
      refine x_iconst (v := (0 : Int32)) C 25 42 rfl (by decide) ?_
      exact x_zret C rt 26 43 rfl zb_0 () rfl h
    · replace h := h.1 c7
      refine x_iconst (v := (1 : Int32)) C 23 38 rfl (by decide) ?_
      refine x_goto C 24 39 43 rfl rfl ?_
      exact x_zret C rt 26 43 rfl zb_1 () rfl h
theorem c_X10_fallsBy (l : Launch) (D : va_G) (k : ClassId × ClassId) (g : Nat → Nat) (aS : Nat → Nat) (sS : St) (sL : Int64) (p1 : Int32) (p2 : Int32) (K : Int32 → Prop) (h : wp_X10_fallsBy sS sL p1 p2 K) : ConZ l yX10_fallsBy (Cond.code yX10_fallsBy cX10_fallsBy 5 (some .boolean) :: wsL_law) ({ frames := 1, cells := 0, slots := 0, locals := 23 } : Room) D k g [.ref (aS 0), .int p1, .int p2] (fl [wdS k aS sS sL]) (fun (u : Unit) => fl [wdS k aS sS sL]) (fun (r : Int32) (_ : Unit) => K r) := by
  refine ConZ.of (tb := tb_X10_fallsBy) (cc := cX10_fallsBy) (nL := 5) (by decide) rfl tbk_X10_fallsBy (Nat.le_of_ble_eq_true rfl) ?_
  intro x hl hD hk hg C rt
  subst hl hD hk hg
  exact w_X10_fallsBy C rt h
set_option maxHeartbeats 4000000 in
set_option maxRecDepth 100000 in
theorem w_X10_isSlow_5 {x : CT} {aS : Nat → Nat} {sS : St} {sL : Int64} {x1 : Int32} {x2 : Int32} {K : Int32 → Prop} (C : Cx x cX10_isSlow tb_X10_isSlow 5 RX10 (Cond.code yX10_isSlow cX10_isSlow 5 (some .boolean) :: wsL_law) ({ frames := 2, cells := 0, slots := 0, locals := 47 } : Room)) (rt : RetZ x 0 0 (fun (u : Unit) => fl [wdS (xk x) aS sS sL]) (fun (r : Int32) (_ : Unit) => K r))  {q1 : Int32 × Int32} (h : Lp (F_X10_isSlow_5 sS sL x1 x2 K) q1) : Wx x 5 0 0 (fl [wdS (xk x) aS sS sL]) [(0, .ref (aS 0)), (1, .int x1), (2, .int x2), (3, .int q1.1), (4, .int q1.2)] 5 [] := by
  refine lp_walk (P := fun q1 => Wx x 5 0 0 (fl [wdS (xk x) aS sS sL]) [(0, .ref (aS 0)), (1, .int x1), (2, .int x2), (3, .int q1.1), (4, .int q1.2)] 5 []) (fun q1 R5 hR5 h => ?_) h
  refine x_iload C 4 5 rfl 4 rfl ?_
  refine x_aload_n C 5 7 rfl 0 rfl rfl ?_
  refine x_get (v := .int (sS 22 0)) C 6 8 rfl fi_X10 0 rfl rfl 22 (by decide) (mc wq_22_8) rfl ?_
  refine x_icmp_ge C 7 11 67 rfl rfl (fun c2 => ?_) (fun c2 => ?_)
  · replace h := h.1 c2
    refine x_iload_n C 36 67 rfl 3 rfl rfl ?_
    exact x_zret C rt 37 68 rfl h.1 () rfl h.2
  · replace h := h.2 c2
    refine x_iload_n C 8 14 rfl 3 rfl rfl ?_
    refine x_if_eq C 9 15 67 rfl rfl (fun c3 => ?_) (fun c3 => ?_)
    · replace h := h.1 c3
      refine x_iload_n C 36 67 rfl 3 rfl rfl ?_
      exact x_zret C rt 37 68 rfl h.1 () rfl h.2
    · replace h := h.2 c3
      refine x_aload_n C 10 18 rfl 0 rfl rfl ?_
      refine x_get (v := .ref (aS 13)) C 11 19 rfl fi_X10 0 rfl rfl 23 (by decide) (mc wq_5_17) rfl ?_
      refine x_iload C 12 22 rfl 4 rfl ?_
      obtain ⟨hi, h⟩ := h
      refine x_iald (f := sS 23) C 13 24 rfl 13 rfl hi ?_
      refine x_iload_n C 14 25 rfl 1 rfl rfl ?_
      refine x_icmp_ne C 15 26 55 rfl rfl (fun c4 => ?_) (fun c4 => ?_)
      · replace h := h.2 c4
        refine x_iconst (v := (1 : Int32)) C 30 55 rfl (by decide) ?_
        refine x_goto C 31 56 60 rfl rfl ?_
        refine x_istore_n (lv' := [(0, .ref (aS 0)), (1, .int x1), (2, .int x2), (3, .int (1 : Int32)), (4, .int q1.2)]) C 33 60 rfl rfl (by decide) [1, 2, 3, 0, 4] rfl ?_
        obtain ⟨y5, ey5⟩ : ∃ y : Int32, y = q1.2 + (1 : Int32) := ⟨_, rfl⟩
        replace h := h y5 ey5
        refine x_iinc (v := y5) (lv' := [(0, .ref (aS 0)), (1, .int x1), (2, .int x2), (3, .int (1 : Int32)), (4, .int y5)]) C 34 61 rfl 4 rfl (by rw [ey5]; rfl) (by decide) [1, 2, 3, 4, 0] rfl ?_
        refine x_goto C 35 64 5 rfl rfl ?_
        exact x_sub [0, 1, 2, 3, 4] rfl (hR5 ((1 : Int32), y5) h)
      · replace h := h.1 c4
        refine x_aload_n C 16 29 rfl 0 rfl rfl ?_
        refine x_get (v := .ref (aS 14)) C 17 30 rfl fi_X10 0 rfl rfl 24 (by decide) (mc wq_5_18) rfl ?_
        refine x_iload C 18 33 rfl 4 rfl ?_
        obtain ⟨hi, h⟩ := h
        refine x_iald (f := sS 24) C 19 35 rfl 14 rfl hi ?_
        refine x_iload_n C 20 36 rfl 1 rfl rfl ?_
        refine x_icmp_ne C 21 37 55 rfl rfl (fun c6 => ?_) (fun c6 => ?_)
        · replace h := h.2 c6
          refine x_iconst (v := (1 : Int32)) C 30 55 rfl (by decide) ?_
          refine x_goto C 31 56 60 rfl rfl ?_
          refine x_istore_n (lv' := [(0, .ref (aS 0)), (1, .int x1), (2, .int x2), (3, .int (1 : Int32)), (4, .int q1.2)]) C 33 60 rfl rfl (by decide) [1, 2, 3, 0, 4] rfl ?_
          obtain ⟨y7, ey7⟩ : ∃ y : Int32, y = q1.2 + (1 : Int32) := ⟨_, rfl⟩
          replace h := h y7 ey7
          refine x_iinc (v := y7) (lv' := [(0, .ref (aS 0)), (1, .int x1), (2, .int x2), (3, .int (1 : Int32)), (4, .int y7)]) C 34 61 rfl 4 rfl (by rw [ey7]; rfl) (by decide) [1, 2, 3, 4, 0] rfl ?_
          refine x_goto C 35 64 5 rfl rfl ?_
          exact x_sub [0, 1, 2, 3, 4] rfl (hR5 ((1 : Int32), y7) h)
        · replace h := h.1 c6
          refine x_aload_n C 22 40 rfl 0 rfl rfl ?_
          refine x_aload_n C 23 41 rfl 0 rfl rfl ?_
          refine x_get (v := .ref (aS 15)) C 24 42 rfl fi_X10 0 rfl rfl 25 (by decide) (mc wq_5_19) rfl ?_
          refine x_iload C 25 45 rfl 4 rfl ?_
          obtain ⟨hi, h⟩ := h
          refine x_iald (f := sS 25) C 26 47 rfl 15 rfl hi ?_
          refine x_iload_n C 27 48 rfl 2 rfl rfl ?_
          refine x_callWVZ (ci := 8) (q0 := 0) (q := (RX10, TX10, 34)) C 28 49 (c_X10_fallsBy (xl x) (xD x) (xk x) (xg x) aS sS sL (sS 25 q1.2.toNatClampNeg) x2 _ h) rfl wwGood (mem4 wq_31_0 wq_31_1 wq_31_2 wq_1_5) wq_31_3 2 ok_X10_fallsBy rfl ⟨by decide, by decide⟩ (Nat.le_of_ble_eq_true rfl) ⟨Nat.le_refl _, Nat.le_refl _⟩ ⟨rfl, rfl⟩ rfl rfl rfl (fun r8 _ h => ?_)
          refine x_if_eq C 29 52 59 rfl rfl (fun c9 => ?_) (fun c9 => ?_)
          · replace h := h.1 c9
            refine x_iconst (v := (0 : Int32)) C 32 59 rfl (by decide) ?_
            refine x_istore_n (lv' := [(0, .ref (aS 0)), (1, .int x1), (2, .int x2), (3, .int (0 : Int32)), (4, .int q1.2)]) C 33 60 rfl rfl (by decide) [1, 2, 3, 0, 4] rfl ?_
            obtain ⟨y10, ey10⟩ : ∃ y : Int32, y = q1.2 + (1 : Int32) := ⟨_, rfl⟩
            replace h := h y10 ey10
            refine x_iinc (v := y10) (lv' := [(0, .ref (aS 0)), (1, .int x1), (2, .int x2), (3, .int (0 : Int32)), (4, .int y10)]) C 34 61 rfl 4 rfl (by rw [ey10]; rfl) (by decide) [1, 2, 3, 4, 0] rfl ?_
            refine x_goto C 35 64 5 rfl rfl ?_
            exact x_sub [0, 1, 2, 3, 4] rfl (hR5 ((0 : Int32), y10) h)
          · replace h := h.2 c9
            refine x_iconst (v := (1 : Int32)) C 30 55 rfl (by decide) ?_
            refine x_goto C 31 56 60 rfl rfl ?_
            refine x_istore_n (lv' := [(0, .ref (aS 0)), (1, .int x1), (2, .int x2), (3, .int (1 : Int32)), (4, .int q1.2)]) C 33 60 rfl rfl (by decide) [1, 2, 3, 0, 4] rfl ?_
            obtain ⟨y11, ey11⟩ : ∃ y : Int32, y = q1.2 + (1 : Int32) := ⟨_, rfl⟩
            replace h := h y11 ey11
            refine x_iinc (v := y11) (lv' := [(0, .ref (aS 0)), (1, .int x1), (2, .int x2), (3, .int (1 : Int32)), (4, .int y11)]) C 34 61 rfl 4 rfl (by rw [ey11]; rfl) (by decide) [1, 2, 3, 4, 0] rfl ?_
            refine x_goto C 35 64 5 rfl rfl ?_
            exact x_sub [0, 1, 2, 3, 4] rfl (hR5 ((1 : Int32), y11) h)
set_option maxHeartbeats 4000000 in
set_option maxRecDepth 100000 in
theorem w_X10_isSlow {x : CT} {aS : Nat → Nat} {sS : St} {sL : Int64} {p1 : Int32} {p2 : Int32} {K : Int32 → Prop} (C : Cx x cX10_isSlow tb_X10_isSlow 5 RX10 (Cond.code yX10_isSlow cX10_isSlow 5 (some .boolean) :: wsL_law) ({ frames := 2, cells := 0, slots := 0, locals := 47 } : Room)) (rt : RetZ x 0 0 (fun (u : Unit) => fl [wdS (xk x) aS sS sL]) (fun (r : Int32) (_ : Unit) => K r)) (h : wp_X10_isSlow sS sL p1 p2 K) : Wx x 5 0 0 (fl [wdS (xk x) aS sS sL]) [(0, .ref (aS 0)), (1, .int p1), (2, .int p2)] 0 [] := by
  unfold wp_X10_isSlow at h
  refine x_iconst (v := (1 : Int32)) C 0 0 rfl (by decide) ?_
  refine x_istore_n (lv' := [(0, .ref (aS 0)), (1, .int p1), (2, .int p2), (3, .int (1 : Int32))]) C 1 1 rfl rfl (by decide) [1, 2, 3, 0] rfl ?_
  refine x_iconst (v := (0 : Int32)) C 2 2 rfl (by decide) ?_
  refine x_istore (lv' := [(0, .ref (aS 0)), (1, .int p1), (2, .int p2), (3, .int (1 : Int32)), (4, .int (0 : Int32))]) C 3 3 rfl (by decide) [1, 2, 3, 4, 0] rfl ?_
  refine x_sub (lv' := [(0, .ref (aS 0)), (1, .int p1), (2, .int p2), (3, .int (1 : Int32)), (4, .int (0 : Int32))]) [0, 1, 2, 3, 4] rfl (w_X10_isSlow_5 C rt h)
theorem c_X10_isSlow (l : Launch) (D : va_G) (k : ClassId × ClassId) (g : Nat → Nat) (aS : Nat → Nat) (sS : St) (sL : Int64) (p1 : Int32) (p2 : Int32) (K : Int32 → Prop) (h : wp_X10_isSlow sS sL p1 p2 K) : ConZ l yX10_isSlow (Cond.code yX10_isSlow cX10_isSlow 5 (some .boolean) :: wsL_law) ({ frames := 2, cells := 0, slots := 0, locals := 47 } : Room) D k g [.ref (aS 0), .int p1, .int p2] (fl [wdS k aS sS sL]) (fun (u : Unit) => fl [wdS k aS sS sL]) (fun (r : Int32) (_ : Unit) => K r) := by
  refine ConZ.of (tb := tb_X10_isSlow) (cc := cX10_isSlow) (nL := 5) (by decide) rfl tbk_X10_isSlow (Nat.le_of_ble_eq_true rfl) ?_
  intro x hl hD hk hg C rt
  subst hl hD hk hg
  exact w_X10_isSlow C rt h
set_option maxHeartbeats 4000000 in
set_option maxRecDepth 100000 in
theorem wj_X10_slow_223 {x : CT} {aS : Nat → Nat} {sS : St} {sL : Int64} {x1 : Int32} {x2 : Int32} {x3 : Int32} {x4 : Int32} {x5 : Int32} {t0 : Int32} {K : Int32 → St → Prop} {E239 : Int32 × St → Prop} {R72 : Int32 × St → Prop} (C : Cx x cX10_slow tb_X10_slow 9 RX10 (Cond.code yX10_slow cX10_slow 9 (some .int) :: wsL_law) ({ frames := 3, cells := 0, slots := 0, locals := 76 } : Room)) (rt : RetI x 0 0 (fun (u : St) => fl [wdS (xk x) aS u sL]) (fun (r : Int32) (u : St) => K r u)) (hE239 : ∀ q : Int32 × St, E239 q → Wx x 9 0 0 (fl [wdS (xk x) aS q.2 sL]) [(0, .ref (aS 0)), (3, .int q.1)] 239 []) (hR72 : ∀ q : Int32 × St, R72 q → Wx x 9 0 0 (fl [wdS (xk x) aS q.2 sL]) [(0, .ref (aS 0)), (1, .int x1), (2, .int x2), (3, .int x3), (4, .int x4), (5, .int q.1)] 72 []) (h : J_X10_slow_223 sS sL x1 x3 x5 t0 E239 R72) : Wx x 9 0 0 (fl [wdS (xk x) aS sS sL]) [(0, .ref (aS 0)), (1, .int x1), (2, .int x2), (3, .int x3), (4, .int x4), (5, .int x5)] 223 [.int t0] := by
  unfold J_X10_slow_223 at h
  refine x_istore (lv' := [(0, .ref (aS 0)), (1, .int x1), (2, .int x2), (3, .int x3), (4, .int x4), (5, .int x5), (6, .int t0)]) C 136 223 rfl (by decide) [1, 2, 3, 4, 5, 6, 0] rfl ?_
  refine x_iload C 137 225 rfl 6 rfl ?_
  refine x_if_eq C 138 227 277 rfl rfl (fun c24 => ?_) (fun c24 => ?_)
  · replace h := h.1 c24
    obtain ⟨y25, ey25⟩ : ∃ y : Int32, y = x5 + (1 : Int32) := ⟨_, rfl⟩
    replace h := h y25 ey25
    refine x_iinc (v := y25) (lv' := [(0, .ref (aS 0)), (1, .int x1), (2, .int x2), (3, .int x3), (4, .int x4), (5, .int y25)]) C 167 277 rfl 5 rfl (by rw [ey25]; rfl) (by decide) [1, 2, 3, 4, 5, 0] rfl ?_
    refine x_goto C 168 280 72 rfl rfl ?_
    exact x_sub [0, 1, 2, 3, 4, 5] rfl (hR72 (y25, sS) h)
  · replace h := h.2 c24
    refine x_aload_n C 139 230 rfl 0 rfl rfl ?_
    refine x_iload_n C 140 231 rfl 1 rfl rfl ?_
    refine x_iload_n C 141 232 rfl 3 rfl rfl ?_
    refine x_callWVZ (ci := 8) (q0 := 0) (q := (RX10, TX10, 34)) C 142 233 (c_X10_isSlow (xl x) (xD x) (xk x) (xg x) aS sS sL x1 x3 _ h) rfl wwGood (mem4 wq_30_20 wq_30_21 wq_30_22 wq_1_5) wq_30_23 2 ok_X10_isSlow rfl ⟨by decide, by decide⟩ (Nat.le_of_ble_eq_true rfl) ⟨Nat.le_refl _, Nat.le_refl _⟩ ⟨rfl, rfl⟩ rfl rfl rfl (fun r26 _ h => ?_)
    refine x_if_eq C 143 236 277 rfl rfl (fun c27 => ?_) (fun c27 => ?_)
    · replace h := h.1 c27
      obtain ⟨y28, ey28⟩ : ∃ y : Int32, y = x5 + (1 : Int32) := ⟨_, rfl⟩
      replace h := h y28 ey28
      refine x_iinc (v := y28) (lv' := [(0, .ref (aS 0)), (1, .int x1), (2, .int x2), (3, .int x3), (4, .int x4), (5, .int y28)]) C 167 277 rfl 5 rfl (by rw [ey28]; rfl) (by decide) [1, 2, 3, 4, 5, 0] rfl ?_
      refine x_goto C 168 280 72 rfl rfl ?_
      exact x_sub [0, 1, 2, 3, 4, 5] rfl (hR72 (y28, sS) h)
    · replace h := h.2 c27
      exact x_sub [0, 3] rfl (hE239 (x3, sS) h)
set_option maxHeartbeats 4000000 in
set_option maxRecDepth 100000 in
theorem wj_X10_slow_218 {x : CT} {aS : Nat → Nat} {sS : St} {sL : Int64} {x1 : Int32} {x2 : Int32} {x3 : Int32} {x4 : Int32} {x5 : Int32} {K : Int32 → St → Prop} {E239 : Int32 × St → Prop} {R72 : Int32 × St → Prop} (C : Cx x cX10_slow tb_X10_slow 9 RX10 (Cond.code yX10_slow cX10_slow 9 (some .int) :: wsL_law) ({ frames := 3, cells := 0, slots := 0, locals := 76 } : Room)) (rt : RetI x 0 0 (fun (u : St) => fl [wdS (xk x) aS u sL]) (fun (r : Int32) (u : St) => K r u)) (hE239 : ∀ q : Int32 × St, E239 q → Wx x 9 0 0 (fl [wdS (xk x) aS q.2 sL]) [(0, .ref (aS 0)), (3, .int q.1)] 239 []) (hR72 : ∀ q : Int32 × St, R72 q → Wx x 9 0 0 (fl [wdS (xk x) aS q.2 sL]) [(0, .ref (aS 0)), (1, .int x1), (2, .int x2), (3, .int x3), (4, .int x4), (5, .int q.1)] 72 []) (h : J_X10_slow_218 sS sL x1 x3 x5 E239 R72) : Wx x 9 0 0 (fl [wdS (xk x) aS sS sL]) [(0, .ref (aS 0)), (1, .int x1), (2, .int x2), (3, .int x3), (4, .int x4), (5, .int x5)] 218 [] := by
  unfold J_X10_slow_218 at h
  refine x_iconst (v := (1 : Int32)) C 133 218 rfl (by decide) ?_
  refine x_goto C 134 219 223 rfl rfl ?_
  exact x_sub (lv' := [(0, .ref (aS 0)), (1, .int x1), (2, .int x2), (3, .int x3), (4, .int x4), (5, .int x5)]) [0, 1, 2, 3, 4, 5] rfl (wj_X10_slow_223 C rt hE239 hR72 h)
set_option maxHeartbeats 4000000 in
set_option maxRecDepth 100000 in
theorem wj_X10_slow_222 {x : CT} {aS : Nat → Nat} {sS : St} {sL : Int64} {x1 : Int32} {x2 : Int32} {x3 : Int32} {x4 : Int32} {x5 : Int32} {K : Int32 → St → Prop} {E239 : Int32 × St → Prop} {R72 : Int32 × St → Prop} (C : Cx x cX10_slow tb_X10_slow 9 RX10 (Cond.code yX10_slow cX10_slow 9 (some .int) :: wsL_law) ({ frames := 3, cells := 0, slots := 0, locals := 76 } : Room)) (rt : RetI x 0 0 (fun (u : St) => fl [wdS (xk x) aS u sL]) (fun (r : Int32) (u : St) => K r u)) (hE239 : ∀ q : Int32 × St, E239 q → Wx x 9 0 0 (fl [wdS (xk x) aS q.2 sL]) [(0, .ref (aS 0)), (3, .int q.1)] 239 []) (hR72 : ∀ q : Int32 × St, R72 q → Wx x 9 0 0 (fl [wdS (xk x) aS q.2 sL]) [(0, .ref (aS 0)), (1, .int x1), (2, .int x2), (3, .int x3), (4, .int x4), (5, .int q.1)] 72 []) (h : J_X10_slow_222 sS sL x1 x3 x5 E239 R72) : Wx x 9 0 0 (fl [wdS (xk x) aS sS sL]) [(0, .ref (aS 0)), (1, .int x1), (2, .int x2), (3, .int x3), (4, .int x4), (5, .int x5)] 222 [] := by
  unfold J_X10_slow_222 at h
  refine x_iconst (v := (0 : Int32)) C 135 222 rfl (by decide) ?_
  exact x_sub (lv' := [(0, .ref (aS 0)), (1, .int x1), (2, .int x2), (3, .int x3), (4, .int x4), (5, .int x5)]) [0, 1, 2, 3, 4, 5] rfl (wj_X10_slow_223 C rt hE239 hR72 h)
set_option maxHeartbeats 4000000 in
set_option maxRecDepth 100000 in
theorem wj_X10_slow_183 {x : CT} {aS : Nat → Nat} {sS : St} {sL : Int64} {x1 : Int32} {x2 : Int32} {x3 : Int32} {x4 : Int32} {x5 : Int32} {K : Int32 → St → Prop} {E239 : Int32 × St → Prop} {R72 : Int32 × St → Prop} (C : Cx x cX10_slow tb_X10_slow 9 RX10 (Cond.code yX10_slow cX10_slow 9 (some .int) :: wsL_law) ({ frames := 3, cells := 0, slots := 0, locals := 76 } : Room)) (rt : RetI x 0 0 (fun (u : St) => fl [wdS (xk x) aS u sL]) (fun (r : Int32) (u : St) => K r u)) (hE239 : ∀ q : Int32 × St, E239 q → Wx x 9 0 0 (fl [wdS (xk x) aS q.2 sL]) [(0, .ref (aS 0)), (3, .int q.1)] 239 []) (hR72 : ∀ q : Int32 × St, R72 q → Wx x 9 0 0 (fl [wdS (xk x) aS q.2 sL]) [(0, .ref (aS 0)), (1, .int x1), (2, .int x2), (3, .int x3), (4, .int x4), (5, .int q.1)] 72 []) (h : J_X10_slow_183 sS sL x1 x3 x5 E239 R72) : Wx x 9 0 0 (fl [wdS (xk x) aS sS sL]) [(0, .ref (aS 0)), (1, .int x1), (2, .int x2), (3, .int x3), (4, .int x4), (5, .int x5)] 183 [] := by
  unfold J_X10_slow_183 at h
  refine x_iload_n C 112 183 rfl 3 rfl rfl ?_
  refine x_iconst (v := (3 : Int32)) C 113 184 rfl (by decide) ?_
  refine x_icmp_lt C 114 185 218 rfl rfl (fun c23 => ?_) (fun c23 => ?_)
  · replace h := h.1 c23
    exact x_sub (lv' := [(0, .ref (aS 0)), (1, .int x1), (2, .int x2), (3, .int x3), (4, .int x4), (5, .int x5)]) [0, 1, 2, 3, 4, 5] rfl (wj_X10_slow_218 C rt hE239 hR72 h)
  · replace h := h.2 c23
    refine x_aload_n C 115 188 rfl 0 rfl rfl ?_
    refine x_get (v := .ref (aS 20)) C 116 189 rfl fi_X10 0 rfl rfl 32 (by decide) (mc wq_6_1) rfl ?_
    refine x_iconst (v := (0 : Int32)) C 117 192 rfl (by decide) ?_
    refine x_iald (f := sS 32) C 118 193 rfl 20 rfl (vpi rfl) ?_
    refine x_aload_n C 119 194 rfl 0 rfl rfl ?_
    refine x_get (v := .ref (aS 20)) C 120 195 rfl fi_X10 0 rfl rfl 32 (by decide) (mc wq_6_1) rfl ?_
    refine x_iconst (v := (2 : Int32)) C 121 198 rfl (by decide) ?_
    refine x_iald (f := sS 32) C 122 199 rfl 20 rfl (vpi rfl) ?_
    refine x_icmp_eq C 123 200 222 rfl rfl (fun c29 => ?_) (fun c29 => ?_)
    · replace h := h.1 c29
      exact x_sub (lv' := [(0, .ref (aS 0)), (1, .int x1), (2, .int x2), (3, .int x3), (4, .int x4), (5, .int x5)]) [0, 1, 2, 3, 4, 5] rfl (wj_X10_slow_222 C rt hE239 hR72 h)
    · replace h := h.2 c29
      refine x_aload_n C 124 203 rfl 0 rfl rfl ?_
      refine x_get (v := .ref (aS 20)) C 125 204 rfl fi_X10 0 rfl rfl 32 (by decide) (mc wq_6_1) rfl ?_
      refine x_iconst (v := (1 : Int32)) C 126 207 rfl (by decide) ?_
      refine x_iald (f := sS 32) C 127 208 rfl 20 rfl (vpi rfl) ?_
      refine x_aload_n C 128 209 rfl 0 rfl rfl ?_
      refine x_get (v := .ref (aS 20)) C 129 210 rfl fi_X10 0 rfl rfl 32 (by decide) (mc wq_6_1) rfl ?_
      refine x_iconst (v := (2 : Int32)) C 130 213 rfl (by decide) ?_
      refine x_iald (f := sS 32) C 131 214 rfl 20 rfl (vpi rfl) ?_
      refine x_icmp_eq C 132 215 222 rfl rfl (fun c30 => ?_) (fun c30 => ?_)
      · replace h := h.1 c30
        exact x_sub (lv' := [(0, .ref (aS 0)), (1, .int x1), (2, .int x2), (3, .int x3), (4, .int x4), (5, .int x5)]) [0, 1, 2, 3, 4, 5] rfl (wj_X10_slow_222 C rt hE239 hR72 h)
      · replace h := h.2 c30
        exact x_sub (lv' := [(0, .ref (aS 0)), (1, .int x1), (2, .int x2), (3, .int x3), (4, .int x4), (5, .int x5)]) [0, 1, 2, 3, 4, 5] rfl (wj_X10_slow_218 C rt hE239 hR72 h)
set_option maxHeartbeats 4000000 in
set_option maxRecDepth 100000 in
theorem wj_X10_slow_162 {x : CT} {aS : Nat → Nat} {sS : St} {sL : Int64} {x1 : Int32} {x2 : Int32} {x3 : Int32} {x4 : Int32} {x5 : Int32} {t1 : Int32} {t2 : Int32} {K : Int32 → St → Prop} {E239 : Int32 × St → Prop} {R72 : Int32 × St → Prop} (C : Cx x cX10_slow tb_X10_slow 9 RX10 (Cond.code yX10_slow cX10_slow 9 (some .int) :: wsL_law) ({ frames := 3, cells := 0, slots := 0, locals := 76 } : Room)) (rt : RetI x 0 0 (fun (u : St) => fl [wdS (xk x) aS u sL]) (fun (r : Int32) (u : St) => K r u)) (hE239 : ∀ q : Int32 × St, E239 q → Wx x 9 0 0 (fl [wdS (xk x) aS q.2 sL]) [(0, .ref (aS 0)), (3, .int q.1)] 239 []) (hR72 : ∀ q : Int32 × St, R72 q → Wx x 9 0 0 (fl [wdS (xk x) aS q.2 sL]) [(0, .ref (aS 0)), (1, .int x1), (2, .int x2), (3, .int x3), (4, .int x4), (5, .int q.1)] 72 []) (h : J_X10_slow_162 sS sL x1 x3 x5 t1 t2 E239 R72) : Wx x 9 0 0 (fl [wdS (xk x) aS sS sL]) [(0, .ref (aS 0)), (1, .int x1), (2, .int x2), (3, .int x3), (4, .int x4), (5, .int x5)] 162 [.int t2, .int t1, .ref (aS 20)] := by
  unfold J_X10_slow_162 at h
  obtain ⟨hi, h⟩ := h
  obtain ⟨z21, ez21⟩ : ∃ z : St, z = ua sS 32 t1 t2 := ⟨_, rfl⟩
  replace h := h z21 ez21
  refine x_iast (f := sS 32) (ws' := fl [wdS (xk x) aS z21 sL]) C 99 162 rfl 20 rfl hi (by rw [ez21]; rfl) ?_
  refine x_iload_n C 100 163 rfl 3 rfl rfl ?_
  refine x_iconst (v := (2 : Int32)) C 101 164 rfl (by decide) ?_
  refine x_icmp_lt C 102 165 183 rfl rfl (fun c22 => ?_) (fun c22 => ?_)
  · replace h := h.1 c22
    exact x_sub (lv' := [(0, .ref (aS 0)), (1, .int x1), (2, .int x2), (3, .int x3), (4, .int x4), (5, .int x5)]) [0, 1, 2, 3, 4, 5] rfl (wj_X10_slow_183 C rt hE239 hR72 h)
  · replace h := h.2 c22
    refine x_aload_n C 103 168 rfl 0 rfl rfl ?_
    refine x_get (v := .ref (aS 20)) C 104 169 rfl fi_X10 0 rfl rfl 32 (by decide) (mc wq_6_1) rfl ?_
    refine x_iconst (v := (0 : Int32)) C 105 172 rfl (by decide) ?_
    refine x_iald (f := z21 32) C 106 173 rfl 20 rfl (vpi rfl) ?_
    refine x_aload_n C 107 174 rfl 0 rfl rfl ?_
    refine x_get (v := .ref (aS 20)) C 108 175 rfl fi_X10 0 rfl rfl 32 (by decide) (mc wq_6_1) rfl ?_
    refine x_iconst (v := (1 : Int32)) C 109 178 rfl (by decide) ?_
    refine x_iald (f := z21 32) C 110 179 rfl 20 rfl (vpi rfl) ?_
    refine x_icmp_eq C 111 180 222 rfl rfl (fun c31 => ?_) (fun c31 => ?_)
    · replace h := h.1 c31
      exact x_sub (lv' := [(0, .ref (aS 0)), (1, .int x1), (2, .int x2), (3, .int x3), (4, .int x4), (5, .int x5)]) [0, 1, 2, 3, 4, 5] rfl (wj_X10_slow_222 C rt hE239 hR72 h)
    · replace h := h.2 c31
      exact x_sub (lv' := [(0, .ref (aS 0)), (1, .int x1), (2, .int x2), (3, .int x3), (4, .int x4), (5, .int x5)]) [0, 1, 2, 3, 4, 5] rfl (wj_X10_slow_183 C rt hE239 hR72 h)
set_option maxHeartbeats 4000000 in
set_option maxRecDepth 100000 in
theorem wj_X10_slow_144 {x : CT} {aS : Nat → Nat} {sS : St} {sL : Int64} {x1 : Int32} {x2 : Int32} {x3 : Int32} {x4 : Int32} {x5 : Int32} {t1 : Int32} {t2 : Int32} {K : Int32 → St → Prop} {E239 : Int32 × St → Prop} {R72 : Int32 × St → Prop} (C : Cx x cX10_slow tb_X10_slow 9 RX10 (Cond.code yX10_slow cX10_slow 9 (some .int) :: wsL_law) ({ frames := 3, cells := 0, slots := 0, locals := 76 } : Room)) (rt : RetI x 0 0 (fun (u : St) => fl [wdS (xk x) aS u sL]) (fun (r : Int32) (u : St) => K r u)) (hE239 : ∀ q : Int32 × St, E239 q → Wx x 9 0 0 (fl [wdS (xk x) aS q.2 sL]) [(0, .ref (aS 0)), (3, .int q.1)] 239 []) (hR72 : ∀ q : Int32 × St, R72 q → Wx x 9 0 0 (fl [wdS (xk x) aS q.2 sL]) [(0, .ref (aS 0)), (1, .int x1), (2, .int x2), (3, .int x3), (4, .int x4), (5, .int q.1)] 72 []) (h : J_X10_slow_144 sS sL x1 x2 x3 x5 t1 t2 E239 R72) : Wx x 9 0 0 (fl [wdS (xk x) aS sS sL]) [(0, .ref (aS 0)), (1, .int x1), (2, .int x2), (3, .int x3), (4, .int x4), (5, .int x5)] 144 [.int t2, .int t1, .ref (aS 20)] := by
  unfold J_X10_slow_144 at h
  obtain ⟨hi, h⟩ := h
  obtain ⟨z19, ez19⟩ : ∃ z : St, z = ua sS 32 t1 t2 := ⟨_, rfl⟩
  replace h := h z19 ez19
  refine x_iast (f := sS 32) (ws' := fl [wdS (xk x) aS z19 sL]) C 88 144 rfl 20 rfl hi (by rw [ez19]; rfl) ?_
  refine x_aload_n C 89 145 rfl 0 rfl rfl ?_
  refine x_get (v := .ref (aS 20)) C 90 146 rfl fi_X10 0 rfl rfl 32 (by decide) (mc wq_6_1) rfl ?_
  refine x_iconst (v := (2 : Int32)) C 91 149 rfl (by decide) ?_
  refine x_iload_n C 92 150 rfl 2 rfl rfl ?_
  refine x_if_ne C 93 151 158 rfl rfl (fun c20 => ?_) (fun c20 => ?_)
  · replace h := h.2 c20
    refine x_iload C 96 158 rfl 5 rfl ?_
    refine x_iload_n C 97 160 rfl 2 rfl rfl ?_
    obtain ⟨hd, h⟩ := h
    refine x_irem C 98 161 rfl hd ?_
    exact x_sub (lv' := [(0, .ref (aS 0)), (1, .int x1), (2, .int x2), (3, .int x3), (4, .int x4), (5, .int x5)]) [0, 1, 2, 3, 4, 5] rfl (wj_X10_slow_162 C rt hE239 hR72 h)
  · replace h := h.1 c20
    refine x_iconst (v := (0 : Int32)) C 94 154 rfl (by decide) ?_
    refine x_goto C 95 155 162 rfl rfl ?_
    exact x_sub (lv' := [(0, .ref (aS 0)), (1, .int x1), (2, .int x2), (3, .int x3), (4, .int x4), (5, .int x5)]) [0, 1, 2, 3, 4, 5] rfl (wj_X10_slow_162 C rt hE239 hR72 h)
set_option maxHeartbeats 4000000 in
set_option maxRecDepth 100000 in
theorem wj_X10_slow_112 {x : CT} {aS : Nat → Nat} {sS : St} {sL : Int64} {x1 : Int32} {x2 : Int32} {x3 : Int32} {x4 : Int32} {x5 : Int32} {t1 : Int32} {t2 : Int32} {K : Int32 → St → Prop} {E239 : Int32 × St → Prop} {R72 : Int32 × St → Prop} (C : Cx x cX10_slow tb_X10_slow 9 RX10 (Cond.code yX10_slow cX10_slow 9 (some .int) :: wsL_law) ({ frames := 3, cells := 0, slots := 0, locals := 76 } : Room)) (rt : RetI x 0 0 (fun (u : St) => fl [wdS (xk x) aS u sL]) (fun (r : Int32) (u : St) => K r u)) (hE239 : ∀ q : Int32 × St, E239 q → Wx x 9 0 0 (fl [wdS (xk x) aS q.2 sL]) [(0, .ref (aS 0)), (3, .int q.1)] 239 []) (hR72 : ∀ q : Int32 × St, R72 q → Wx x 9 0 0 (fl [wdS (xk x) aS q.2 sL]) [(0, .ref (aS 0)), (1, .int x1), (2, .int x2), (3, .int x3), (4, .int x4), (5, .int q.1)] 72 []) (h : J_X10_slow_112 sS sL x1 x2 x3 x5 t1 t2 E239 R72) : Wx x 9 0 0 (fl [wdS (xk x) aS sS sL]) [(0, .ref (aS 0)), (1, .int x1), (2, .int x2), (3, .int x3), (4, .int x4), (5, .int x5)] 112 [.int t2, .int t1, .ref (aS 20)] := by
  unfold J_X10_slow_112 at h
  obtain ⟨hi, h⟩ := h
  obtain ⟨z16, ez16⟩ : ∃ z : St, z = ua sS 32 t1 t2 := ⟨_, rfl⟩
  replace h := h z16 ez16
  refine x_iast (f := sS 32) (ws' := fl [wdS (xk x) aS z16 sL]) C 68 112 rfl 20 rfl hi (by rw [ez16]; rfl) ?_
  refine x_aload_n C 69 113 rfl 0 rfl rfl ?_
  refine x_get (v := .ref (aS 20)) C 70 114 rfl fi_X10 0 rfl rfl 32 (by decide) (mc wq_6_1) rfl ?_
  refine x_iconst (v := (1 : Int32)) C 71 117 rfl (by decide) ?_
  refine x_iload_n C 72 118 rfl 3 rfl rfl ?_
  refine x_iconst (v := (2 : Int32)) C 73 119 rfl (by decide) ?_
  refine x_icmp_ne C 74 120 130 rfl rfl (fun c17 => ?_) (fun c17 => ?_)
  · replace h := h.2 c17
    refine x_iload_n C 79 130 rfl 2 rfl rfl ?_
    refine x_if_ne C 80 131 138 rfl rfl (fun c18 => ?_) (fun c18 => ?_)
    · replace h := h.2 c18
      refine x_iload C 83 138 rfl 5 rfl ?_
      refine x_iload_n C 84 140 rfl 2 rfl rfl ?_
      obtain ⟨hd, h⟩ := h
      refine x_idiv C 85 141 rfl hd ?_
      refine x_iload_n C 86 142 rfl 2 rfl rfl ?_
      obtain ⟨hd, h⟩ := h
      refine x_irem C 87 143 rfl hd ?_
      exact x_sub (lv' := [(0, .ref (aS 0)), (1, .int x1), (2, .int x2), (3, .int x3), (4, .int x4), (5, .int x5)]) [0, 1, 2, 3, 4, 5] rfl (wj_X10_slow_144 C rt hE239 hR72 h)
    · replace h := h.1 c18
      refine x_iconst (v := (0 : Int32)) C 81 134 rfl (by decide) ?_
      refine x_goto C 82 135 144 rfl rfl ?_
      exact x_sub (lv' := [(0, .ref (aS 0)), (1, .int x1), (2, .int x2), (3, .int x3), (4, .int x4), (5, .int x5)]) [0, 1, 2, 3, 4, 5] rfl (wj_X10_slow_144 C rt hE239 hR72 h)
  · replace h := h.1 c17
    refine x_iload C 75 123 rfl 5 rfl ?_
    refine x_iload_n C 76 125 rfl 2 rfl rfl ?_
    obtain ⟨hd, h⟩ := h
    refine x_irem C 77 126 rfl hd ?_
    refine x_goto C 78 127 144 rfl rfl ?_
    exact x_sub (lv' := [(0, .ref (aS 0)), (1, .int x1), (2, .int x2), (3, .int x3), (4, .int x4), (5, .int x5)]) [0, 1, 2, 3, 4, 5] rfl (wj_X10_slow_144 C rt hE239 hR72 h)
set_option maxHeartbeats 4000000 in
set_option maxRecDepth 100000 in
theorem w_X10_slow_72 {x : CT} {aS : Nat → Nat} {sL : Int64} {x1 : Int32} {x2 : Int32} {x3 : Int32} {x4 : Int32} {K : Int32 → St → Prop} {E239 : Int32 × St → Prop} {R29 : Int32 × St → Prop} (C : Cx x cX10_slow tb_X10_slow 9 RX10 (Cond.code yX10_slow cX10_slow 9 (some .int) :: wsL_law) ({ frames := 3, cells := 0, slots := 0, locals := 76 } : Room)) (rt : RetI x 0 0 (fun (u : St) => fl [wdS (xk x) aS u sL]) (fun (r : Int32) (u : St) => K r u)) (hE239 : ∀ q : Int32 × St, E239 q → Wx x 9 0 0 (fl [wdS (xk x) aS q.2 sL]) [(0, .ref (aS 0)), (3, .int q.1)] 239 []) (hR29 : ∀ q : Int32 × St, R29 q → Wx x 9 0 0 (fl [wdS (xk x) aS q.2 sL]) [(0, .ref (aS 0)), (1, .int x1), (2, .int x2), (3, .int q.1)] 29 []) {q11 : Int32 × St} (h : Lp (F_X10_slow_72 sL x1 x2 x3 x4 E239 R29) q11) : Wx x 9 0 0 (fl [wdS (xk x) aS q11.2 sL]) [(0, .ref (aS 0)), (1, .int x1), (2, .int x2), (3, .int x3), (4, .int x4), (5, .int q11.1)] 72 [] := by
  refine lp_walk (P := fun q11 => Wx x 9 0 0 (fl [wdS (xk x) aS q11.2 sL]) [(0, .ref (aS 0)), (1, .int x1), (2, .int x2), (3, .int x3), (4, .int x4), (5, .int q11.1)] 72 []) (fun q11 R72 hR72 h => ?_) h
  refine x_iload C 45 72 rfl 5 rfl ?_
  refine x_iload C 46 74 rfl 4 rfl ?_
  refine x_icmp_ge C 47 76 283 rfl rfl (fun c12 => ?_) (fun c12 => ?_)
  · replace h := h.1 c12
    obtain ⟨y13, ey13⟩ : ∃ y : Int32, y = x3 + (1 : Int32) := ⟨_, rfl⟩
    replace h := h y13 ey13
    refine x_iinc (v := y13) (lv' := [(0, .ref (aS 0)), (1, .int x1), (2, .int x2), (3, .int y13)]) C 169 283 rfl 3 rfl (by rw [ey13]; rfl) (by decide) [1, 2, 3, 0] rfl ?_
    refine x_goto C 170 286 29 rfl rfl ?_
    exact x_sub [0, 1, 2, 3] rfl (hR29 (y13, q11.2) h)
  · replace h := h.2 c12
    refine x_aload_n C 48 79 rfl 0 rfl rfl ?_
    refine x_get (v := .ref (aS 20)) C 49 80 rfl fi_X10 0 rfl rfl 32 (by decide) (mc wq_6_1) rfl ?_
    refine x_iconst (v := (0 : Int32)) C 50 83 rfl (by decide) ?_
    refine x_iload_n C 51 84 rfl 3 rfl rfl ?_
    refine x_iconst (v := (2 : Int32)) C 52 85 rfl (by decide) ?_
    refine x_icmp_ge C 53 86 94 rfl rfl (fun c14 => ?_) (fun c14 => ?_)
    · replace h := h.1 c14
      refine x_iload_n C 56 94 rfl 3 rfl rfl ?_
      refine x_iconst (v := (2 : Int32)) C 57 95 rfl (by decide) ?_
      refine x_icmp_ne C 58 96 106 rfl rfl (fun c15 => ?_) (fun c15 => ?_)
      · replace h := h.2 c15
        refine x_iload C 63 106 rfl 5 rfl ?_
        refine x_iload_n C 64 108 rfl 2 rfl rfl ?_
        refine x_iload_n C 65 109 rfl 2 rfl rfl ?_
        refine x_imul C 66 110 rfl ?_
        obtain ⟨hd, h⟩ := h
        refine x_idiv C 67 111 rfl hd ?_
        exact x_sub (lv' := [(0, .ref (aS 0)), (1, .int x1), (2, .int x2), (3, .int x3), (4, .int x4), (5, .int q11.1)]) [0, 1, 2, 3, 4, 5] rfl (wj_X10_slow_112 C rt hE239 hR72 h)
      · replace h := h.1 c15
        refine x_iload C 59 99 rfl 5 rfl ?_
        refine x_iload_n C 60 101 rfl 2 rfl rfl ?_
        obtain ⟨hd, h⟩ := h
        refine x_idiv C 61 102 rfl hd ?_
        refine x_goto C 62 103 112 rfl rfl ?_
        exact x_sub (lv' := [(0, .ref (aS 0)), (1, .int x1), (2, .int x2), (3, .int x3), (4, .int x4), (5, .int q11.1)]) [0, 1, 2, 3, 4, 5] rfl (wj_X10_slow_112 C rt hE239 hR72 h)
    · replace h := h.2 c14
      refine x_iload C 54 89 rfl 5 rfl ?_
      refine x_goto C 55 91 112 rfl rfl ?_
      exact x_sub (lv' := [(0, .ref (aS 0)), (1, .int x1), (2, .int x2), (3, .int x3), (4, .int x4), (5, .int q11.1)]) [0, 1, 2, 3, 4, 5] rfl (wj_X10_slow_112 C rt hE239 hR72 h)
set_option maxHeartbeats 4000000 in
set_option maxRecDepth 100000 in
theorem wj_X10_slow_67 {x : CT} {aS : Nat → Nat} {sS : St} {sL : Int64} {x1 : Int32} {x2 : Int32} {x3 : Int32} {t0 : Int32} {K : Int32 → St → Prop} {E239 : Int32 × St → Prop} {R29 : Int32 × St → Prop} (C : Cx x cX10_slow tb_X10_slow 9 RX10 (Cond.code yX10_slow cX10_slow 9 (some .int) :: wsL_law) ({ frames := 3, cells := 0, slots := 0, locals := 76 } : Room)) (rt : RetI x 0 0 (fun (u : St) => fl [wdS (xk x) aS u sL]) (fun (r : Int32) (u : St) => K r u)) (hE239 : ∀ q : Int32 × St, E239 q → Wx x 9 0 0 (fl [wdS (xk x) aS q.2 sL]) [(0, .ref (aS 0)), (3, .int q.1)] 239 []) (hR29 : ∀ q : Int32 × St, R29 q → Wx x 9 0 0 (fl [wdS (xk x) aS q.2 sL]) [(0, .ref (aS 0)), (1, .int x1), (2, .int x2), (3, .int q.1)] 29 []) (h : J_X10_slow_67 sS sL x1 x2 x3 t0 E239 R29) : Wx x 9 0 0 (fl [wdS (xk x) aS sS sL]) [(0, .ref (aS 0)), (1, .int x1), (2, .int x2), (3, .int x3)] 67 [.int t0] := by
  unfold J_X10_slow_67 at h
  refine x_istore (lv' := [(0, .ref (aS 0)), (1, .int x1), (2, .int x2), (3, .int x3), (4, .int t0)]) C 42 67 rfl (by decide) [1, 2, 3, 4, 0] rfl ?_
  refine x_iconst (v := (0 : Int32)) C 43 69 rfl (by decide) ?_
  refine x_istore (lv' := [(0, .ref (aS 0)), (1, .int x1), (2, .int x2), (3, .int x3), (4, .int t0), (5, .int (0 : Int32))]) C 44 70 rfl (by decide) [1, 2, 3, 4, 5, 0] rfl ?_
  refine x_sub (lv' := [(0, .ref (aS 0)), (1, .int x1), (2, .int x2), (3, .int x3), (4, .int t0), (5, .int (0 : Int32))]) [0, 1, 2, 3, 4, 5] rfl (w_X10_slow_72 C rt hE239 hR29 h)
set_option maxHeartbeats 4000000 in
set_option maxRecDepth 100000 in
theorem w_X10_slow_29 {x : CT} {aS : Nat → Nat} {sL : Int64} {x1 : Int32} {x2 : Int32} {K : Int32 → St → Prop} {E239 : Int32 × St → Prop} (C : Cx x cX10_slow tb_X10_slow 9 RX10 (Cond.code yX10_slow cX10_slow 9 (some .int) :: wsL_law) ({ frames := 3, cells := 0, slots := 0, locals := 76 } : Room)) (rt : RetI x 0 0 (fun (u : St) => fl [wdS (xk x) aS u sL]) (fun (r : Int32) (u : St) => K r u)) (hE239 : ∀ q : Int32 × St, E239 q → Wx x 9 0 0 (fl [wdS (xk x) aS q.2 sL]) [(0, .ref (aS 0)), (3, .int q.1)] 239 []) {q6 : Int32 × St} (h : Lp (F_X10_slow_29 sL x1 x2 K E239) q6) : Wx x 9 0 0 (fl [wdS (xk x) aS q6.2 sL]) [(0, .ref (aS 0)), (1, .int x1), (2, .int x2), (3, .int q6.1)] 29 [] := by
  refine lp_walk (P := fun q6 => Wx x 9 0 0 (fl [wdS (xk x) aS q6.2 sL]) [(0, .ref (aS 0)), (1, .int x1), (2, .int x2), (3, .int q6.1)] 29 []) (fun q6 R29 hR29 h => ?_) h
  refine x_iload_n C 18 29 rfl 3 rfl rfl ?_
  refine x_iload_n C 19 30 rfl 2 rfl rfl ?_
  refine x_icmp_gt C 20 31 289 rfl rfl (fun c7 => ?_) (fun c7 => ?_)
  · replace h := h.1 c7
    refine x_bipush (v := (-9 : Int32)) C 171 289 rfl (by decide) ?_
    exact x_iret C rt 172 291 rfl q6.2 rfl h
  · replace h := h.2 c7
    refine x_iload_n C 21 34 rfl 3 rfl rfl ?_
    refine x_if_ne C 22 35 42 rfl rfl (fun c8 => ?_) (fun c8 => ?_)
    · replace h := h.2 c8
      refine x_iload_n C 25 42 rfl 3 rfl rfl ?_
      refine x_iconst (v := (1 : Int32)) C 26 43 rfl (by decide) ?_
      refine x_icmp_ne C 27 44 51 rfl rfl (fun c9 => ?_) (fun c9 => ?_)
      · replace h := h.2 c9
        refine x_iload_n C 30 51 rfl 3 rfl rfl ?_
        refine x_iconst (v := (2 : Int32)) C 31 52 rfl (by decide) ?_
        refine x_icmp_ne C 32 53 62 rfl rfl (fun c10 => ?_) (fun c10 => ?_)
        · replace h := h.2 c10
          refine x_iload_n C 37 62 rfl 2 rfl rfl ?_
          refine x_iload_n C 38 63 rfl 2 rfl rfl ?_
          refine x_imul C 39 64 rfl ?_
          refine x_iload_n C 40 65 rfl 2 rfl rfl ?_
          refine x_imul C 41 66 rfl ?_
          exact x_sub (lv' := [(0, .ref (aS 0)), (1, .int x1), (2, .int x2), (3, .int q6.1)]) [0, 1, 2, 3] rfl (wj_X10_slow_67 C rt hE239 hR29 h)
        · replace h := h.1 c10
          refine x_iload_n C 33 56 rfl 2 rfl rfl ?_
          refine x_iload_n C 34 57 rfl 2 rfl rfl ?_
          refine x_imul C 35 58 rfl ?_
          refine x_goto C 36 59 67 rfl rfl ?_
          exact x_sub (lv' := [(0, .ref (aS 0)), (1, .int x1), (2, .int x2), (3, .int q6.1)]) [0, 1, 2, 3] rfl (wj_X10_slow_67 C rt hE239 hR29 h)
      · replace h := h.1 c9
        refine x_iload_n C 28 47 rfl 2 rfl rfl ?_
        refine x_goto C 29 48 67 rfl rfl ?_
        exact x_sub (lv' := [(0, .ref (aS 0)), (1, .int x1), (2, .int x2), (3, .int q6.1)]) [0, 1, 2, 3] rfl (wj_X10_slow_67 C rt hE239 hR29 h)
    · replace h := h.1 c8
      refine x_iconst (v := (1 : Int32)) C 23 38 rfl (by decide) ?_
      refine x_goto C 24 39 67 rfl rfl ?_
      exact x_sub (lv' := [(0, .ref (aS 0)), (1, .int x1), (2, .int x2), (3, .int q6.1)]) [0, 1, 2, 3] rfl (wj_X10_slow_67 C rt hE239 hR29 h)
set_option maxHeartbeats 4000000 in
set_option maxRecDepth 100000 in
theorem w_X10_slow_247 {x : CT} {aS : Nat → Nat} {sS : St} {sL : Int64} {K : Int32 → St → Prop} (C : Cx x cX10_slow tb_X10_slow 9 RX10 (Cond.code yX10_slow cX10_slow 9 (some .int) :: wsL_law) ({ frames := 3, cells := 0, slots := 0, locals := 76 } : Room)) (rt : RetI x 0 0 (fun (u : St) => fl [wdS (xk x) aS u sL]) (fun (r : Int32) (u : St) => K r u))  {q34 : Int32 × Int32} (h : Lp (F_X10_slow_247 sS K) q34) : Wx x 9 0 0 (fl [wdS (xk x) aS sS sL]) [(0, .ref (aS 0)), (7, .int q34.1), (8, .int q34.2)] 247 [] := by
  refine lp_walk (P := fun q34 => Wx x 9 0 0 (fl [wdS (xk x) aS sS sL]) [(0, .ref (aS 0)), (7, .int q34.1), (8, .int q34.2)] 247 []) (fun q34 R247 hR247 h => ?_) h
  refine x_iload C 150 247 rfl 2 rfl ?_
  refine x_if_lt C 151 249 274 rfl rfl (fun c35 => ?_) (fun c35 => ?_)
  · replace h := h.1 c35
    refine x_iload C 165 274 rfl 1 rfl ?_
    exact x_iret C rt 166 276 rfl sS rfl h
  · replace h := h.2 c35
    refine x_iconst (v := (4 : Int32)) C 152 252 rfl (by decide) ?_
    refine x_iload C 153 253 rfl 1 rfl ?_
    refine x_imul C 154 255 rfl ?_
    refine x_aload_n C 155 256 rfl 0 rfl rfl ?_
    refine x_get (v := .ref (aS 20)) C 156 257 rfl fi_X10 0 rfl rfl 32 (by decide) (mc wq_6_1) rfl ?_
    refine x_iload C 157 260 rfl 2 rfl ?_
    obtain ⟨hi, h⟩ := h
    refine x_iald (f := sS 32) C 158 262 rfl 20 rfl hi ?_
    refine x_iadd C 159 263 rfl ?_
    refine x_iconst (v := (1 : Int32)) C 160 264 rfl (by decide) ?_
    refine x_iadd C 161 265 rfl ?_
    refine x_topi (fun y36 ey36 => ?_)
    replace h := h y36 ey36
    refine x_istore (lv' := [(0, .ref (aS 0)), (7, .int y36), (8, .int q34.2)]) C 162 266 rfl (by decide) [1, 0, 2] rfl ?_
    obtain ⟨y37, ey37⟩ : ∃ y : Int32, y = q34.2 + (-1 : Int32) := ⟨_, rfl⟩
    replace h := h y37 ey37
    refine x_iinc (v := y37) (lv' := [(0, .ref (aS 0)), (7, .int y36), (8, .int y37)]) C 163 268 rfl 2 rfl (by rw [ey37]; rfl) (by decide) [1, 2, 0] rfl ?_
    refine x_goto C 164 271 247 rfl rfl ?_
    exact x_sub [0, 1, 2] rfl (hR247 (y36, y37) h)
set_option maxHeartbeats 4000000 in
set_option maxRecDepth 100000 in
theorem w_X10_slow {x : CT} {aS : Nat → Nat} {sS : St} {sL : Int64} {p1 : Int32} {K : Int32 → St → Prop} (C : Cx x cX10_slow tb_X10_slow 9 RX10 (Cond.code yX10_slow cX10_slow 9 (some .int) :: wsL_law) ({ frames := 3, cells := 0, slots := 0, locals := 76 } : Room)) (rt : RetI x 0 0 (fun (u : St) => fl [wdS (xk x) aS u sL]) (fun (r : Int32) (u : St) => K r u)) (h : wp_X10_slow sS sL p1 K) : Wx x 9 0 0 (fl [wdS (xk x) aS sS sL]) [(0, .ref (aS 0)), (1, .int p1)] 0 [] := by
  unfold wp_X10_slow at h
  refine x_iload_n C 0 0 rfl 1 rfl rfl ?_
  refine x_call0SZ C 1 1 (c_X10_isAct (xl x) (xD x) (xk x) (xg x) p1 _ h) rfl wwGood (mem3 wq_16_12 wq_16_13 wq_1_5) wq_16_14 1 ok_X10_isAct rfl ⟨by decide, by decide⟩ (Nat.le_of_ble_eq_true rfl) ⟨Nat.le_refl _, Nat.le_refl _⟩ ⟨rfl, rfl⟩ rfl (fun r1 _ h => ?_)
  refine x_if_ne C 2 4 9 rfl rfl (fun c2 => ?_) (fun c2 => ?_)
  · replace h := h.2 c2
    refine x_aload_n C 5 9 rfl 0 rfl rfl ?_
    refine x_iconst (v := (0 : Int32)) C 6 10 rfl (by decide) ?_
    refine x_callWVZ (ci := 8) (q0 := 0) (q := (RX10, TX10, 34)) C 7 11 (c_X10_layGraphs (xl x) (xD x) (xk x) (xg x) aS sS sL (0 : Int32) _ h) rfl wwGood (mem4 wq_22_9 wq_22_10 wq_22_11 wq_1_5) wq_22_12 1 ok_X10_layGraphs rfl ⟨by decide, by decide⟩ (Nat.le_of_ble_eq_true rfl) ⟨Nat.le_refl _, Nat.le_refl _⟩ ⟨rfl, rfl⟩ rfl rfl rfl (fun r3 u3 h => ?_)
    refine x_if_ne C 8 14 20 rfl rfl (fun c4 => ?_) (fun c4 => ?_)
    · replace h := h.2 c4
      refine x_aload_n C 11 20 rfl 0 rfl rfl ?_
      refine x_get (v := .ref (aS 2)) C 12 21 rfl fi_X10 0 rfl rfl 2 (by decide) (mc wq_5_4) rfl ?_
      refine x_iload_n C 13 24 rfl 1 rfl rfl ?_
      obtain ⟨hi, h⟩ := h
      refine x_iald (f := u3 2) C 14 25 rfl 2 rfl hi ?_
      refine x_topi (fun y5 ey5 => ?_)
      replace h := h y5 ey5
      refine x_istore_n (lv' := [(0, .ref (aS 0)), (1, .int p1), (2, .int y5)]) C 15 26 rfl rfl (by decide) [1, 2, 0] rfl ?_
      refine x_iconst (v := (0 : Int32)) C 16 27 rfl (by decide) ?_
      refine x_istore_n (lv' := [(0, .ref (aS 0)), (1, .int p1), (2, .int y5), (3, .int (0 : Int32))]) C 17 28 rfl rfl (by decide) [1, 2, 3, 0] rfl ?_
      refine x_sub (lv' := [(0, .ref (aS 0)), (1, .int p1), (2, .int y5), (3, .int (0 : Int32))]) [0, 1, 2, 3] rfl (w_X10_slow_29 C rt (fun q32 h => ?_) h)
      · refine x_iconst (v := (0 : Int32)) C 144 239 rfl (by decide) ?_
        refine x_istore (lv' := [(0, .ref (aS 0)), (3, .int q32.1), (7, .int (0 : Int32))]) C 145 240 rfl (by decide) [1, 2, 0] rfl ?_
        refine x_iload_n C 146 242 rfl 1 rfl rfl ?_
        refine x_iconst (v := (1 : Int32)) C 147 243 rfl (by decide) ?_
        refine x_isub C 148 244 rfl ?_
        refine x_topi (fun y33 ey33 => ?_)
        replace h := h y33 ey33
        refine x_istore (lv' := [(0, .ref (aS 0)), (7, .int (0 : Int32)), (8, .int y33)]) C 149 245 rfl (by decide) [1, 3, 0] rfl ?_
        refine x_sub (lv' := [(0, .ref (aS 0)), (7, .int (0 : Int32)), (8, .int y33)]) [0, 1, 2] rfl (w_X10_slow_247 C rt h)
    · replace h := h.1 c4
      refine x_bipush (v := (-2 : Int32)) C 9 17 rfl (by decide) ?_
      exact x_iret C rt 10 19 rfl u3 rfl h
  · replace h := h.1 c2
    refine x_iconst (v := (-1 : Int32)) C 3 7 rfl (by decide) ?_
    exact x_iret C rt 4 8 rfl sS rfl h
theorem c_X10_slow (l : Launch) (D : va_G) (k : ClassId × ClassId) (g : Nat → Nat) (aS : Nat → Nat) (sS : St) (sL : Int64) (p1 : Int32) (K : Int32 → St → Prop) (h : wp_X10_slow sS sL p1 K) : ConI l yX10_slow (Cond.code yX10_slow cX10_slow 9 (some .int) :: wsL_law) ({ frames := 3, cells := 0, slots := 0, locals := 76 } : Room) D k g [.ref (aS 0), .int p1] (fl [wdS k aS sS sL]) (fun (u : St) => fl [wdS k aS u sL]) (fun (r : Int32) (u : St) => K r u) := by
  refine ConI.of (tb := tb_X10_slow) (cc := cX10_slow) (nL := 9) (by decide) rfl tbk_X10_slow (Nat.le_of_ble_eq_true rfl) ?_
  intro x hl hD hk hg C rt
  subst hl hD hk hg
  exact w_X10_slow C rt h
set_option maxHeartbeats 4000000 in
set_option maxRecDepth 100000 in
theorem w_X10_bits_4 {x : CT} {K : Int32 → Prop} (C : Cx x cX10_bits tb_X10_bits 3 RX10 (Cond.code yX10_bits cX10_bits 3 (some .int) :: wsL_law) ({ frames := 0, cells := 0, slots := 0, locals := 0 } : Room)) (rt : RetI x 0 0 (fun (u : Unit) => fl []) (fun (r : Int32) (_ : Unit) => K r))  {q1 : Int32 × Int32} (h : Lp (F_X10_bits_4 K) q1) : Wx x 3 0 0 (fl []) [(1, .int q1.1), (2, .int q1.2)] 4 [] := by
  refine lp_walk (P := fun q1 => Wx x 3 0 0 (fl []) [(1, .int q1.1), (2, .int q1.2)] 4 []) (fun q1 R4 hR4 h => ?_) h
  refine x_iload_n C 4 4 rfl 1 rfl rfl ?_
  refine x_if_eq C 5 5 20 rfl rfl (fun c2 => ?_) (fun c2 => ?_)
  · replace h := h.1 c2
    refine x_iload_n C 14 20 rfl 0 rfl rfl ?_
    exact x_iret C rt 15 21 rfl () rfl h
  · replace h := h.2 c2
    obtain ⟨y3, ey3⟩ : ∃ y : Int32, y = q1.1 + (1 : Int32) := ⟨_, rfl⟩
    replace h := h y3 ey3
    refine x_iinc (v := y3) (lv' := [(1, .int y3), (2, .int q1.2)]) C 6 8 rfl 0 rfl (by rw [ey3]; rfl) (by decide) [0, 1] rfl ?_
    refine x_iload_n C 7 11 rfl 1 rfl rfl ?_
    refine x_iload_n C 8 12 rfl 1 rfl rfl ?_
    refine x_iconst (v := (1 : Int32)) C 9 13 rfl (by decide) ?_
    refine x_isub C 10 14 rfl ?_
    refine x_iand C 11 15 rfl ?_
    refine x_topi (fun y4 ey4 => ?_)
    replace h := h y4 ey4
    refine x_istore_n (lv' := [(1, .int y3), (2, .int y4)]) C 12 16 rfl rfl (by decide) [1, 0] rfl ?_
    refine x_goto C 13 17 4 rfl rfl ?_
    exact x_sub [0, 1] rfl (hR4 (y3, y4) h)
set_option maxHeartbeats 4000000 in
set_option maxRecDepth 100000 in
theorem w_X10_bits {x : CT} {p1 : Int32} {K : Int32 → Prop} (C : Cx x cX10_bits tb_X10_bits 3 RX10 (Cond.code yX10_bits cX10_bits 3 (some .int) :: wsL_law) ({ frames := 0, cells := 0, slots := 0, locals := 0 } : Room)) (rt : RetI x 0 0 (fun (u : Unit) => fl []) (fun (r : Int32) (_ : Unit) => K r)) (h : wp_X10_bits p1 K) : Wx x 3 0 0 (fl []) [(0, .int p1)] 0 [] := by
  unfold wp_X10_bits at h
  refine x_iconst (v := (0 : Int32)) C 0 0 rfl (by decide) ?_
  refine x_istore_n (lv' := [(0, .int p1), (1, .int (0 : Int32))]) C 1 1 rfl rfl (by decide) [1, 0] rfl ?_
  refine x_iload_n C 2 2 rfl 0 rfl rfl ?_
  refine x_istore_n (lv' := [(1, .int (0 : Int32)), (2, .int p1)]) C 3 3 rfl rfl (by decide) [2, 0] rfl ?_
  refine x_sub (lv' := [(1, .int (0 : Int32)), (2, .int p1)]) [0, 1] rfl (w_X10_bits_4 C rt h)
theorem c_X10_bits (l : Launch) (D : va_G) (k : ClassId × ClassId) (g : Nat → Nat) (p1 : Int32) (K : Int32 → Prop) (h : wp_X10_bits p1 K) : ConI l yX10_bits (Cond.code yX10_bits cX10_bits 3 (some .int) :: wsL_law) ({ frames := 0, cells := 0, slots := 0, locals := 0 } : Room) D k g [.int p1] (fl []) (fun (u : Unit) => fl []) (fun (r : Int32) (_ : Unit) => K r) := by
  refine ConI.of (tb := tb_X10_bits) (cc := cX10_bits) (nL := 3) (by decide) rfl tbk_X10_bits (Nat.le_of_ble_eq_true rfl) ?_
  intro x hl hD hk hg C rt
  subst hl hD hk hg
  exact w_X10_bits C rt h
set_option maxHeartbeats 4000000 in
set_option maxRecDepth 100000 in
theorem wj_X10_mended_55 {x : CT} {aS : Nat → Nat} {sS : St} {sL : Int64} {x1 : Int32} {x2 : Int32} {x3 : Int32} {K : Int32 → St → Prop} {R28 : Int32 × Int32 × St → Prop} (C : Cx x cX10_mended tb_X10_mended 4 RX10 (Cond.code yX10_mended cX10_mended 4 (some .int) :: wsL_law) ({ frames := 5, cells := 0, slots := 0, locals := 119 } : Room)) (rt : RetI x 0 0 (fun (u : St) => fl [wdS (xk x) aS u sL]) (fun (r : Int32) (u : St) => K r u)) (hR28 : ∀ q : Int32 × Int32 × St, R28 q → Wx x 4 0 0 (fl [wdS (xk x) aS q.2.2 sL]) [(0, .ref (aS 0)), (1, .int x1), (2, .int q.1), (3, .int q.2.1)] 28 []) (h : J_X10_mended_55 sS sL x2 x3 R28) : Wx x 4 0 0 (fl [wdS (xk x) aS sS sL]) [(0, .ref (aS 0)), (1, .int x1), (2, .int x2), (3, .int x3)] 55 [] := by
  unfold J_X10_mended_55 at h
  refine x_aload_n C 32 55 rfl 0 rfl rfl ?_
  refine x_iload_n C 33 56 rfl 3 rfl rfl ?_
  refine x_callWVZ (ci := 8) (q0 := 0) (q := (RX10, TX10, 34)) C 34 57 (c_X10_layGraphs (xl x) (xD x) (xk x) (xg x) aS sS sL x3 _ h) rfl wwGood (mem4 wq_22_9 wq_22_10 wq_22_11 wq_1_5) wq_22_12 1 ok_X10_layGraphs rfl ⟨by decide, by decide⟩ (Nat.le_of_ble_eq_true rfl) ⟨Nat.le_refl _, Nat.le_refl _⟩ ⟨rfl, rfl⟩ rfl rfl rfl (fun r8 u8 h => ?_)
  refine x_pop C 35 60 rfl rfl ?_
  refine x_aload_n C 36 61 rfl 0 rfl rfl ?_
  refine x_iconst (v := (-1 : Int32)) C 37 62 rfl (by decide) ?_
  refine x_callWVZ (ci := 8) (q0 := 0) (q := (RX10, TX10, 34)) C 38 63 (c_X10_noneBad (xl x) (xD x) (xk x) (xg x) aS u8 sL (-1 : Int32) _ h) rfl wwGood (mem4 wq_26_3 wq_26_4 wq_26_5 wq_1_5) wq_26_6 1 ok_X10_noneBad rfl ⟨by decide, by decide⟩ (Nat.le_of_ble_eq_true rfl) ⟨Nat.le_refl _, Nat.le_refl _⟩ ⟨rfl, rfl⟩ rfl rfl rfl (fun r9 _ h => ?_)
  refine x_if_eq C 39 66 73 rfl rfl (fun c10 => ?_) (fun c10 => ?_)
  · replace h := h.1 c10
    refine x_iload_n C 42 73 rfl 2 rfl rfl ?_
    refine x_istore_n (lv' := [(0, .ref (aS 0)), (1, .int x1), (2, .int x2), (3, .int x3)]) C 43 74 rfl rfl (by decide) [1, 2, 0, 3] rfl ?_
    obtain ⟨y11, ey11⟩ : ∃ y : Int32, y = x3 + (1 : Int32) := ⟨_, rfl⟩
    replace h := h y11 ey11
    refine x_iinc (v := y11) (lv' := [(0, .ref (aS 0)), (1, .int x1), (2, .int x2), (3, .int y11)]) C 44 75 rfl 3 rfl (by rw [ey11]; rfl) (by decide) [1, 2, 3, 0] rfl ?_
    refine x_goto C 45 78 28 rfl rfl ?_
    exact x_sub [0, 1, 2, 3] rfl (hR28 (x2, y11, u8) h)
  · replace h := h.2 c10
    refine x_iload_n C 40 69 rfl 3 rfl rfl ?_
    refine x_goto C 41 70 74 rfl rfl ?_
    refine x_istore_n (lv' := [(0, .ref (aS 0)), (1, .int x1), (2, .int x3), (3, .int x3)]) C 43 74 rfl rfl (by decide) [1, 2, 0, 3] rfl ?_
    obtain ⟨y12, ey12⟩ : ∃ y : Int32, y = x3 + (1 : Int32) := ⟨_, rfl⟩
    replace h := h y12 ey12
    refine x_iinc (v := y12) (lv' := [(0, .ref (aS 0)), (1, .int x1), (2, .int x3), (3, .int y12)]) C 44 75 rfl 3 rfl (by rw [ey12]; rfl) (by decide) [1, 2, 3, 0] rfl ?_
    refine x_goto C 45 78 28 rfl rfl ?_
    exact x_sub [0, 1, 2, 3] rfl (hR28 (x3, y12, u8) h)
set_option maxHeartbeats 4000000 in
set_option maxRecDepth 100000 in
theorem w_X10_mended_28 {x : CT} {aS : Nat → Nat} {sL : Int64} {x1 : Int32} {K : Int32 → St → Prop} {E81 : Int32 × St → Prop} (C : Cx x cX10_mended tb_X10_mended 4 RX10 (Cond.code yX10_mended cX10_mended 4 (some .int) :: wsL_law) ({ frames := 5, cells := 0, slots := 0, locals := 119 } : Room)) (rt : RetI x 0 0 (fun (u : St) => fl [wdS (xk x) aS u sL]) (fun (r : Int32) (u : St) => K r u)) (hE81 : ∀ q : Int32 × St, E81 q → Wx x 4 0 0 (fl [wdS (xk x) aS q.2 sL]) [(1, .int x1), (2, .int q.1)] 81 []) {q5 : Int32 × Int32 × St} (h : Lp (F_X10_mended_28 sL E81) q5) : Wx x 4 0 0 (fl [wdS (xk x) aS q5.2.2 sL]) [(0, .ref (aS 0)), (1, .int x1), (2, .int q5.1), (3, .int q5.2.1)] 28 [] := by
  refine lp_walk (P := fun q5 => Wx x 4 0 0 (fl [wdS (xk x) aS q5.2.2 sL]) [(0, .ref (aS 0)), (1, .int x1), (2, .int q5.1), (3, .int q5.2.1)] 28 []) (fun q5 R28 hR28 h => ?_) h
  refine x_iload_n C 18 28 rfl 3 rfl rfl ?_
  refine x_iconst (v := (1 : Int32)) C 19 29 rfl (by decide) ?_
  refine x_aload_n C 20 30 rfl 0 rfl rfl ?_
  refine x_get (v := .int (q5.2.2 3 0)) C 21 31 rfl fi_X10 0 rfl rfl 3 (by decide) (mc wq_14_4) rfl ?_
  refine x_ishl C 22 34 rfl ?_
  refine x_icmp_ge C 23 35 81 rfl rfl (fun c6 => ?_) (fun c6 => ?_)
  · replace h := h.1 c6
    exact x_sub [1, 2] rfl (hE81 (q5.1, q5.2.2) h)
  · replace h := h.2 c6
    refine x_iload_n C 24 38 rfl 2 rfl rfl ?_
    refine x_bipush (v := (-9 : Int32)) C 25 39 rfl (by decide) ?_
    refine x_icmp_eq C 26 41 55 rfl rfl (fun c7 => ?_) (fun c7 => ?_)
    · replace h := h.1 c7
      exact x_sub (lv' := [(0, .ref (aS 0)), (1, .int x1), (2, .int q5.1), (3, .int q5.2.1)]) [0, 1, 2, 3] rfl (wj_X10_mended_55 C rt hR28 h)
    · replace h := h.2 c7
      refine x_iload_n C 27 44 rfl 3 rfl rfl ?_
      refine x_call0SI C 28 45 (c_X10_bits (xl x) (xD x) (xk x) (xg x) q5.2.1 _ h) rfl wwGood (mem3 wq_32_12 wq_32_13 wq_1_5) wq_32_14 1 ok_X10_bits rfl ⟨by decide, by decide⟩ (Nat.le_of_ble_eq_true rfl) ⟨Nat.le_refl _, Nat.le_refl _⟩ ⟨rfl, rfl⟩ rfl (fun r13 _ h => ?_)
      refine x_iload_n C 29 48 rfl 2 rfl rfl ?_
      refine x_call0SI C 30 49 (c_X10_bits (xl x) (xD x) (xk x) (xg x) q5.1 _ h) rfl wwGood (mem3 wq_32_12 wq_32_13 wq_1_5) wq_32_14 1 ok_X10_bits rfl ⟨by decide, by decide⟩ (Nat.le_of_ble_eq_true rfl) ⟨Nat.le_refl _, Nat.le_refl _⟩ ⟨rfl, rfl⟩ rfl (fun r14 _ h => ?_)
      refine x_icmp_ge C 31 52 75 rfl rfl (fun c15 => ?_) (fun c15 => ?_)
      · replace h := h.1 c15
        obtain ⟨y16, ey16⟩ : ∃ y : Int32, y = q5.2.1 + (1 : Int32) := ⟨_, rfl⟩
        replace h := h y16 ey16
        refine x_iinc (v := y16) (lv' := [(0, .ref (aS 0)), (1, .int x1), (2, .int q5.1), (3, .int y16)]) C 44 75 rfl 3 rfl (by rw [ey16]; rfl) (by decide) [1, 2, 3, 0] rfl ?_
        refine x_goto C 45 78 28 rfl rfl ?_
        exact x_sub [0, 1, 2, 3] rfl (hR28 (q5.1, y16, q5.2.2) h)
      · replace h := h.2 c15
        exact x_sub (lv' := [(0, .ref (aS 0)), (1, .int x1), (2, .int q5.1), (3, .int q5.2.1)]) [0, 1, 2, 3] rfl (wj_X10_mended_55 C rt hR28 h)
set_option maxHeartbeats 4000000 in
set_option maxRecDepth 100000 in
theorem w_X10_mended {x : CT} {aS : Nat → Nat} {sS : St} {sL : Int64} {p1 : Int32} {K : Int32 → St → Prop} (C : Cx x cX10_mended tb_X10_mended 4 RX10 (Cond.code yX10_mended cX10_mended 4 (some .int) :: wsL_law) ({ frames := 5, cells := 0, slots := 0, locals := 119 } : Room)) (rt : RetI x 0 0 (fun (u : St) => fl [wdS (xk x) aS u sL]) (fun (r : Int32) (u : St) => K r u)) (h : wp_X10_mended sS sL p1 K) : Wx x 4 0 0 (fl [wdS (xk x) aS sS sL]) [(0, .ref (aS 0)), (1, .int p1)] 0 [] := by
  unfold wp_X10_mended at h
  refine x_iload_n C 0 0 rfl 1 rfl rfl ?_
  refine x_i2l C 1 1 rfl ?_
  refine x_lconst (v := (0 : Int64)) C 2 2 rfl (by decide) ?_
  refine x_lconst (v := (1 : Int64)) C 3 3 rfl (by decide) ?_
  refine x_call0SZ C 4 4 (c_X10_in (xl x) (xD x) (xk x) (xg x) p1.toInt64 (0 : Int64) (1 : Int64) _ h) rfl wwGood (mem3 wq_6_21 wq_6_22 wq_1_5) wq_6_23 3 ok_X10_in rfl ⟨by decide, by decide⟩ (Nat.le_of_ble_eq_true rfl) ⟨Nat.le_refl _, Nat.le_refl _⟩ ⟨rfl, rfl⟩ rfl (fun r1 _ h => ?_)
  refine x_if_ne C 5 7 12 rfl rfl (fun c2 => ?_) (fun c2 => ?_)
  · replace h := h.2 c2
    refine x_aload_n C 8 12 rfl 0 rfl rfl ?_
    refine x_iconst (v := (0 : Int32)) C 9 13 rfl (by decide) ?_
    refine x_callWVZ (ci := 8) (q0 := 0) (q := (RX10, TX10, 34)) C 10 14 (c_X10_layGraphs (xl x) (xD x) (xk x) (xg x) aS sS sL (0 : Int32) _ h) rfl wwGood (mem4 wq_22_9 wq_22_10 wq_22_11 wq_1_5) wq_22_12 1 ok_X10_layGraphs rfl ⟨by decide, by decide⟩ (Nat.le_of_ble_eq_true rfl) ⟨Nat.le_refl _, Nat.le_refl _⟩ ⟨rfl, rfl⟩ rfl rfl rfl (fun r3 u3 h => ?_)
    refine x_if_ne C 11 17 23 rfl rfl (fun c4 => ?_) (fun c4 => ?_)
    · replace h := h.2 c4
      refine x_bipush (v := (-9 : Int32)) C 14 23 rfl (by decide) ?_
      refine x_istore_n (lv' := [(0, .ref (aS 0)), (1, .int p1), (2, .int (-9 : Int32))]) C 15 25 rfl rfl (by decide) [1, 2, 0] rfl ?_
      refine x_iconst (v := (0 : Int32)) C 16 26 rfl (by decide) ?_
      refine x_istore_n (lv' := [(0, .ref (aS 0)), (1, .int p1), (2, .int (-9 : Int32)), (3, .int (0 : Int32))]) C 17 27 rfl rfl (by decide) [1, 2, 3, 0] rfl ?_
      refine x_sub (lv' := [(0, .ref (aS 0)), (1, .int p1), (2, .int (-9 : Int32)), (3, .int (0 : Int32))]) [0, 1, 2, 3] rfl (w_X10_mended_28 C rt (fun q17 h => ?_) h)
      · refine x_iload_n C 46 81 rfl 0 rfl rfl ?_
        refine x_if_ne C 47 82 92 rfl rfl (fun c18 => ?_) (fun c18 => ?_)
        · replace h := h.2 c18
          refine x_iload_n C 51 92 rfl 1 rfl rfl ?_
          exact x_iret C rt 52 93 rfl q17.2 rfl h
        · replace h := h.1 c18
          refine x_iload_n C 48 85 rfl 1 rfl rfl ?_
          refine x_call0SI C 49 86 (c_X10_bits (xl x) (xD x) (xk x) (xg x) q17.1 _ h) rfl wwGood (mem3 wq_32_12 wq_32_13 wq_1_5) wq_32_14 1 ok_X10_bits rfl ⟨by decide, by decide⟩ (Nat.le_of_ble_eq_true rfl) ⟨Nat.le_refl _, Nat.le_refl _⟩ ⟨rfl, rfl⟩ rfl (fun r19 _ h => ?_)
          refine x_goto C 50 89 93 rfl rfl ?_
          exact x_iret C rt 52 93 rfl q17.2 rfl h
    · replace h := h.1 c4
      refine x_bipush (v := (-2 : Int32)) C 12 20 rfl (by decide) ?_
      exact x_iret C rt 13 22 rfl u3 rfl h
  · replace h := h.1 c2
    refine x_iconst (v := (-1 : Int32)) C 6 10 rfl (by decide) ?_
    exact x_iret C rt 7 11 rfl sS rfl h
theorem c_X10_mended (l : Launch) (D : va_G) (k : ClassId × ClassId) (g : Nat → Nat) (aS : Nat → Nat) (sS : St) (sL : Int64) (p1 : Int32) (K : Int32 → St → Prop) (h : wp_X10_mended sS sL p1 K) : ConI l yX10_mended (Cond.code yX10_mended cX10_mended 4 (some .int) :: wsL_law) ({ frames := 5, cells := 0, slots := 0, locals := 119 } : Room) D k g [.ref (aS 0), .int p1] (fl [wdS k aS sS sL]) (fun (u : St) => fl [wdS k aS u sL]) (fun (r : Int32) (u : St) => K r u) := by
  refine ConI.of (tb := tb_X10_mended) (cc := cX10_mended) (nL := 4) (by decide) rfl tbk_X10_mended (Nat.le_of_ble_eq_true rfl) ?_
  intro x hl hD hk hg C rt
  subst hl hD hk hg
  exact w_X10_mended C rt h
set_option maxHeartbeats 4000000 in
set_option maxRecDepth 100000 in
theorem wj_X10_needed_103 {x : CT} {aS : Nat → Nat} {sS : St} {sL : Int64} {x1 : Int32} {x2 : Int32} {x4 : Int32} {x5 : Int32} {t0 : Int32} {K : Int32 → St → Prop} {R36 : Int32 × Int32 × Int32 × Int32 × St → Prop} (C : Cx x cX10_needed tb_X10_needed 6 RX10 (Cond.code yX10_needed cX10_needed 6 (some .int) :: wsL_law) ({ frames := 5, cells := 0, slots := 0, locals := 119 } : Room)) (rt : RetI x 0 0 (fun (u : St) => fl [wdS (xk x) aS u sL]) (fun (r : Int32) (u : St) => K r u)) (hR36 : ∀ q : Int32 × Int32 × Int32 × Int32 × St, R36 q → Wx x 6 0 0 (fl [wdS (xk x) aS q.2.2.2.2 sL]) [(0, .ref (aS 0)), (1, .int x1), (2, .int q.1), (3, .int q.2.1), (4, .int q.2.2.1), (5, .int q.2.2.2.1)] 36 []) (h : J_X10_needed_103 sS x2 x4 x5 t0 R36) : Wx x 6 0 0 (fl [wdS (xk x) aS sS sL]) [(0, .ref (aS 0)), (1, .int x1), (2, .int x2), (4, .int x4), (5, .int x5)] 103 [.int t0] := by
  unfold J_X10_needed_103 at h
  refine x_istore_n (lv' := [(0, .ref (aS 0)), (1, .int x1), (2, .int x2), (3, .int t0), (4, .int x4), (5, .int x5)]) C 58 103 rfl rfl (by decide) [1, 2, 3, 0, 4, 5] rfl ?_
  obtain ⟨y21, ey21⟩ : ∃ y : Int32, y = x2 + (1 : Int32) := ⟨_, rfl⟩
  replace h := h y21 ey21
  refine x_iinc (v := y21) (lv' := [(0, .ref (aS 0)), (1, .int x1), (2, .int y21), (3, .int t0), (4, .int x4), (5, .int x5)]) C 59 104 rfl 2 rfl (by rw [ey21]; rfl) (by decide) [1, 2, 0, 3, 4, 5] rfl ?_
  refine x_aload_n C 60 107 rfl 0 rfl rfl ?_
  refine x_get (v := .ref (aS 5)) C 61 108 rfl fi_X10 0 rfl rfl 6 (by decide) (mc wq_5_7) rfl ?_
  refine x_iload C 62 111 rfl 5 rfl ?_
  refine x_iconst (v := (2 : Int32)) C 63 113 rfl (by decide) ?_
  obtain ⟨hi, h⟩ := h
  obtain ⟨z22, ez22⟩ : ∃ z : St, z = ua sS 6 x5 (2 : Int32) := ⟨_, rfl⟩
  replace h := h z22 ez22
  refine x_iast (f := sS 6) (ws' := fl [wdS (xk x) aS z22 sL]) C 64 114 rfl 5 rfl hi (by rw [ez22]; rfl) ?_
  obtain ⟨y23, ey23⟩ : ∃ y : Int32, y = x5 + (1 : Int32) := ⟨_, rfl⟩
  replace h := h y23 ey23
  refine x_iinc (v := y23) (lv' := [(0, .ref (aS 0)), (1, .int x1), (2, .int y21), (3, .int t0), (4, .int x4), (5, .int y23)]) C 65 115 rfl 5 rfl (by rw [ey23]; rfl) (by decide) [1, 2, 3, 4, 5, 0] rfl ?_
  refine x_goto C 66 118 36 rfl rfl ?_
  exact x_sub [0, 1, 2, 3, 4, 5] rfl (hR36 (y21, t0, x4, y23, z22) h)
set_option maxHeartbeats 4000000 in
set_option maxRecDepth 100000 in
theorem w_X10_needed_36 {x : CT} {aS : Nat → Nat} {sL : Int64} {x1 : Int32} {K : Int32 → St → Prop} {E121 : Int32 × Int32 × Int32 × St → Prop} (C : Cx x cX10_needed tb_X10_needed 6 RX10 (Cond.code yX10_needed cX10_needed 6 (some .int) :: wsL_law) ({ frames := 5, cells := 0, slots := 0, locals := 119 } : Room)) (rt : RetI x 0 0 (fun (u : St) => fl [wdS (xk x) aS u sL]) (fun (r : Int32) (u : St) => K r u)) (hE121 : ∀ q : Int32 × Int32 × Int32 × St, E121 q → Wx x 6 0 0 (fl [wdS (xk x) aS q.2.2.2 sL]) [(1, .int x1), (2, .int q.1), (3, .int q.2.1), (4, .int q.2.2.1)] 121 []) {q6 : Int32 × Int32 × Int32 × Int32 × St} (h : Lp (F_X10_needed_36 sL x1 E121) q6) : Wx x 6 0 0 (fl [wdS (xk x) aS q6.2.2.2.2 sL]) [(0, .ref (aS 0)), (1, .int x1), (2, .int q6.1), (3, .int q6.2.1), (4, .int q6.2.2.1), (5, .int q6.2.2.2.1)] 36 [] := by
  refine lp_walk (P := fun q6 => Wx x 6 0 0 (fl [wdS (xk x) aS q6.2.2.2.2 sL]) [(0, .ref (aS 0)), (1, .int x1), (2, .int q6.1), (3, .int q6.2.1), (4, .int q6.2.2.1), (5, .int q6.2.2.2.1)] 36 []) (fun q6 R36 hR36 h => ?_) h
  refine x_iload C 23 36 rfl 5 rfl ?_
  refine x_bipush (v := (9 : Int32)) C 24 38 rfl (by decide) ?_
  refine x_aload_n C 25 40 rfl 0 rfl rfl ?_
  refine x_get (v := .int (q6.2.2.2.2 3 0)) C 26 41 rfl fi_X10 0 rfl rfl 3 (by decide) (mc wq_14_4) rfl ?_
  refine x_imul C 27 44 rfl ?_
  refine x_icmp_ge C 28 45 121 rfl rfl (fun c7 => ?_) (fun c7 => ?_)
  · replace h := h.1 c7
    exact x_sub [1, 2, 3, 4] rfl (hE121 (q6.1, q6.2.1, q6.2.2.1, q6.2.2.2.2) h)
  · replace h := h.2 c7
    refine x_iload C 29 48 rfl 4 rfl ?_
    refine x_if_eq C 30 50 121 rfl rfl (fun c8 => ?_) (fun c8 => ?_)
    · replace h := h.1 c8
      exact x_sub [1, 2, 3, 4] rfl (hE121 (q6.1, q6.2.1, q6.2.2.1, q6.2.2.2.2) h)
    · replace h := h.2 c8
      refine x_aload_n C 31 53 rfl 0 rfl rfl ?_
      refine x_get (v := .ref (aS 5)) C 32 54 rfl fi_X10 0 rfl rfl 6 (by decide) (mc wq_5_7) rfl ?_
      refine x_iload C 33 57 rfl 5 rfl ?_
      obtain ⟨hi, h⟩ := h
      refine x_iald (f := q6.2.2.2.2 6) C 34 59 rfl 5 rfl hi ?_
      refine x_iconst (v := (2 : Int32)) C 35 60 rfl (by decide) ?_
      refine x_icmp_ne C 36 61 115 rfl rfl (fun c9 => ?_) (fun c9 => ?_)
      · replace h := h.2 c9
        obtain ⟨y10, ey10⟩ : ∃ y : Int32, y = q6.2.2.2.1 + (1 : Int32) := ⟨_, rfl⟩
        replace h := h y10 ey10
        refine x_iinc (v := y10) (lv' := [(0, .ref (aS 0)), (1, .int x1), (2, .int q6.1), (3, .int q6.2.1), (4, .int q6.2.2.1), (5, .int y10)]) C 65 115 rfl 5 rfl (by rw [ey10]; rfl) (by decide) [1, 2, 3, 4, 5, 0] rfl ?_
        refine x_goto C 66 118 36 rfl rfl ?_
        exact x_sub [0, 1, 2, 3, 4, 5] rfl (hR36 (q6.1, q6.2.1, q6.2.2.1, y10, q6.2.2.2.2) h)
      · replace h := h.1 c9
        refine x_aload_n C 37 64 rfl 0 rfl rfl ?_
        refine x_get (v := .ref (aS 5)) C 38 65 rfl fi_X10 0 rfl rfl 6 (by decide) (mc wq_5_7) rfl ?_
        refine x_iload C 39 68 rfl 5 rfl ?_
        refine x_iconst (v := (1 : Int32)) C 40 70 rfl (by decide) ?_
        obtain ⟨hi, h⟩ := h
        obtain ⟨z11, ez11⟩ : ∃ z : St, z = ua q6.2.2.2.2 6 q6.2.2.2.1 (1 : Int32) := ⟨_, rfl⟩
        replace h := h z11 ez11
        refine x_iast (f := q6.2.2.2.2 6) (ws' := fl [wdS (xk x) aS z11 sL]) C 41 71 rfl 5 rfl hi (by rw [ez11]; rfl) ?_
        refine x_aload_n C 42 72 rfl 0 rfl rfl ?_
        refine x_iconst (v := (0 : Int32)) C 43 73 rfl (by decide) ?_
        refine x_callWVZ (ci := 8) (q0 := 0) (q := (RX10, TX10, 34)) C 44 74 (c_X10_layGraphs (xl x) (xD x) (xk x) (xg x) aS z11 sL (0 : Int32) _ h) rfl wwGood (mem4 wq_22_9 wq_22_10 wq_22_11 wq_1_5) wq_22_12 1 ok_X10_layGraphs rfl ⟨by decide, by decide⟩ (Nat.le_of_ble_eq_true rfl) ⟨Nat.le_refl _, Nat.le_refl _⟩ ⟨rfl, rfl⟩ rfl rfl rfl (fun r12 u12 h => ?_)
        refine x_istore (lv' := [(0, .ref (aS 0)), (1, .int x1), (2, .int q6.1), (3, .int q6.2.1), (4, .int r12), (5, .int q6.2.2.2.1)]) C 45 77 rfl (by decide) [1, 2, 3, 4, 0, 5] rfl ?_
        refine x_iload C 46 79 rfl 4 rfl ?_
        refine x_if_eq C 47 81 107 rfl rfl (fun c13 => ?_) (fun c13 => ?_)
        · replace h := h.1 c13
          refine x_aload_n C 60 107 rfl 0 rfl rfl ?_
          refine x_get (v := .ref (aS 5)) C 61 108 rfl fi_X10 0 rfl rfl 6 (by decide) (mc wq_5_7) rfl ?_
          refine x_iload C 62 111 rfl 5 rfl ?_
          refine x_iconst (v := (2 : Int32)) C 63 113 rfl (by decide) ?_
          obtain ⟨hi, h⟩ := h
          obtain ⟨z14, ez14⟩ : ∃ z : St, z = ua u12 6 q6.2.2.2.1 (2 : Int32) := ⟨_, rfl⟩
          replace h := h z14 ez14
          refine x_iast (f := u12 6) (ws' := fl [wdS (xk x) aS z14 sL]) C 64 114 rfl 5 rfl hi (by rw [ez14]; rfl) ?_
          obtain ⟨y15, ey15⟩ : ∃ y : Int32, y = q6.2.2.2.1 + (1 : Int32) := ⟨_, rfl⟩
          replace h := h y15 ey15
          refine x_iinc (v := y15) (lv' := [(0, .ref (aS 0)), (1, .int x1), (2, .int q6.1), (3, .int q6.2.1), (4, .int r12), (5, .int y15)]) C 65 115 rfl 5 rfl (by rw [ey15]; rfl) (by decide) [1, 2, 3, 4, 5, 0] rfl ?_
          refine x_goto C 66 118 36 rfl rfl ?_
          exact x_sub [0, 1, 2, 3, 4, 5] rfl (hR36 (q6.1, q6.2.1, r12, y15, z14) h)
        · replace h := h.2 c13
          refine x_aload_n C 48 84 rfl 0 rfl rfl ?_
          refine x_iconst (v := (-1 : Int32)) C 49 85 rfl (by decide) ?_
          refine x_callWVZ (ci := 8) (q0 := 0) (q := (RX10, TX10, 34)) C 50 86 (c_X10_noneBad (xl x) (xD x) (xk x) (xg x) aS u12 sL (-1 : Int32) _ h) rfl wwGood (mem4 wq_26_3 wq_26_4 wq_26_5 wq_1_5) wq_26_6 1 ok_X10_noneBad rfl ⟨by decide, by decide⟩ (Nat.le_of_ble_eq_true rfl) ⟨Nat.le_refl _, Nat.le_refl _⟩ ⟨rfl, rfl⟩ rfl rfl rfl (fun r16 _ h => ?_)
          refine x_if_ne C 51 89 107 rfl rfl (fun c17 => ?_) (fun c17 => ?_)
          · replace h := h.2 c17
            refine x_aload_n C 60 107 rfl 0 rfl rfl ?_
            refine x_get (v := .ref (aS 5)) C 61 108 rfl fi_X10 0 rfl rfl 6 (by decide) (mc wq_5_7) rfl ?_
            refine x_iload C 62 111 rfl 5 rfl ?_
            refine x_iconst (v := (2 : Int32)) C 63 113 rfl (by decide) ?_
            obtain ⟨hi, h⟩ := h
            obtain ⟨z18, ez18⟩ : ∃ z : St, z = ua u12 6 q6.2.2.2.1 (2 : Int32) := ⟨_, rfl⟩
            replace h := h z18 ez18
            refine x_iast (f := u12 6) (ws' := fl [wdS (xk x) aS z18 sL]) C 64 114 rfl 5 rfl hi (by rw [ez18]; rfl) ?_
            obtain ⟨y19, ey19⟩ : ∃ y : Int32, y = q6.2.2.2.1 + (1 : Int32) := ⟨_, rfl⟩
            replace h := h y19 ey19
            refine x_iinc (v := y19) (lv' := [(0, .ref (aS 0)), (1, .int x1), (2, .int q6.1), (3, .int q6.2.1), (4, .int r12), (5, .int y19)]) C 65 115 rfl 5 rfl (by rw [ey19]; rfl) (by decide) [1, 2, 3, 4, 5, 0] rfl ?_
            refine x_goto C 66 118 36 rfl rfl ?_
            exact x_sub [0, 1, 2, 3, 4, 5] rfl (hR36 (q6.1, q6.2.1, r12, y19, z18) h)
          · replace h := h.1 c17
            refine x_iload_n C 52 92 rfl 2 rfl rfl ?_
            refine x_iload_n C 53 93 rfl 1 rfl rfl ?_
            refine x_icmp_ne C 54 94 102 rfl rfl (fun c20 => ?_) (fun c20 => ?_)
            · replace h := h.2 c20
              refine x_iload_n C 57 102 rfl 3 rfl rfl ?_
              exact x_sub (lv' := [(0, .ref (aS 0)), (1, .int x1), (2, .int q6.1), (4, .int r12), (5, .int q6.2.2.2.1)]) [0, 1, 2, 4, 5] rfl (wj_X10_needed_103 C rt hR36 h)
            · replace h := h.1 c20
              refine x_iload C 55 97 rfl 5 rfl ?_
              refine x_goto C 56 99 103 rfl rfl ?_
              exact x_sub (lv' := [(0, .ref (aS 0)), (1, .int x1), (2, .int q6.1), (4, .int r12), (5, .int q6.2.2.2.1)]) [0, 1, 2, 4, 5] rfl (wj_X10_needed_103 C rt hR36 h)
set_option maxHeartbeats 4000000 in
set_option maxRecDepth 100000 in
theorem wj_X10_needed_121 {x : CT} {aS : Nat → Nat} {sS : St} {sL : Int64} {x1 : Int32} {x2 : Int32} {x3 : Int32} {x4 : Int32} {K : Int32 → St → Prop} (C : Cx x cX10_needed tb_X10_needed 6 RX10 (Cond.code yX10_needed cX10_needed 6 (some .int) :: wsL_law) ({ frames := 5, cells := 0, slots := 0, locals := 119 } : Room)) (rt : RetI x 0 0 (fun (u : St) => fl [wdS (xk x) aS u sL]) (fun (r : Int32) (u : St) => K r u))  (h : J_X10_needed_121 sS x1 x2 x3 x4 K) : Wx x 6 0 0 (fl [wdS (xk x) aS sS sL]) [(1, .int x1), (2, .int x2), (3, .int x3), (4, .int x4)] 121 [] := by
  unfold J_X10_needed_121 at h
  refine x_iload C 67 121 rfl 3 rfl ?_
  refine x_if_ne C 68 123 131 rfl rfl (fun c25 => ?_) (fun c25 => ?_)
  · replace h := h.2 c25
    refine x_iload_n C 71 131 rfl 0 rfl rfl ?_
    refine x_if_ge C 72 132 139 rfl rfl (fun c26 => ?_) (fun c26 => ?_)
    · replace h := h.1 c26
      refine x_iload_n C 75 139 rfl 2 rfl rfl ?_
      exact x_iret C rt 76 140 rfl sS rfl h
    · replace h := h.2 c26
      refine x_iload_n C 73 135 rfl 1 rfl rfl ?_
      refine x_goto C 74 136 140 rfl rfl ?_
      exact x_iret C rt 76 140 rfl sS rfl h
  · replace h := h.1 c25
    refine x_bipush (v := (-2 : Int32)) C 69 126 rfl (by decide) ?_
    refine x_goto C 70 128 140 rfl rfl ?_
    exact x_iret C rt 76 140 rfl sS rfl h
set_option maxHeartbeats 4000000 in
set_option maxRecDepth 100000 in
theorem w_X10_needed {x : CT} {aS : Nat → Nat} {sS : St} {sL : Int64} {p1 : Int32} {K : Int32 → St → Prop} (C : Cx x cX10_needed tb_X10_needed 6 RX10 (Cond.code yX10_needed cX10_needed 6 (some .int) :: wsL_law) ({ frames := 5, cells := 0, slots := 0, locals := 119 } : Room)) (rt : RetI x 0 0 (fun (u : St) => fl [wdS (xk x) aS u sL]) (fun (r : Int32) (u : St) => K r u)) (h : wp_X10_needed sS sL p1 K) : Wx x 6 0 0 (fl [wdS (xk x) aS sS sL]) [(0, .ref (aS 0)), (1, .int p1)] 0 [] := by
  unfold wp_X10_needed at h
  refine x_iload_n C 0 0 rfl 1 rfl rfl ?_
  refine x_iconst (v := (-1 : Int32)) C 1 1 rfl (by decide) ?_
  refine x_icmp_ge C 2 2 7 rfl rfl (fun c1 => ?_) (fun c1 => ?_)
  · replace h := h.1 c1
    refine x_aload_n C 5 7 rfl 0 rfl rfl ?_
    refine x_iconst (v := (0 : Int32)) C 6 8 rfl (by decide) ?_
    refine x_callWVZ (ci := 8) (q0 := 0) (q := (RX10, TX10, 34)) C 7 9 (c_X10_layGraphs (xl x) (xD x) (xk x) (xg x) aS sS sL (0 : Int32) _ h) rfl wwGood (mem4 wq_22_9 wq_22_10 wq_22_11 wq_1_5) wq_22_12 1 ok_X10_layGraphs rfl ⟨by decide, by decide⟩ (Nat.le_of_ble_eq_true rfl) ⟨Nat.le_refl _, Nat.le_refl _⟩ ⟨rfl, rfl⟩ rfl rfl rfl (fun r2 u2 h => ?_)
    refine x_if_eq C 8 12 23 rfl rfl (fun c3 => ?_) (fun c3 => ?_)
    · replace h := h.1 c3
      refine x_bipush (v := (-2 : Int32)) C 13 23 rfl (by decide) ?_
      exact x_iret C rt 14 25 rfl u2 rfl h
    · replace h := h.2 c3
      refine x_aload_n C 9 15 rfl 0 rfl rfl ?_
      refine x_iconst (v := (-1 : Int32)) C 10 16 rfl (by decide) ?_
      refine x_callWVZ (ci := 8) (q0 := 0) (q := (RX10, TX10, 34)) C 11 17 (c_X10_noneBad (xl x) (xD x) (xk x) (xg x) aS u2 sL (-1 : Int32) _ h) rfl wwGood (mem4 wq_26_3 wq_26_4 wq_26_5 wq_1_5) wq_26_6 1 ok_X10_noneBad rfl ⟨by decide, by decide⟩ (Nat.le_of_ble_eq_true rfl) ⟨Nat.le_refl _, Nat.le_refl _⟩ ⟨rfl, rfl⟩ rfl rfl rfl (fun r4 _ h => ?_)
      refine x_if_ne C 12 20 26 rfl rfl (fun c5 => ?_) (fun c5 => ?_)
      · replace h := h.2 c5
        refine x_iconst (v := (0 : Int32)) C 15 26 rfl (by decide) ?_
        refine x_istore_n (lv' := [(0, .ref (aS 0)), (1, .int p1), (2, .int (0 : Int32))]) C 16 27 rfl rfl (by decide) [1, 2, 0] rfl ?_
        refine x_iconst (v := (-1 : Int32)) C 17 28 rfl (by decide) ?_
        refine x_istore_n (lv' := [(0, .ref (aS 0)), (1, .int p1), (2, .int (0 : Int32)), (3, .int (-1 : Int32))]) C 18 29 rfl rfl (by decide) [1, 2, 3, 0] rfl ?_
        refine x_iconst (v := (1 : Int32)) C 19 30 rfl (by decide) ?_
        refine x_istore (lv' := [(0, .ref (aS 0)), (1, .int p1), (2, .int (0 : Int32)), (3, .int (-1 : Int32)), (4, .int (1 : Int32))]) C 20 31 rfl (by decide) [1, 2, 3, 4, 0] rfl ?_
        refine x_iconst (v := (0 : Int32)) C 21 33 rfl (by decide) ?_
        refine x_istore (lv' := [(0, .ref (aS 0)), (1, .int p1), (2, .int (0 : Int32)), (3, .int (-1 : Int32)), (4, .int (1 : Int32)), (5, .int (0 : Int32))]) C 22 34 rfl (by decide) [1, 2, 3, 4, 5, 0] rfl ?_
        refine x_sub (lv' := [(0, .ref (aS 0)), (1, .int p1), (2, .int (0 : Int32)), (3, .int (-1 : Int32)), (4, .int (1 : Int32)), (5, .int (0 : Int32))]) [0, 1, 2, 3, 4, 5] rfl (w_X10_needed_36 C rt (fun q24 h => ?_) h)
        · exact x_sub (lv' := [(1, .int p1), (2, .int q24.1), (3, .int q24.2.1), (4, .int q24.2.2.1)]) [0, 1, 2, 3] rfl (wj_X10_needed_121 C rt h)
      · replace h := h.1 c5
        refine x_bipush (v := (-2 : Int32)) C 13 23 rfl (by decide) ?_
        exact x_iret C rt 14 25 rfl u2 rfl h
  · replace h := h.2 c1
    refine x_iconst (v := (-1 : Int32)) C 3 5 rfl (by decide) ?_
    exact x_iret C rt 4 6 rfl sS rfl h
theorem c_X10_needed (l : Launch) (D : va_G) (k : ClassId × ClassId) (g : Nat → Nat) (aS : Nat → Nat) (sS : St) (sL : Int64) (p1 : Int32) (K : Int32 → St → Prop) (h : wp_X10_needed sS sL p1 K) : ConI l yX10_needed (Cond.code yX10_needed cX10_needed 6 (some .int) :: wsL_law) ({ frames := 5, cells := 0, slots := 0, locals := 119 } : Room) D k g [.ref (aS 0), .int p1] (fl [wdS k aS sS sL]) (fun (u : St) => fl [wdS k aS u sL]) (fun (r : Int32) (u : St) => K r u) := by
  refine ConI.of (tb := tb_X10_needed) (cc := cX10_needed) (nL := 6) (by decide) rfl tbk_X10_needed (Nat.le_of_ble_eq_true rfl) ?_
  intro x hl hD hk hg C rt
  subst hl hD hk hg
  exact w_X10_needed C rt h
set_option maxHeartbeats 4000000 in
set_option maxRecDepth 100000 in
theorem w_X10_most {x : CT} {aS : Nat → Nat} {sS : St} {sL : Int64} {p1 : Int32} {K : Int32 → St → Prop} (C : Cx x cX10_most tb_X10_most 3 RX10 (Cond.code yX10_most cX10_most 3 (some .int) :: wsL_law) ({ frames := 1, cells := 0, slots := 0, locals := 25 } : Room)) (rt : RetI x 0 0 (fun (u : St) => fl [wdS (xk x) aS u sL]) (fun (r : Int32) (u : St) => K r u)) (h : wp_X10_most sS sL p1 K) : Wx x 3 0 0 (fl [wdS (xk x) aS sS sL]) [(0, .ref (aS 0)), (1, .int p1)] 0 [] := by
  unfold wp_X10_most at h
  refine x_iload_n C 0 0 rfl 1 rfl rfl ?_
  refine x_i2l C 1 1 rfl ?_
  refine x_lconst (v := (0 : Int64)) C 2 2 rfl (by decide) ?_
  refine x_ldc2 (v := (3 : Int64)) C 3 3 rfl (mc wq_16_15) ?_
  refine x_call0SZ C 4 6 (c_X10_in (xl x) (xD x) (xk x) (xg x) p1.toInt64 (0 : Int64) (3 : Int64) _ h) rfl wwGood (mem3 wq_6_21 wq_6_22 wq_1_5) wq_6_23 3 ok_X10_in rfl ⟨by decide, by decide⟩ (Nat.le_of_ble_eq_true rfl) ⟨Nat.le_refl _, Nat.le_refl _⟩ ⟨rfl, rfl⟩ rfl (fun r1 _ h => ?_)
  refine x_if_ne C 5 9 14 rfl rfl (fun c2 => ?_) (fun c2 => ?_)
  · replace h := h.2 c2
    refine x_aload_n C 8 14 rfl 0 rfl rfl ?_
    refine x_get (v := .int (sS 9 0)) C 9 15 rfl fi_X10 0 rfl rfl 9 (by decide) (mc wq_5_9) rfl ?_
    refine x_topi (fun y3 ey3 => ?_)
    replace h := h y3 ey3
    refine x_istore_n (lv' := [(0, .ref (aS 0)), (1, .int p1), (2, .int y3)]) C 10 18 rfl rfl (by decide) [1, 2, 0] rfl ?_
    refine x_aload_n C 11 19 rfl 0 rfl rfl ?_
    refine x_iload_n C 12 20 rfl 1 rfl rfl ?_
    obtain ⟨z4, ez4⟩ : ∃ z : St, z = us sS 9 p1 := ⟨_, rfl⟩
    replace h := h z4 ez4
    refine x_put (ws' := fl [wdS (xk x) aS z4 sL]) C 13 21 rfl fi_X10 tyX10 tyX10_ok nmX10 0 rfl rfl 9 (by decide) (mc wq_5_9) rfl rfl rfl (Nat.le_of_ble_eq_true rfl) (by rw [ez4]; rfl) ?_
    refine x_iload_n C 14 24 rfl 2 rfl rfl ?_
    exact x_iret C rt 15 25 rfl z4 rfl h
  · replace h := h.1 c2
    refine x_iconst (v := (-1 : Int32)) C 6 12 rfl (by decide) ?_
    exact x_iret C rt 7 13 rfl sS rfl h
theorem c_X10_most (l : Launch) (D : va_G) (k : ClassId × ClassId) (g : Nat → Nat) (aS : Nat → Nat) (sS : St) (sL : Int64) (p1 : Int32) (K : Int32 → St → Prop) (h : wp_X10_most sS sL p1 K) : ConI l yX10_most (Cond.code yX10_most cX10_most 3 (some .int) :: wsL_law) ({ frames := 1, cells := 0, slots := 0, locals := 25 } : Room) D k g [.ref (aS 0), .int p1] (fl [wdS k aS sS sL]) (fun (u : St) => fl [wdS k aS u sL]) (fun (r : Int32) (u : St) => K r u) := by
  refine ConI.of (tb := tb_X10_most) (cc := cX10_most) (nL := 3) (by decide) rfl tbk_X10_most (Nat.le_of_ble_eq_true rfl) ?_
  intro x hl hD hk hg C rt
  subst hl hD hk hg
  exact w_X10_most C rt h
set_option maxHeartbeats 4000000 in
set_option maxRecDepth 100000 in
theorem w_X10_size {x : CT} {p1 : Int32} {p2 : Int32} {K : Int32 → Prop} (C : Cx x cX10_size tb_X10_size 2 RX10 (Cond.code yX10_size cX10_size 2 (some .int) :: wsL_law) ({ frames := 0, cells := 0, slots := 0, locals := 0 } : Room)) (rt : RetI x 0 0 (fun (u : Unit) => fl []) (fun (r : Int32) (_ : Unit) => K r)) (h : wp_X10_size p1 p2 K) : Wx x 2 0 0 (fl []) [(0, .int p1), (1, .int p2)] 0 [] := by
  unfold wp_X10_size at h
  refine x_iload_n C 0 0 rfl 0 rfl rfl ?_
  refine x_iconst (v := (2 : Int32)) C 1 1 rfl (by decide) ?_
  refine x_iload_n C 2 2 rfl 1 rfl rfl ?_
  refine x_imul C 3 3 rfl ?_
  refine x_ishr C 4 4 rfl ?_
  refine x_iconst (v := (3 : Int32)) C 5 5 rfl (by decide) ?_
  refine x_iand C 6 6 rfl ?_
  exact x_iret C rt 7 7 rfl () rfl h
theorem c_X10_size (l : Launch) (D : va_G) (k : ClassId × ClassId) (g : Nat → Nat) (p1 : Int32) (p2 : Int32) (K : Int32 → Prop) (h : wp_X10_size p1 p2 K) : ConI l yX10_size (Cond.code yX10_size cX10_size 2 (some .int) :: wsL_law) ({ frames := 0, cells := 0, slots := 0, locals := 0 } : Room) D k g [.int p1, .int p2] (fl []) (fun (u : Unit) => fl []) (fun (r : Int32) (_ : Unit) => K r) := by
  refine ConI.of (tb := tb_X10_size) (cc := cX10_size) (nL := 2) (by decide) rfl tbk_X10_size (Nat.le_of_ble_eq_true rfl) ?_
  intro x hl hD hk hg C rt
  subst hl hD hk hg
  exact w_X10_size C rt h
set_option maxHeartbeats 4000000 in
set_option maxRecDepth 100000 in
theorem w_X10_isState_4 {x : CT} {aS : Nat → Nat} {sS : St} {sL : Int64} {x1 : Int32} {K : Int32 → Prop} (C : Cx x cX10_isState tb_X10_isState 5 RX10 (Cond.code yX10_isState cX10_isState 5 (some .boolean) :: wsL_law) ({ frames := 1, cells := 0, slots := 0, locals := 21 } : Room)) (rt : RetZ x 0 0 (fun (u : Unit) => fl [wdS (xk x) aS sS sL]) (fun (r : Int32) (_ : Unit) => K r))  {q1 : Int32 × Int32} (h : Lp (F_X10_isState_4 sS x1 K) q1) : Wx x 5 0 0 (fl [wdS (xk x) aS sS sL]) [(0, .ref (aS 0)), (1, .int x1), (2, .int q1.1), (3, .int q1.2)] 4 [] := by
  refine lp_walk (P := fun q1 => Wx x 5 0 0 (fl [wdS (xk x) aS sS sL]) [(0, .ref (aS 0)), (1, .int x1), (2, .int q1.1), (3, .int q1.2)] 4 []) (fun q1 R4 hR4 h => ?_) h
  refine x_iload_n C 4 4 rfl 3 rfl rfl ?_
  refine x_iconst (v := (3 : Int32)) C 5 5 rfl (by decide) ?_
  refine x_icmp_ge C 6 6 62 rfl rfl (fun c2 => ?_) (fun c2 => ?_)
  · replace h := h.1 c2
    refine x_iload_n C 34 62 rfl 2 rfl rfl ?_
    exact x_zret C rt 35 63 rfl h.1 () rfl h.2
  · replace h := h.2 c2
    refine x_iload_n C 7 9 rfl 1 rfl rfl ?_
    refine x_iload_n C 8 10 rfl 3 rfl rfl ?_
    refine x_call0SI C 9 11 (c_X10_size (xl x) (xD x) (xk x) (xg x) x1 q1.2 _ h) rfl wwGood (mem3 wq_36_20 wq_36_21 wq_1_5) wq_36_22 2 ok_X10_size rfl ⟨by decide, by decide⟩ (Nat.le_of_ble_eq_true rfl) ⟨Nat.le_refl _, Nat.le_refl _⟩ ⟨rfl, rfl⟩ rfl (fun r3 _ h => ?_)
    refine x_istore (lv' := [(0, .ref (aS 0)), (1, .int x1), (2, .int q1.1), (3, .int q1.2), (4, .int r3)]) C 10 14 rfl (by decide) [1, 2, 3, 4, 0] rfl ?_
    refine x_iload_n C 11 16 rfl 2 rfl rfl ?_
    refine x_if_eq C 12 17 54 rfl rfl (fun c4 => ?_) (fun c4 => ?_)
    · replace h := h.1 c4
      refine x_iconst (v := (0 : Int32)) C 30 54 rfl (by decide) ?_
      refine x_istore_n (lv' := [(0, .ref (aS 0)), (1, .int x1), (2, .int (0 : Int32)), (3, .int q1.2)]) C 31 55 rfl rfl (by decide) [1, 2, 0, 3] rfl ?_
      obtain ⟨y5, ey5⟩ : ∃ y : Int32, y = q1.2 + (1 : Int32) := ⟨_, rfl⟩
      replace h := h y5 ey5
      refine x_iinc (v := y5) (lv' := [(0, .ref (aS 0)), (1, .int x1), (2, .int (0 : Int32)), (3, .int y5)]) C 32 56 rfl 3 rfl (by rw [ey5]; rfl) (by decide) [1, 2, 3, 0] rfl ?_
      refine x_goto C 33 59 4 rfl rfl ?_
      exact x_sub [0, 1, 2, 3] rfl (hR4 ((0 : Int32), y5) h)
    · replace h := h.2 c4
      refine x_iload_n C 13 20 rfl 3 rfl rfl ?_
      refine x_aload_n C 14 21 rfl 0 rfl rfl ?_
      refine x_get (v := .ref (aS 2)) C 15 22 rfl fi_X10 0 rfl rfl 2 (by decide) (mc wq_5_4) rfl ?_
      refine x_iload_n C 16 25 rfl 1 rfl rfl ?_
      refine x_bipush (v := (64 : Int32)) C 17 26 rfl (by decide) ?_
      refine x_idiv C 18 28 rfl (by decide) ?_
      obtain ⟨hi, h⟩ := h
      refine x_iald (f := sS 2) C 19 29 rfl 2 rfl hi ?_
      refine x_icmp_ge C 20 30 45 rfl rfl (fun c6 => ?_) (fun c6 => ?_)
      · replace h := h.1 c6
        refine x_iload C 26 45 rfl 4 rfl ?_
        refine x_if_ne C 27 47 54 rfl rfl (fun c7 => ?_) (fun c7 => ?_)
        · replace h := h.2 c7
          refine x_iconst (v := (0 : Int32)) C 30 54 rfl (by decide) ?_
          refine x_istore_n (lv' := [(0, .ref (aS 0)), (1, .int x1), (2, .int (0 : Int32)), (3, .int q1.2)]) C 31 55 rfl rfl (by decide) [1, 2, 0, 3] rfl ?_
          obtain ⟨y8, ey8⟩ : ∃ y : Int32, y = q1.2 + (1 : Int32) := ⟨_, rfl⟩
          replace h := h y8 ey8
          refine x_iinc (v := y8) (lv' := [(0, .ref (aS 0)), (1, .int x1), (2, .int (0 : Int32)), (3, .int y8)]) C 32 56 rfl 3 rfl (by rw [ey8]; rfl) (by decide) [1, 2, 3, 0] rfl ?_
          refine x_goto C 33 59 4 rfl rfl ?_
          exact x_sub [0, 1, 2, 3] rfl (hR4 ((0 : Int32), y8) h)
        · replace h := h.1 c7
          refine x_iconst (v := (1 : Int32)) C 28 50 rfl (by decide) ?_
          refine x_goto C 29 51 55 rfl rfl ?_
          refine x_istore_n (lv' := [(0, .ref (aS 0)), (1, .int x1), (2, .int (1 : Int32)), (3, .int q1.2)]) C 31 55 rfl rfl (by decide) [1, 2, 0, 3] rfl ?_
          obtain ⟨y9, ey9⟩ : ∃ y : Int32, y = q1.2 + (1 : Int32) := ⟨_, rfl⟩
          replace h := h y9 ey9
          refine x_iinc (v := y9) (lv' := [(0, .ref (aS 0)), (1, .int x1), (2, .int (1 : Int32)), (3, .int y9)]) C 32 56 rfl 3 rfl (by rw [ey9]; rfl) (by decide) [1, 2, 3, 0] rfl ?_
          refine x_goto C 33 59 4 rfl rfl ?_
          exact x_sub [0, 1, 2, 3] rfl (hR4 ((1 : Int32), y9) h)
      · replace h := h.2 c6
        refine x_iload C 21 33 rfl 4 rfl ?_
        refine x_aload_n C 22 35 rfl 0 rfl rfl ?_
        refine x_get (v := .int (sS 9 0)) C 23 36 rfl fi_X10 0 rfl rfl 9 (by decide) (mc wq_5_9) rfl ?_
        refine x_icmp_gt C 24 39 54 rfl rfl (fun c10 => ?_) (fun c10 => ?_)
        · replace h := h.1 c10
          refine x_iconst (v := (0 : Int32)) C 30 54 rfl (by decide) ?_
          refine x_istore_n (lv' := [(0, .ref (aS 0)), (1, .int x1), (2, .int (0 : Int32)), (3, .int q1.2)]) C 31 55 rfl rfl (by decide) [1, 2, 0, 3] rfl ?_
          obtain ⟨y11, ey11⟩ : ∃ y : Int32, y = q1.2 + (1 : Int32) := ⟨_, rfl⟩
          replace h := h y11 ey11
          refine x_iinc (v := y11) (lv' := [(0, .ref (aS 0)), (1, .int x1), (2, .int (0 : Int32)), (3, .int y11)]) C 32 56 rfl 3 rfl (by rw [ey11]; rfl) (by decide) [1, 2, 3, 0] rfl ?_
          refine x_goto C 33 59 4 rfl rfl ?_
          exact x_sub [0, 1, 2, 3] rfl (hR4 ((0 : Int32), y11) h)
        · replace h := h.2 c10
          refine x_goto C 25 42 50 rfl rfl ?_
          refine x_iconst (v := (1 : Int32)) C 28 50 rfl (by decide) ?_
          refine x_goto C 29 51 55 rfl rfl ?_
          refine x_istore_n (lv' := [(0, .ref (aS 0)), (1, .int x1), (2, .int (1 : Int32)), (3, .int q1.2)]) C 31 55 rfl rfl (by decide) [1, 2, 0, 3] rfl ?_
          obtain ⟨y12, ey12⟩ : ∃ y : Int32, y = q1.2 + (1 : Int32) := ⟨_, rfl⟩
          replace h := h y12 ey12
          refine x_iinc (v := y12) (lv' := [(0, .ref (aS 0)), (1, .int x1), (2, .int (1 : Int32)), (3, .int y12)]) C 32 56 rfl 3 rfl (by rw [ey12]; rfl) (by decide) [1, 2, 3, 0] rfl ?_
          refine x_goto C 33 59 4 rfl rfl ?_
          exact x_sub [0, 1, 2, 3] rfl (hR4 ((1 : Int32), y12) h)
set_option maxHeartbeats 4000000 in
set_option maxRecDepth 100000 in
theorem w_X10_isState {x : CT} {aS : Nat → Nat} {sS : St} {sL : Int64} {p1 : Int32} {K : Int32 → Prop} (C : Cx x cX10_isState tb_X10_isState 5 RX10 (Cond.code yX10_isState cX10_isState 5 (some .boolean) :: wsL_law) ({ frames := 1, cells := 0, slots := 0, locals := 21 } : Room)) (rt : RetZ x 0 0 (fun (u : Unit) => fl [wdS (xk x) aS sS sL]) (fun (r : Int32) (_ : Unit) => K r)) (h : wp_X10_isState sS sL p1 K) : Wx x 5 0 0 (fl [wdS (xk x) aS sS sL]) [(0, .ref (aS 0)), (1, .int p1)] 0 [] := by
  unfold wp_X10_isState at h
  refine x_iconst (v := (1 : Int32)) C 0 0 rfl (by decide) ?_
  refine x_istore_n (lv' := [(0, .ref (aS 0)), (1, .int p1), (2, .int (1 : Int32))]) C 1 1 rfl rfl (by decide) [1, 2, 0] rfl ?_
  refine x_iconst (v := (0 : Int32)) C 2 2 rfl (by decide) ?_
  refine x_istore_n (lv' := [(0, .ref (aS 0)), (1, .int p1), (2, .int (1 : Int32)), (3, .int (0 : Int32))]) C 3 3 rfl rfl (by decide) [1, 2, 3, 0] rfl ?_
  refine x_sub (lv' := [(0, .ref (aS 0)), (1, .int p1), (2, .int (1 : Int32)), (3, .int (0 : Int32))]) [0, 1, 2, 3] rfl (w_X10_isState_4 C rt h)
theorem c_X10_isState (l : Launch) (D : va_G) (k : ClassId × ClassId) (g : Nat → Nat) (aS : Nat → Nat) (sS : St) (sL : Int64) (p1 : Int32) (K : Int32 → Prop) (h : wp_X10_isState sS sL p1 K) : ConZ l yX10_isState (Cond.code yX10_isState cX10_isState 5 (some .boolean) :: wsL_law) ({ frames := 1, cells := 0, slots := 0, locals := 21 } : Room) D k g [.ref (aS 0), .int p1] (fl [wdS k aS sS sL]) (fun (u : Unit) => fl [wdS k aS sS sL]) (fun (r : Int32) (_ : Unit) => K r) := by
  refine ConZ.of (tb := tb_X10_isState) (cc := cX10_isState) (nL := 5) (by decide) rfl tbk_X10_isState (Nat.le_of_ble_eq_true rfl) ?_
  intro x hl hD hk hg C rt
  subst hl hD hk hg
  exact w_X10_isState C rt h
set_option maxHeartbeats 4000000 in
set_option maxRecDepth 100000 in
theorem w_X10_leads_36 {x : CT} {aS : Nat → Nat} {sS : St} {sL : Int64} {x1 : Int32} {x2 : Int32} {x3 : Int32} {K : Int32 → Prop} (C : Cx x cX10_leads tb_X10_leads 8 RX10 (Cond.code yX10_leads cX10_leads 8 (some .boolean) :: wsL_law) ({ frames := 1, cells := 0, slots := 0, locals := 21 } : Room)) (rt : RetZ x 0 0 (fun (u : Unit) => fl [wdS (xk x) aS sS sL]) (fun (r : Int32) (_ : Unit) => K r))  {q2 : Int32 × Int32} (h : Lp (F_X10_leads_36 sS x1 x2 x3 K) q2) : Wx x 8 0 0 (fl [wdS (xk x) aS sS sL]) [(0, .ref (aS 0)), (1, .int x1), (2, .int x2), (3, .int x3), (4, .int q2.1), (5, .int q2.2)] 36 [] := by
  refine lp_walk (P := fun q2 => Wx x 8 0 0 (fl [wdS (xk x) aS sS sL]) [(0, .ref (aS 0)), (1, .int x1), (2, .int x2), (3, .int x3), (4, .int q2.1), (5, .int q2.2)] 36 []) (fun q2 R36 hR36 h => ?_) h
  refine x_iload C 22 36 rfl 5 rfl ?_
  refine x_bipush (v := (9 : Int32)) C 23 38 rfl (by decide) ?_
  refine x_icmp_ge C 24 40 129 rfl rfl (fun c3 => ?_) (fun c3 => ?_)
  · replace h := h.1 c3
    refine x_iload C 71 129 rfl 4 rfl ?_
    exact x_zret C rt 72 131 rfl h.1 () rfl h.2
  · replace h := h.2 c3
    refine x_iload C 25 43 rfl 4 rfl ?_
    refine x_if_eq C 26 45 129 rfl rfl (fun c4 => ?_) (fun c4 => ?_)
    · replace h := h.1 c4
      refine x_iload C 71 129 rfl 4 rfl ?_
      exact x_zret C rt 72 131 rfl h.1 () rfl h.2
    · replace h := h.2 c4
      refine x_iload_n C 27 48 rfl 2 rfl rfl ?_
      refine x_iload C 28 49 rfl 5 rfl ?_
      refine x_iconst (v := (3 : Int32)) C 29 51 rfl (by decide) ?_
      refine x_idiv C 30 52 rfl (by decide) ?_
      refine x_call0SI C 31 53 (c_X10_size (xl x) (xD x) (xk x) (xg x) x2 (q2.2 / (3 : Int32)) _ h) rfl wwGood (mem3 wq_36_20 wq_36_21 wq_1_5) wq_36_22 2 ok_X10_size rfl ⟨by decide, by decide⟩ (Nat.le_of_ble_eq_true rfl) ⟨Nat.le_refl _, Nat.le_refl _⟩ ⟨rfl, rfl⟩ rfl (fun r5 _ h => ?_)
      refine x_istore (lv' := [(0, .ref (aS 0)), (1, .int x1), (2, .int x2), (3, .int x3), (5, .int q2.2), (6, .int r5)]) C 32 56 rfl (by decide) [1, 2, 3, 4, 6, 0] rfl ?_
      refine x_iload_n C 33 58 rfl 3 rfl rfl ?_
      refine x_iload C 34 59 rfl 4 rfl ?_
      refine x_iconst (v := (3 : Int32)) C 35 61 rfl (by decide) ?_
      refine x_irem C 36 62 rfl (by decide) ?_
      refine x_call0SI C 37 63 (c_X10_size (xl x) (xD x) (xk x) (xg x) x3 (q2.2 - q2.2 / (3 : Int32) * (3 : Int32)) _ h) rfl wwGood (mem3 wq_36_20 wq_36_21 wq_1_5) wq_36_22 2 ok_X10_size rfl ⟨by decide, by decide⟩ (Nat.le_of_ble_eq_true rfl) ⟨Nat.le_refl _, Nat.le_refl _⟩ ⟨rfl, rfl⟩ rfl (fun r6 _ h => ?_)
      refine x_istore (lv' := [(0, .ref (aS 0)), (1, .int x1), (2, .int x2), (3, .int x3), (5, .int q2.2), (6, .int r5), (7, .int r6)]) C 38 66 rfl (by decide) [1, 2, 3, 4, 5, 6, 0] rfl ?_
      refine x_aload_n C 39 68 rfl 0 rfl rfl ?_
      refine x_get (v := .ref (aS 5)) C 40 69 rfl fi_X10 0 rfl rfl 6 (by decide) (mc wq_5_7) rfl ?_
      refine x_bipush (v := (9 : Int32)) C 41 72 rfl (by decide) ?_
      refine x_iload_n C 42 74 rfl 1 rfl rfl ?_
      refine x_imul C 43 75 rfl ?_
      refine x_iload C 44 76 rfl 4 rfl ?_
      refine x_iadd C 45 78 rfl ?_
      obtain ⟨hi, h⟩ := h
      refine x_iald (f := sS 6) C 46 79 rfl 5 rfl hi ?_
      refine x_if_eq C 47 80 116 rfl rfl (fun c7 => ?_) (fun c7 => ?_)
      · replace h := h.1 c7
        refine x_iconst (v := (1 : Int32)) C 65 116 rfl (by decide) ?_
        refine x_goto C 66 117 121 rfl rfl ?_
        refine x_istore (lv' := [(0, .ref (aS 0)), (1, .int x1), (2, .int x2), (3, .int x3), (4, .int (1 : Int32)), (5, .int q2.2)]) C 68 121 rfl (by decide) [1, 2, 3, 4, 0, 5] rfl ?_
        obtain ⟨y8, ey8⟩ : ∃ y : Int32, y = q2.2 + (1 : Int32) := ⟨_, rfl⟩
        replace h := h y8 ey8
        refine x_iinc (v := y8) (lv' := [(0, .ref (aS 0)), (1, .int x1), (2, .int x2), (3, .int x3), (4, .int (1 : Int32)), (5, .int y8)]) C 69 123 rfl 5 rfl (by rw [ey8]; rfl) (by decide) [1, 2, 3, 4, 5, 0] rfl ?_
        refine x_goto C 70 126 36 rfl rfl ?_
        exact x_sub [0, 1, 2, 3, 4, 5] rfl (hR36 ((1 : Int32), y8) h)
      · replace h := h.2 c7
        refine x_aload_n C 48 83 rfl 0 rfl rfl ?_
        refine x_get (v := .ref (aS 5)) C 49 84 rfl fi_X10 0 rfl rfl 6 (by decide) (mc wq_5_7) rfl ?_
        refine x_bipush (v := (9 : Int32)) C 50 87 rfl (by decide) ?_
        refine x_iload_n C 51 89 rfl 1 rfl rfl ?_
        refine x_imul C 52 90 rfl ?_
        refine x_iload C 53 91 rfl 4 rfl ?_
        refine x_iadd C 54 93 rfl ?_
        obtain ⟨hi, h⟩ := h
        refine x_iald (f := sS 6) C 55 94 rfl 5 rfl hi ?_
        refine x_iconst (v := (2 : Int32)) C 56 95 rfl (by decide) ?_
        refine x_icmp_ne C 57 96 109 rfl rfl (fun c9 => ?_) (fun c9 => ?_)
        · replace h := h.2 c9
          refine x_iload C 62 109 rfl 6 rfl ?_
          refine x_iload C 63 111 rfl 5 rfl ?_
          refine x_icmp_gt C 64 113 120 rfl rfl (fun c10 => ?_) (fun c10 => ?_)
          · replace h := h.1 c10
            refine x_iconst (v := (0 : Int32)) C 67 120 rfl (by decide) ?_
            refine x_istore (lv' := [(0, .ref (aS 0)), (1, .int x1), (2, .int x2), (3, .int x3), (4, .int (0 : Int32)), (5, .int q2.2)]) C 68 121 rfl (by decide) [1, 2, 3, 4, 0, 5] rfl ?_
            obtain ⟨y11, ey11⟩ : ∃ y : Int32, y = q2.2 + (1 : Int32) := ⟨_, rfl⟩
            replace h := h y11 ey11
            refine x_iinc (v := y11) (lv' := [(0, .ref (aS 0)), (1, .int x1), (2, .int x2), (3, .int x3), (4, .int (0 : Int32)), (5, .int y11)]) C 69 123 rfl 5 rfl (by rw [ey11]; rfl) (by decide) [1, 2, 3, 4, 5, 0] rfl ?_
            refine x_goto C 70 126 36 rfl rfl ?_
            exact x_sub [0, 1, 2, 3, 4, 5] rfl (hR36 ((0 : Int32), y11) h)
          · replace h := h.2 c10
            refine x_iconst (v := (1 : Int32)) C 65 116 rfl (by decide) ?_
            refine x_goto C 66 117 121 rfl rfl ?_
            refine x_istore (lv' := [(0, .ref (aS 0)), (1, .int x1), (2, .int x2), (3, .int x3), (4, .int (1 : Int32)), (5, .int q2.2)]) C 68 121 rfl (by decide) [1, 2, 3, 4, 0, 5] rfl ?_
            obtain ⟨y12, ey12⟩ : ∃ y : Int32, y = q2.2 + (1 : Int32) := ⟨_, rfl⟩
            replace h := h y12 ey12
            refine x_iinc (v := y12) (lv' := [(0, .ref (aS 0)), (1, .int x1), (2, .int x2), (3, .int x3), (4, .int (1 : Int32)), (5, .int y12)]) C 69 123 rfl 5 rfl (by rw [ey12]; rfl) (by decide) [1, 2, 3, 4, 5, 0] rfl ?_
            refine x_goto C 70 126 36 rfl rfl ?_
            exact x_sub [0, 1, 2, 3, 4, 5] rfl (hR36 ((1 : Int32), y12) h)
        · replace h := h.1 c9
          refine x_iload C 58 99 rfl 6 rfl ?_
          refine x_iload C 59 101 rfl 5 rfl ?_
          refine x_icmp_ge C 60 103 120 rfl rfl (fun c13 => ?_) (fun c13 => ?_)
          · replace h := h.1 c13
            refine x_iconst (v := (0 : Int32)) C 67 120 rfl (by decide) ?_
            refine x_istore (lv' := [(0, .ref (aS 0)), (1, .int x1), (2, .int x2), (3, .int x3), (4, .int (0 : Int32)), (5, .int q2.2)]) C 68 121 rfl (by decide) [1, 2, 3, 4, 0, 5] rfl ?_
            obtain ⟨y14, ey14⟩ : ∃ y : Int32, y = q2.2 + (1 : Int32) := ⟨_, rfl⟩
            replace h := h y14 ey14
            refine x_iinc (v := y14) (lv' := [(0, .ref (aS 0)), (1, .int x1), (2, .int x2), (3, .int x3), (4, .int (0 : Int32)), (5, .int y14)]) C 69 123 rfl 5 rfl (by rw [ey14]; rfl) (by decide) [1, 2, 3, 4, 5, 0] rfl ?_
            refine x_goto C 70 126 36 rfl rfl ?_
            exact x_sub [0, 1, 2, 3, 4, 5] rfl (hR36 ((0 : Int32), y14) h)
          · replace h := h.2 c13
            refine x_goto C 61 106 116 rfl rfl ?_
            refine x_iconst (v := (1 : Int32)) C 65 116 rfl (by decide) ?_
            refine x_goto C 66 117 121 rfl rfl ?_
            refine x_istore (lv' := [(0, .ref (aS 0)), (1, .int x1), (2, .int x2), (3, .int x3), (4, .int (1 : Int32)), (5, .int q2.2)]) C 68 121 rfl (by decide) [1, 2, 3, 4, 0, 5] rfl ?_
            obtain ⟨y15, ey15⟩ : ∃ y : Int32, y = q2.2 + (1 : Int32) := ⟨_, rfl⟩
            replace h := h y15 ey15
            refine x_iinc (v := y15) (lv' := [(0, .ref (aS 0)), (1, .int x1), (2, .int x2), (3, .int x3), (4, .int (1 : Int32)), (5, .int y15)]) C 69 123 rfl 5 rfl (by rw [ey15]; rfl) (by decide) [1, 2, 3, 4, 5, 0] rfl ?_
            refine x_goto C 70 126 36 rfl rfl ?_
            exact x_sub [0, 1, 2, 3, 4, 5] rfl (hR36 ((1 : Int32), y15) h)
set_option maxHeartbeats 4000000 in
set_option maxRecDepth 100000 in
theorem wj_X10_leads_31 {x : CT} {aS : Nat → Nat} {sS : St} {sL : Int64} {x1 : Int32} {x2 : Int32} {x3 : Int32} {t0 : Int32} {K : Int32 → Prop} (C : Cx x cX10_leads tb_X10_leads 8 RX10 (Cond.code yX10_leads cX10_leads 8 (some .boolean) :: wsL_law) ({ frames := 1, cells := 0, slots := 0, locals := 21 } : Room)) (rt : RetZ x 0 0 (fun (u : Unit) => fl [wdS (xk x) aS sS sL]) (fun (r : Int32) (_ : Unit) => K r))  (h : J_X10_leads_31 sS x1 x2 x3 t0 K) : Wx x 8 0 0 (fl [wdS (xk x) aS sS sL]) [(0, .ref (aS 0)), (1, .int x1), (2, .int x2), (3, .int x3)] 31 [.int t0] := by
  unfold J_X10_leads_31 at h
  refine x_istore (lv' := [(0, .ref (aS 0)), (1, .int x1), (2, .int x2), (3, .int x3), (4, .int t0)]) C 19 31 rfl (by decide) [1, 2, 3, 4, 0] rfl ?_
  refine x_iconst (v := (0 : Int32)) C 20 33 rfl (by decide) ?_
  refine x_istore (lv' := [(0, .ref (aS 0)), (1, .int x1), (2, .int x2), (3, .int x3), (4, .int t0), (5, .int (0 : Int32))]) C 21 34 rfl (by decide) [1, 2, 3, 4, 5, 0] rfl ?_
  refine x_sub (lv' := [(0, .ref (aS 0)), (1, .int x1), (2, .int x2), (3, .int x3), (4, .int t0), (5, .int (0 : Int32))]) [0, 1, 2, 3, 4, 5] rfl (w_X10_leads_36 C rt h)
set_option maxHeartbeats 4000000 in
set_option maxRecDepth 100000 in
theorem wj_X10_leads_30 {x : CT} {aS : Nat → Nat} {sS : St} {sL : Int64} {x1 : Int32} {x2 : Int32} {x3 : Int32} {K : Int32 → Prop} (C : Cx x cX10_leads tb_X10_leads 8 RX10 (Cond.code yX10_leads cX10_leads 8 (some .boolean) :: wsL_law) ({ frames := 1, cells := 0, slots := 0, locals := 21 } : Room)) (rt : RetZ x 0 0 (fun (u : Unit) => fl [wdS (xk x) aS sS sL]) (fun (r : Int32) (_ : Unit) => K r))  (h : J_X10_leads_30 sS x1 x2 x3 K) : Wx x 8 0 0 (fl [wdS (xk x) aS sS sL]) [(0, .ref (aS 0)), (1, .int x1), (2, .int x2), (3, .int x3)] 30 [] := by
  unfold J_X10_leads_30 at h
  refine x_iconst (v := (0 : Int32)) C 18 30 rfl (by decide) ?_
  exact x_sub (lv' := [(0, .ref (aS 0)), (1, .int x1), (2, .int x2), (3, .int x3)]) [0, 1, 2, 3] rfl (wj_X10_leads_31 C rt h)
set_option maxHeartbeats 4000000 in
set_option maxRecDepth 100000 in
theorem w_X10_leads {x : CT} {aS : Nat → Nat} {sS : St} {sL : Int64} {p1 : Int32} {p2 : Int32} {p3 : Int32} {K : Int32 → Prop} (C : Cx x cX10_leads tb_X10_leads 8 RX10 (Cond.code yX10_leads cX10_leads 8 (some .boolean) :: wsL_law) ({ frames := 1, cells := 0, slots := 0, locals := 21 } : Room)) (rt : RetZ x 0 0 (fun (u : Unit) => fl [wdS (xk x) aS sS sL]) (fun (r : Int32) (_ : Unit) => K r)) (h : wp_X10_leads sS sL p1 p2 p3 K) : Wx x 8 0 0 (fl [wdS (xk x) aS sS sL]) [(0, .ref (aS 0)), (1, .int p1), (2, .int p2), (3, .int p3)] 0 [] := by
  unfold wp_X10_leads at h
  refine x_aload_n C 0 0 rfl 0 rfl rfl ?_
  refine x_get (v := .ref (aS 3)) C 1 1 rfl fi_X10 0 rfl rfl 4 (by decide) (mc wq_5_5) rfl ?_
  refine x_iload_n C 2 4 rfl 1 rfl rfl ?_
  obtain ⟨hi, h⟩ := h
  refine x_iald (f := sS 4) C 3 5 rfl 3 rfl hi ?_
  refine x_iload_n C 4 6 rfl 2 rfl rfl ?_
  refine x_bipush (v := (64 : Int32)) C 5 7 rfl (by decide) ?_
  refine x_idiv C 6 9 rfl (by decide) ?_
  refine x_icmp_ne C 7 10 30 rfl rfl (fun c1 => ?_) (fun c1 => ?_)
  · replace h := h.2 c1
    exact x_sub (lv' := [(0, .ref (aS 0)), (1, .int p1), (2, .int p2), (3, .int p3)]) [0, 1, 2, 3] rfl (wj_X10_leads_30 C rt h)
  · replace h := h.1 c1
    refine x_aload_n C 8 13 rfl 0 rfl rfl ?_
    refine x_get (v := .ref (aS 4)) C 9 14 rfl fi_X10 0 rfl rfl 5 (by decide) (mc wq_5_6) rfl ?_
    refine x_iload_n C 10 17 rfl 1 rfl rfl ?_
    obtain ⟨hi, h⟩ := h
    refine x_iald (f := sS 5) C 11 18 rfl 4 rfl hi ?_
    refine x_iload_n C 12 19 rfl 3 rfl rfl ?_
    refine x_bipush (v := (64 : Int32)) C 13 20 rfl (by decide) ?_
    refine x_idiv C 14 22 rfl (by decide) ?_
    refine x_icmp_ne C 15 23 30 rfl rfl (fun c16 => ?_) (fun c16 => ?_)
    · replace h := h.2 c16
      exact x_sub (lv' := [(0, .ref (aS 0)), (1, .int p1), (2, .int p2), (3, .int p3)]) [0, 1, 2, 3] rfl (wj_X10_leads_30 C rt h)
    · replace h := h.1 c16
      refine x_iconst (v := (1 : Int32)) C 16 26 rfl (by decide) ?_
      refine x_goto C 17 27 31 rfl rfl ?_
      exact x_sub (lv' := [(0, .ref (aS 0)), (1, .int p1), (2, .int p2), (3, .int p3)]) [0, 1, 2, 3] rfl (wj_X10_leads_31 C rt h)
theorem c_X10_leads (l : Launch) (D : va_G) (k : ClassId × ClassId) (g : Nat → Nat) (aS : Nat → Nat) (sS : St) (sL : Int64) (p1 : Int32) (p2 : Int32) (p3 : Int32) (K : Int32 → Prop) (h : wp_X10_leads sS sL p1 p2 p3 K) : ConZ l yX10_leads (Cond.code yX10_leads cX10_leads 8 (some .boolean) :: wsL_law) ({ frames := 1, cells := 0, slots := 0, locals := 21 } : Room) D k g [.ref (aS 0), .int p1, .int p2, .int p3] (fl [wdS k aS sS sL]) (fun (u : Unit) => fl [wdS k aS sS sL]) (fun (r : Int32) (_ : Unit) => K r) := by
  refine ConZ.of (tb := tb_X10_leads) (cc := cX10_leads) (nL := 8) (by decide) rfl tbk_X10_leads (Nat.le_of_ble_eq_true rfl) ?_
  intro x hl hD hk hg C rt
  subst hl hD hk hg
  exact w_X10_leads C rt h
set_option maxHeartbeats 4000000 in
set_option maxRecDepth 100000 in
theorem w_X10_goesTo_5 {x : CT} {aS : Nat → Nat} {sS : St} {sL : Int64} {x1 : Int32} {x2 : Int32} {K : Int32 → Prop} (C : Cx x cX10_goesTo tb_X10_goesTo 5 RX10 (Cond.code yX10_goesTo cX10_goesTo 5 (some .boolean) :: wsL_law) ({ frames := 2, cells := 0, slots := 0, locals := 48 } : Room)) (rt : RetZ x 0 0 (fun (u : Unit) => fl [wdS (xk x) aS sS sL]) (fun (r : Int32) (_ : Unit) => K r))  {q1 : Int32 × Int32} (h : Lp (F_X10_goesTo_5 sS sL x1 x2 K) q1) : Wx x 5 0 0 (fl [wdS (xk x) aS sS sL]) [(0, .ref (aS 0)), (1, .int x1), (2, .int x2), (3, .int q1.1), (4, .int q1.2)] 5 [] := by
  refine lp_walk (P := fun q1 => Wx x 5 0 0 (fl [wdS (xk x) aS sS sL]) [(0, .ref (aS 0)), (1, .int x1), (2, .int x2), (3, .int q1.1), (4, .int q1.2)] 5 []) (fun q1 R5 hR5 h => ?_) h
  refine x_iload C 4 5 rfl 4 rfl ?_
  refine x_aload_n C 5 7 rfl 0 rfl rfl ?_
  refine x_get (v := .int (sS 3 0)) C 6 8 rfl fi_X10 0 rfl rfl 3 (by decide) (mc wq_14_4) rfl ?_
  refine x_icmp_ge C 7 11 33 rfl rfl (fun c2 => ?_) (fun c2 => ?_)
  · replace h := h.1 c2
    refine x_iload_n C 18 33 rfl 3 rfl rfl ?_
    exact x_zret C rt 19 34 rfl h.1 () rfl h.2
  · replace h := h.2 c2
    refine x_iload_n C 8 14 rfl 3 rfl rfl ?_
    refine x_if_ne C 9 15 33 rfl rfl (fun c3 => ?_) (fun c3 => ?_)
    · replace h := h.2 c3
      refine x_iload_n C 18 33 rfl 3 rfl rfl ?_
      exact x_zret C rt 19 34 rfl h.1 () rfl h.2
    · replace h := h.1 c3
      refine x_aload_n C 10 18 rfl 0 rfl rfl ?_
      refine x_iload C 11 19 rfl 4 rfl ?_
      refine x_iload_n C 12 21 rfl 1 rfl rfl ?_
      refine x_iload_n C 13 22 rfl 2 rfl rfl ?_
      refine x_callWVZ (ci := 8) (q0 := 0) (q := (RX10, TX10, 34)) C 14 23 (c_X10_leads (xl x) (xD x) (xk x) (xg x) aS sS sL q1.2 x1 x2 _ h) rfl wwGood (mem4 wq_37_3 wq_37_4 wq_37_5 wq_1_5) wq_37_6 3 ok_X10_leads rfl ⟨by decide, by decide⟩ (Nat.le_of_ble_eq_true rfl) ⟨Nat.le_refl _, Nat.le_refl _⟩ ⟨rfl, rfl⟩ rfl rfl rfl (fun r4 _ h => ?_)
      refine x_istore_n (lv' := [(0, .ref (aS 0)), (1, .int x1), (2, .int x2), (3, .int r4), (4, .int q1.2)]) C 15 26 rfl rfl (by decide) [1, 2, 3, 0, 4] rfl ?_
      obtain ⟨y5, ey5⟩ : ∃ y : Int32, y = q1.2 + (1 : Int32) := ⟨_, rfl⟩
      replace h := h y5 ey5
      refine x_iinc (v := y5) (lv' := [(0, .ref (aS 0)), (1, .int x1), (2, .int x2), (3, .int r4), (4, .int y5)]) C 16 27 rfl 4 rfl (by rw [ey5]; rfl) (by decide) [1, 2, 3, 4, 0] rfl ?_
      refine x_goto C 17 30 5 rfl rfl ?_
      exact x_sub [0, 1, 2, 3, 4] rfl (hR5 (r4, y5) h)
set_option maxHeartbeats 4000000 in
set_option maxRecDepth 100000 in
theorem w_X10_goesTo {x : CT} {aS : Nat → Nat} {sS : St} {sL : Int64} {p1 : Int32} {p2 : Int32} {K : Int32 → Prop} (C : Cx x cX10_goesTo tb_X10_goesTo 5 RX10 (Cond.code yX10_goesTo cX10_goesTo 5 (some .boolean) :: wsL_law) ({ frames := 2, cells := 0, slots := 0, locals := 48 } : Room)) (rt : RetZ x 0 0 (fun (u : Unit) => fl [wdS (xk x) aS sS sL]) (fun (r : Int32) (_ : Unit) => K r)) (h : wp_X10_goesTo sS sL p1 p2 K) : Wx x 5 0 0 (fl [wdS (xk x) aS sS sL]) [(0, .ref (aS 0)), (1, .int p1), (2, .int p2)] 0 [] := by
  unfold wp_X10_goesTo at h
  refine x_iconst (v := (0 : Int32)) C 0 0 rfl (by decide) ?_
  refine x_istore_n (lv' := [(0, .ref (aS 0)), (1, .int p1), (2, .int p2), (3, .int (0 : Int32))]) C 1 1 rfl rfl (by decide) [1, 2, 3, 0] rfl ?_
  refine x_iconst (v := (0 : Int32)) C 2 2 rfl (by decide) ?_
  refine x_istore (lv' := [(0, .ref (aS 0)), (1, .int p1), (2, .int p2), (3, .int (0 : Int32)), (4, .int (0 : Int32))]) C 3 3 rfl (by decide) [1, 2, 3, 4, 0] rfl ?_
  refine x_sub (lv' := [(0, .ref (aS 0)), (1, .int p1), (2, .int p2), (3, .int (0 : Int32)), (4, .int (0 : Int32))]) [0, 1, 2, 3, 4] rfl (w_X10_goesTo_5 C rt h)
theorem c_X10_goesTo (l : Launch) (D : va_G) (k : ClassId × ClassId) (g : Nat → Nat) (aS : Nat → Nat) (sS : St) (sL : Int64) (p1 : Int32) (p2 : Int32) (K : Int32 → Prop) (h : wp_X10_goesTo sS sL p1 p2 K) : ConZ l yX10_goesTo (Cond.code yX10_goesTo cX10_goesTo 5 (some .boolean) :: wsL_law) ({ frames := 2, cells := 0, slots := 0, locals := 48 } : Room) D k g [.ref (aS 0), .int p1, .int p2] (fl [wdS k aS sS sL]) (fun (u : Unit) => fl [wdS k aS sS sL]) (fun (r : Int32) (_ : Unit) => K r) := by
  refine ConZ.of (tb := tb_X10_goesTo) (cc := cX10_goesTo) (nL := 5) (by decide) rfl tbk_X10_goesTo (Nat.le_of_ble_eq_true rfl) ?_
  intro x hl hD hk hg C rt
  subst hl hD hk hg
  exact w_X10_goesTo C rt h
set_option maxHeartbeats 4000000 in
set_option maxRecDepth 100000 in
theorem w_X10_stateOf {x : CT} {aS : Nat → Nat} {sS : St} {sL : Int64} {p1 : Int32} {p2 : Int32} {p3 : Int32} {p4 : Int32} {K : Int32 → Prop} (C : Cx x cX10_stateOf tb_X10_stateOf 6 RX10 (Cond.code yX10_stateOf cX10_stateOf 6 (some .int) :: wsL_law) ({ frames := 2, cells := 0, slots := 0, locals := 45 } : Room)) (rt : RetI x 0 0 (fun (u : Unit) => fl [wdS (xk x) aS sS sL]) (fun (r : Int32) (_ : Unit) => K r)) (h : wp_X10_stateOf sS sL p1 p2 p3 p4 K) : Wx x 6 0 0 (fl [wdS (xk x) aS sS sL]) [(0, .ref (aS 0)), (1, .int p1), (2, .int p2), (3, .int p3), (4, .int p4)] 0 [] := by
  unfold wp_X10_stateOf at h
  refine x_iload_n C 0 0 rfl 1 rfl rfl ?_
  refine x_call0SZ C 1 1 (c_X10_isAct (xl x) (xD x) (xk x) (xg x) p1 _ h) rfl wwGood (mem3 wq_16_12 wq_16_13 wq_1_5) wq_16_14 1 ok_X10_isAct rfl ⟨by decide, by decide⟩ (Nat.le_of_ble_eq_true rfl) ⟨Nat.le_refl _, Nat.le_refl _⟩ ⟨rfl, rfl⟩ rfl (fun r1 _ h => ?_)
  refine x_if_eq C 2 4 44 rfl rfl (fun c2 => ?_) (fun c2 => ?_)
  · replace h := h.1 c2
    refine x_iconst (v := (-1 : Int32)) C 21 44 rfl (by decide) ?_
    exact x_iret C rt 22 45 rfl () rfl h
  · replace h := h.2 c2
    refine x_iload_n C 3 7 rfl 2 rfl rfl ?_
    refine x_i2l C 4 8 rfl ?_
    refine x_lconst (v := (0 : Int64)) C 5 9 rfl (by decide) ?_
    refine x_ldc2 (v := (3 : Int64)) C 6 10 rfl (mc wq_16_15) ?_
    refine x_call0SZ C 7 13 (c_X10_in (xl x) (xD x) (xk x) (xg x) p2.toInt64 (0 : Int64) (3 : Int64) _ h) rfl wwGood (mem3 wq_6_21 wq_6_22 wq_1_5) wq_6_23 3 ok_X10_in rfl ⟨by decide, by decide⟩ (Nat.le_of_ble_eq_true rfl) ⟨Nat.le_refl _, Nat.le_refl _⟩ ⟨rfl, rfl⟩ rfl (fun r3 _ h => ?_)
    refine x_if_eq C 8 16 44 rfl rfl (fun c4 => ?_) (fun c4 => ?_)
    · replace h := h.1 c4
      refine x_iconst (v := (-1 : Int32)) C 21 44 rfl (by decide) ?_
      exact x_iret C rt 22 45 rfl () rfl h
    · replace h := h.2 c4
      refine x_iload_n C 9 19 rfl 3 rfl rfl ?_
      refine x_i2l C 10 20 rfl ?_
      refine x_lconst (v := (0 : Int64)) C 11 21 rfl (by decide) ?_
      refine x_ldc2 (v := (3 : Int64)) C 12 22 rfl (mc wq_16_15) ?_
      refine x_call0SZ C 13 25 (c_X10_in (xl x) (xD x) (xk x) (xg x) p3.toInt64 (0 : Int64) (3 : Int64) _ h) rfl wwGood (mem3 wq_6_21 wq_6_22 wq_1_5) wq_6_23 3 ok_X10_in rfl ⟨by decide, by decide⟩ (Nat.le_of_ble_eq_true rfl) ⟨Nat.le_refl _, Nat.le_refl _⟩ ⟨rfl, rfl⟩ rfl (fun r5 _ h => ?_)
      refine x_if_eq C 14 28 44 rfl rfl (fun c6 => ?_) (fun c6 => ?_)
      · replace h := h.1 c6
        refine x_iconst (v := (-1 : Int32)) C 21 44 rfl (by decide) ?_
        exact x_iret C rt 22 45 rfl () rfl h
      · replace h := h.2 c6
        refine x_iload C 15 31 rfl 4 rfl ?_
        refine x_i2l C 16 33 rfl ?_
        refine x_lconst (v := (0 : Int64)) C 17 34 rfl (by decide) ?_
        refine x_ldc2 (v := (3 : Int64)) C 18 35 rfl (mc wq_16_15) ?_
        refine x_call0SZ C 19 38 (c_X10_in (xl x) (xD x) (xk x) (xg x) p4.toInt64 (0 : Int64) (3 : Int64) _ h) rfl wwGood (mem3 wq_6_21 wq_6_22 wq_1_5) wq_6_23 3 ok_X10_in rfl ⟨by decide, by decide⟩ (Nat.le_of_ble_eq_true rfl) ⟨Nat.le_refl _, Nat.le_refl _⟩ ⟨rfl, rfl⟩ rfl (fun r7 _ h => ?_)
        refine x_if_ne C 20 41 46 rfl rfl (fun c8 => ?_) (fun c8 => ?_)
        · replace h := h.2 c8
          refine x_bipush (v := (64 : Int32)) C 23 46 rfl (by decide) ?_
          refine x_iload_n C 24 48 rfl 1 rfl rfl ?_
          refine x_imul C 25 49 rfl ?_
          refine x_iload_n C 26 50 rfl 2 rfl rfl ?_
          refine x_iadd C 27 51 rfl ?_
          refine x_iconst (v := (4 : Int32)) C 28 52 rfl (by decide) ?_
          refine x_iload_n C 29 53 rfl 3 rfl rfl ?_
          refine x_imul C 30 54 rfl ?_
          refine x_iadd C 31 55 rfl ?_
          refine x_bipush (v := (16 : Int32)) C 32 56 rfl (by decide) ?_
          refine x_iload C 33 58 rfl 4 rfl ?_
          refine x_imul C 34 60 rfl ?_
          refine x_iadd C 35 61 rfl ?_
          refine x_topi (fun y9 ey9 => ?_)
          replace h := h y9 ey9
          refine x_istore (lv' := [(0, .ref (aS 0)), (5, .int y9)]) C 36 62 rfl (by decide) [1, 0] rfl ?_
          refine x_aload_n C 37 64 rfl 0 rfl rfl ?_
          refine x_iload C 38 65 rfl 1 rfl ?_
          refine x_callWVZ (ci := 8) (q0 := 0) (q := (RX10, TX10, 34)) C 39 67 (c_X10_isState (xl x) (xD x) (xk x) (xg x) aS sS sL y9 _ h) rfl wwGood (mem4 wq_36_16 wq_36_17 wq_36_18 wq_1_5) wq_36_19 1 ok_X10_isState rfl ⟨by decide, by decide⟩ (Nat.le_of_ble_eq_true rfl) ⟨Nat.le_refl _, Nat.le_refl _⟩ ⟨rfl, rfl⟩ rfl rfl rfl (fun r10 _ h => ?_)
          refine x_if_eq C 40 70 78 rfl rfl (fun c11 => ?_) (fun c11 => ?_)
          · replace h := h.1 c11
            refine x_iconst (v := (-1 : Int32)) C 43 78 rfl (by decide) ?_
            exact x_iret C rt 44 79 rfl () rfl h
          · replace h := h.2 c11
            refine x_iload C 41 73 rfl 1 rfl ?_
            refine x_goto C 42 75 79 rfl rfl ?_
            exact x_iret C rt 44 79 rfl () rfl h
        · replace h := h.1 c8
          refine x_iconst (v := (-1 : Int32)) C 21 44 rfl (by decide) ?_
          exact x_iret C rt 22 45 rfl () rfl h
theorem c_X10_stateOf (l : Launch) (D : va_G) (k : ClassId × ClassId) (g : Nat → Nat) (aS : Nat → Nat) (sS : St) (sL : Int64) (p1 : Int32) (p2 : Int32) (p3 : Int32) (p4 : Int32) (K : Int32 → Prop) (h : wp_X10_stateOf sS sL p1 p2 p3 p4 K) : ConI l yX10_stateOf (Cond.code yX10_stateOf cX10_stateOf 6 (some .int) :: wsL_law) ({ frames := 2, cells := 0, slots := 0, locals := 45 } : Room) D k g [.ref (aS 0), .int p1, .int p2, .int p3, .int p4] (fl [wdS k aS sS sL]) (fun (u : Unit) => fl [wdS k aS sS sL]) (fun (r : Int32) (_ : Unit) => K r) := by
  refine ConI.of (tb := tb_X10_stateOf) (cc := cX10_stateOf) (nL := 6) (by decide) rfl tbk_X10_stateOf (Nat.le_of_ble_eq_true rfl) ?_
  intro x hl hD hk hg C rt
  subst hl hD hk hg
  exact w_X10_stateOf C rt h
set_option maxHeartbeats 4000000 in
set_option maxRecDepth 100000 in
theorem w_X10_longest_21 {x : CT} {aS : Nat → Nat} {sL : Int64} {x5 : Int32} {K : Int32 → St → Prop} {E43 : St → Prop} (C : Cx x cX10_longest tb_X10_longest 10 RX10 (Cond.code yX10_longest cX10_longest 10 (some .int) :: wsL_law) ({ frames := 3, cells := 0, slots := 0, locals := 72 } : Room)) (rt : RetI x 0 0 (fun (u : St) => fl [wdS (xk x) aS u sL]) (fun (r : Int32) (u : St) => K r u)) (hE43 : ∀ q : St, E43 q → Wx x 10 0 0 (fl [wdS (xk x) aS q sL]) [(0, .ref (aS 0)), (5, .int x5)] 43 []) {q3 : Int32 × St} (h : Lp (F_X10_longest_21 E43) q3) : Wx x 10 0 0 (fl [wdS (xk x) aS q3.2 sL]) [(0, .ref (aS 0)), (5, .int x5), (6, .int q3.1)] 21 [] := by
  refine lp_walk (P := fun q3 => Wx x 10 0 0 (fl [wdS (xk x) aS q3.2 sL]) [(0, .ref (aS 0)), (5, .int x5), (6, .int q3.1)] 21 []) (fun q3 R21 hR21 h => ?_) h
  refine x_iload C 13 21 rfl 2 rfl ?_
  refine x_sipush (v := (256 : Int32)) C 14 23 rfl (by decide) ?_
  refine x_icmp_ge C 15 26 43 rfl rfl (fun c4 => ?_) (fun c4 => ?_)
  · replace h := h.1 c4
    exact x_sub [0, 1] rfl (hE43 q3.2 h)
  · replace h := h.2 c4
    refine x_aload_n C 16 29 rfl 0 rfl rfl ?_
    refine x_get (v := .ref (aS 21)) C 17 30 rfl fi_X10 0 rfl rfl 33 (by decide) (mc wq_6_2) rfl ?_
    refine x_iload C 18 33 rfl 2 rfl ?_
    refine x_iconst (v := (-1 : Int32)) C 19 35 rfl (by decide) ?_
    obtain ⟨hi, h⟩ := h
    obtain ⟨z5, ez5⟩ : ∃ z : St, z = ua q3.2 33 q3.1 (-1 : Int32) := ⟨_, rfl⟩
    replace h := h z5 ez5
    refine x_iast (f := q3.2 33) (ws' := fl [wdS (xk x) aS z5 sL]) C 20 36 rfl 21 rfl hi (by rw [ez5]; rfl) ?_
    obtain ⟨y6, ey6⟩ : ∃ y : Int32, y = q3.1 + (1 : Int32) := ⟨_, rfl⟩
    replace h := h y6 ey6
    refine x_iinc (v := y6) (lv' := [(0, .ref (aS 0)), (5, .int x5), (6, .int y6)]) C 21 37 rfl 2 rfl (by rw [ey6]; rfl) (by decide) [1, 2, 0] rfl ?_
    refine x_goto C 22 40 21 rfl rfl ?_
    exact x_sub [0, 1, 2] rfl (hR21 (y6, z5) h)
set_option maxHeartbeats 4000000 in
set_option maxRecDepth 100000 in
theorem w_X10_longest_90 {x : CT} {aS : Nat → Nat} {sS : St} {sL : Int64} {x5 : Int32} {x6 : Int32} {x7 : Int32} {K : Int32 → St → Prop} {E173 : Int32 → Prop} (C : Cx x cX10_longest tb_X10_longest 10 RX10 (Cond.code yX10_longest cX10_longest 10 (some .int) :: wsL_law) ({ frames := 3, cells := 0, slots := 0, locals := 72 } : Room)) (rt : RetI x 0 0 (fun (u : St) => fl [wdS (xk x) aS u sL]) (fun (r : Int32) (u : St) => K r u)) (hE173 : ∀ q : Int32, E173 q → Wx x 10 0 0 (fl [wdS (xk x) aS sS sL]) [(0, .ref (aS 0)), (5, .int x5), (6, .int x6), (7, .int x7), (8, .int q)] 173 []) {q17 : Int32 × Int32} (h : Lp (F_X10_longest_90 sS sL x7 E173) q17) : Wx x 10 0 0 (fl [wdS (xk x) aS sS sL]) [(0, .ref (aS 0)), (5, .int x5), (6, .int x6), (7, .int x7), (8, .int q17.1), (9, .int q17.2)] 90 [] := by
  refine lp_walk (P := fun q17 => Wx x 10 0 0 (fl [wdS (xk x) aS sS sL]) [(0, .ref (aS 0)), (5, .int x5), (6, .int x6), (7, .int x7), (8, .int q17.1), (9, .int q17.2)] 90 []) (fun q17 R90 hR90 h => ?_) h
  refine x_iload C 47 90 rfl 5 rfl ?_
  refine x_sipush (v := (256 : Int32)) C 48 92 rfl (by decide) ?_
  refine x_icmp_ge C 49 95 173 rfl rfl (fun c18 => ?_) (fun c18 => ?_)
  · replace h := h.1 c18
    exact x_sub [0, 1, 2, 3, 4] rfl (hE173 q17.1 h)
  · replace h := h.2 c18
    refine x_iload C 50 98 rfl 4 rfl ?_
    refine x_if_lt C 51 100 173 rfl rfl (fun c19 => ?_) (fun c19 => ?_)
    · replace h := h.1 c19
      exact x_sub [0, 1, 2, 3, 4] rfl (hE173 q17.1 h)
    · replace h := h.2 c19
      refine x_aload_n C 52 103 rfl 0 rfl rfl ?_
      refine x_iload C 53 104 rfl 5 rfl ?_
      refine x_callWVZ (ci := 8) (q0 := 0) (q := (RX10, TX10, 34)) C 54 106 (c_X10_isState (xl x) (xD x) (xk x) (xg x) aS sS sL q17.2 _ h) rfl wwGood (mem4 wq_36_16 wq_36_17 wq_36_18 wq_1_5) wq_36_19 1 ok_X10_isState rfl ⟨by decide, by decide⟩ (Nat.le_of_ble_eq_true rfl) ⟨Nat.le_refl _, Nat.le_refl _⟩ ⟨rfl, rfl⟩ rfl rfl rfl (fun r20 _ h => ?_)
      refine x_if_eq C 55 109 167 rfl rfl (fun c21 => ?_) (fun c21 => ?_)
      · replace h := h.1 c21
        obtain ⟨y22, ey22⟩ : ∃ y : Int32, y = q17.2 + (1 : Int32) := ⟨_, rfl⟩
        replace h := h y22 ey22
        refine x_iinc (v := y22) (lv' := [(0, .ref (aS 0)), (5, .int x5), (6, .int x6), (7, .int x7), (8, .int q17.1), (9, .int y22)]) C 85 167 rfl 5 rfl (by rw [ey22]; rfl) (by decide) [1, 2, 3, 4, 5, 0] rfl ?_
        refine x_goto C 86 170 90 rfl rfl ?_
        exact x_sub [0, 1, 2, 3, 4, 5] rfl (hR90 (q17.1, y22) h)
      · replace h := h.2 c21
        refine x_aload_n C 56 112 rfl 0 rfl rfl ?_
        refine x_iload C 57 113 rfl 3 rfl ?_
        refine x_iload C 58 115 rfl 5 rfl ?_
        refine x_callWVZ (ci := 8) (q0 := 0) (q := (RX10, TX10, 34)) C 59 117 (c_X10_goesTo (xl x) (xD x) (xk x) (xg x) aS sS sL x7 q17.2 _ h) rfl wwGood (mem4 wq_36_23 wq_37_0 wq_37_1 wq_1_5) wq_37_2 2 ok_X10_goesTo rfl ⟨by decide, by decide⟩ (Nat.le_of_ble_eq_true rfl) ⟨Nat.le_refl _, Nat.le_refl _⟩ ⟨rfl, rfl⟩ rfl rfl rfl (fun r23 _ h => ?_)
        refine x_if_eq C 60 120 167 rfl rfl (fun c24 => ?_) (fun c24 => ?_)
        · replace h := h.1 c24
          obtain ⟨y25, ey25⟩ : ∃ y : Int32, y = q17.2 + (1 : Int32) := ⟨_, rfl⟩
          replace h := h y25 ey25
          refine x_iinc (v := y25) (lv' := [(0, .ref (aS 0)), (5, .int x5), (6, .int x6), (7, .int x7), (8, .int q17.1), (9, .int y25)]) C 85 167 rfl 5 rfl (by rw [ey25]; rfl) (by decide) [1, 2, 3, 4, 5, 0] rfl ?_
          refine x_goto C 86 170 90 rfl rfl ?_
          exact x_sub [0, 1, 2, 3, 4, 5] rfl (hR90 (q17.1, y25) h)
        · replace h := h.2 c24
          refine x_aload_n C 61 123 rfl 0 rfl rfl ?_
          refine x_get (v := .ref (aS 21)) C 62 124 rfl fi_X10 0 rfl rfl 33 (by decide) (mc wq_6_2) rfl ?_
          refine x_iload C 63 127 rfl 5 rfl ?_
          obtain ⟨hi, h⟩ := h
          refine x_iald (f := sS 33) C 64 129 rfl 21 rfl hi ?_
          refine x_if_ge C 65 130 137 rfl rfl (fun c26 => ?_) (fun c26 => ?_)
          · replace h := h.1 c26
            refine x_aload_n C 68 137 rfl 0 rfl rfl ?_
            refine x_get (v := .ref (aS 21)) C 69 138 rfl fi_X10 0 rfl rfl 33 (by decide) (mc wq_6_2) rfl ?_
            refine x_iload C 70 141 rfl 5 rfl ?_
            obtain ⟨hi, h⟩ := h
            refine x_iald (f := sS 33) C 71 143 rfl 21 rfl hi ?_
            refine x_iconst (v := (1 : Int32)) C 72 144 rfl (by decide) ?_
            refine x_iadd C 73 145 rfl ?_
            refine x_iload C 74 146 rfl 4 rfl ?_
            refine x_icmp_le C 75 148 163 rfl rfl (fun c27 => ?_) (fun c27 => ?_)
            · replace h := h.1 c27
              refine x_iload C 83 163 rfl 4 rfl ?_
              refine x_istore (lv' := [(0, .ref (aS 0)), (5, .int x5), (6, .int x6), (7, .int x7), (8, .int q17.1), (9, .int q17.2)]) C 84 165 rfl (by decide) [1, 2, 3, 4, 0, 5] rfl ?_
              obtain ⟨y28, ey28⟩ : ∃ y : Int32, y = q17.2 + (1 : Int32) := ⟨_, rfl⟩
              replace h := h y28 ey28
              refine x_iinc (v := y28) (lv' := [(0, .ref (aS 0)), (5, .int x5), (6, .int x6), (7, .int x7), (8, .int q17.1), (9, .int y28)]) C 85 167 rfl 5 rfl (by rw [ey28]; rfl) (by decide) [1, 2, 3, 4, 5, 0] rfl ?_
              refine x_goto C 86 170 90 rfl rfl ?_
              exact x_sub [0, 1, 2, 3, 4, 5] rfl (hR90 (q17.1, y28) h)
            · replace h := h.2 c27
              refine x_aload_n C 76 151 rfl 0 rfl rfl ?_
              refine x_get (v := .ref (aS 21)) C 77 152 rfl fi_X10 0 rfl rfl 33 (by decide) (mc wq_6_2) rfl ?_
              refine x_iload C 78 155 rfl 5 rfl ?_
              obtain ⟨hi, h⟩ := h
              refine x_iald (f := sS 33) C 79 157 rfl 21 rfl hi ?_
              refine x_iconst (v := (1 : Int32)) C 80 158 rfl (by decide) ?_
              refine x_iadd C 81 159 rfl ?_
              refine x_goto C 82 160 165 rfl rfl ?_
              refine x_topi (fun y29 ey29 => ?_)
              replace h := h y29 ey29
              refine x_istore (lv' := [(0, .ref (aS 0)), (5, .int x5), (6, .int x6), (7, .int x7), (8, .int y29), (9, .int q17.2)]) C 84 165 rfl (by decide) [1, 2, 3, 4, 0, 5] rfl ?_
              obtain ⟨y30, ey30⟩ : ∃ y : Int32, y = q17.2 + (1 : Int32) := ⟨_, rfl⟩
              replace h := h y30 ey30
              refine x_iinc (v := y30) (lv' := [(0, .ref (aS 0)), (5, .int x5), (6, .int x6), (7, .int x7), (8, .int y29), (9, .int y30)]) C 85 167 rfl 5 rfl (by rw [ey30]; rfl) (by decide) [1, 2, 3, 4, 5, 0] rfl ?_
              refine x_goto C 86 170 90 rfl rfl ?_
              exact x_sub [0, 1, 2, 3, 4, 5] rfl (hR90 (y29, y30) h)
          · replace h := h.2 c26
            refine x_iconst (v := (-1 : Int32)) C 66 133 rfl (by decide) ?_
            refine x_goto C 67 134 165 rfl rfl ?_
            refine x_istore (lv' := [(0, .ref (aS 0)), (5, .int x5), (6, .int x6), (7, .int x7), (8, .int (-1 : Int32)), (9, .int q17.2)]) C 84 165 rfl (by decide) [1, 2, 3, 4, 0, 5] rfl ?_
            obtain ⟨y31, ey31⟩ : ∃ y : Int32, y = q17.2 + (1 : Int32) := ⟨_, rfl⟩
            replace h := h y31 ey31
            refine x_iinc (v := y31) (lv' := [(0, .ref (aS 0)), (5, .int x5), (6, .int x6), (7, .int x7), (8, .int (-1 : Int32)), (9, .int y31)]) C 85 167 rfl 5 rfl (by rw [ey31]; rfl) (by decide) [1, 2, 3, 4, 5, 0] rfl ?_
            refine x_goto C 86 170 90 rfl rfl ?_
            exact x_sub [0, 1, 2, 3, 4, 5] rfl (hR90 ((-1 : Int32), y31) h)
set_option maxHeartbeats 4000000 in
set_option maxRecDepth 100000 in
theorem wj_X10_longest_173 {x : CT} {aS : Nat → Nat} {sS : St} {sL : Int64} {x5 : Int32} {x6 : Int32} {x7 : Int32} {x8 : Int32} {K : Int32 → St → Prop} {R57 : Int32 × Int32 × St → Prop} (C : Cx x cX10_longest tb_X10_longest 10 RX10 (Cond.code yX10_longest cX10_longest 10 (some .int) :: wsL_law) ({ frames := 3, cells := 0, slots := 0, locals := 72 } : Room)) (rt : RetI x 0 0 (fun (u : St) => fl [wdS (xk x) aS u sL]) (fun (r : Int32) (u : St) => K r u)) (hR57 : ∀ q : Int32 × Int32 × St, R57 q → Wx x 10 0 0 (fl [wdS (xk x) aS q.2.2 sL]) [(0, .ref (aS 0)), (5, .int x5), (6, .int q.1), (7, .int q.2.1)] 57 []) (h : J_X10_longest_173 sS x6 x7 x8 R57) : Wx x 10 0 0 (fl [wdS (xk x) aS sS sL]) [(0, .ref (aS 0)), (5, .int x5), (6, .int x6), (7, .int x7), (8, .int x8)] 173 [] := by
  unfold J_X10_longest_173 at h
  refine x_aload_n C 87 173 rfl 0 rfl rfl ?_
  refine x_get (v := .ref (aS 21)) C 88 174 rfl fi_X10 0 rfl rfl 33 (by decide) (mc wq_6_2) rfl ?_
  refine x_iload C 89 177 rfl 3 rfl ?_
  refine x_iload C 90 179 rfl 4 rfl ?_
  obtain ⟨hi, h⟩ := h
  obtain ⟨z33, ez33⟩ : ∃ z : St, z = ua sS 33 x7 x8 := ⟨_, rfl⟩
  replace h := h z33 ez33
  refine x_iast (f := sS 33) (ws' := fl [wdS (xk x) aS z33 sL]) C 91 181 rfl 21 rfl hi (by rw [ez33]; rfl) ?_
  refine x_iload C 92 182 rfl 2 rfl ?_
  refine x_if_ne C 93 184 192 rfl rfl (fun c34 => ?_) (fun c34 => ?_)
  · replace h := h.2 c34
    refine x_iconst (v := (1 : Int32)) C 96 192 rfl (by decide) ?_
    refine x_goto C 97 193 197 rfl rfl ?_
    refine x_istore (lv' := [(0, .ref (aS 0)), (5, .int x5), (6, .int (1 : Int32)), (7, .int x7)]) C 99 197 rfl (by decide) [1, 2, 0, 3] rfl ?_
    obtain ⟨y35, ey35⟩ : ∃ y : Int32, y = x7 + (1 : Int32) := ⟨_, rfl⟩
    replace h := h y35 ey35
    refine x_iinc (v := y35) (lv' := [(0, .ref (aS 0)), (5, .int x5), (6, .int (1 : Int32)), (7, .int y35)]) C 100 199 rfl 3 rfl (by rw [ey35]; rfl) (by decide) [1, 2, 3, 0] rfl ?_
    refine x_goto C 101 202 57 rfl rfl ?_
    exact x_sub [0, 1, 2, 3] rfl (hR57 ((1 : Int32), y35, z33) h)
  · replace h := h.1 c34
    refine x_iload C 94 187 rfl 4 rfl ?_
    refine x_if_lt C 95 189 196 rfl rfl (fun c36 => ?_) (fun c36 => ?_)
    · replace h := h.1 c36
      refine x_iconst (v := (0 : Int32)) C 98 196 rfl (by decide) ?_
      refine x_istore (lv' := [(0, .ref (aS 0)), (5, .int x5), (6, .int (0 : Int32)), (7, .int x7)]) C 99 197 rfl (by decide) [1, 2, 0, 3] rfl ?_
      obtain ⟨y37, ey37⟩ : ∃ y : Int32, y = x7 + (1 : Int32) := ⟨_, rfl⟩
      replace h := h y37 ey37
      refine x_iinc (v := y37) (lv' := [(0, .ref (aS 0)), (5, .int x5), (6, .int (0 : Int32)), (7, .int y37)]) C 100 199 rfl 3 rfl (by rw [ey37]; rfl) (by decide) [1, 2, 3, 0] rfl ?_
      refine x_goto C 101 202 57 rfl rfl ?_
      exact x_sub [0, 1, 2, 3] rfl (hR57 ((0 : Int32), y37, z33) h)
    · replace h := h.2 c36
      refine x_iconst (v := (1 : Int32)) C 96 192 rfl (by decide) ?_
      refine x_goto C 97 193 197 rfl rfl ?_
      refine x_istore (lv' := [(0, .ref (aS 0)), (5, .int x5), (6, .int (1 : Int32)), (7, .int x7)]) C 99 197 rfl (by decide) [1, 2, 0, 3] rfl ?_
      obtain ⟨y38, ey38⟩ : ∃ y : Int32, y = x7 + (1 : Int32) := ⟨_, rfl⟩
      replace h := h y38 ey38
      refine x_iinc (v := y38) (lv' := [(0, .ref (aS 0)), (5, .int x5), (6, .int (1 : Int32)), (7, .int y38)]) C 100 199 rfl 3 rfl (by rw [ey38]; rfl) (by decide) [1, 2, 3, 0] rfl ?_
      refine x_goto C 101 202 57 rfl rfl ?_
      exact x_sub [0, 1, 2, 3] rfl (hR57 ((1 : Int32), y38, z33) h)
set_option maxHeartbeats 4000000 in
set_option maxRecDepth 100000 in
theorem w_X10_longest_57 {x : CT} {aS : Nat → Nat} {sL : Int64} {x5 : Int32} {K : Int32 → St → Prop} {R46 : Int32 × St → Prop} (C : Cx x cX10_longest tb_X10_longest 10 RX10 (Cond.code yX10_longest cX10_longest 10 (some .int) :: wsL_law) ({ frames := 3, cells := 0, slots := 0, locals := 72 } : Room)) (rt : RetI x 0 0 (fun (u : St) => fl [wdS (xk x) aS u sL]) (fun (r : Int32) (u : St) => K r u)) (hR46 : ∀ q : Int32 × St, R46 q → Wx x 10 0 0 (fl [wdS (xk x) aS q.2 sL]) [(0, .ref (aS 0)), (5, .int x5), (6, .int q.1)] 46 []) {q10 : Int32 × Int32 × St} (h : Lp (F_X10_longest_57 sL R46) q10) : Wx x 10 0 0 (fl [wdS (xk x) aS q10.2.2 sL]) [(0, .ref (aS 0)), (5, .int x5), (6, .int q10.1), (7, .int q10.2.1)] 57 [] := by
  refine lp_walk (P := fun q10 => Wx x 10 0 0 (fl [wdS (xk x) aS q10.2.2 sL]) [(0, .ref (aS 0)), (5, .int x5), (6, .int q10.1), (7, .int q10.2.1)] 57 []) (fun q10 R57 hR57 h => ?_) h
  refine x_iload C 31 57 rfl 3 rfl ?_
  refine x_sipush (v := (256 : Int32)) C 32 59 rfl (by decide) ?_
  refine x_icmp_ge C 33 62 205 rfl rfl (fun c11 => ?_) (fun c11 => ?_)
  · replace h := h.1 c11
    refine x_goto C 102 205 46 rfl rfl ?_
    exact x_sub [0, 1, 2] rfl (hR46 (q10.1, q10.2.2) h)
  · replace h := h.2 c11
    refine x_aload_n C 34 65 rfl 0 rfl rfl ?_
    refine x_get (v := .ref (aS 21)) C 35 66 rfl fi_X10 0 rfl rfl 33 (by decide) (mc wq_6_2) rfl ?_
    refine x_iload C 36 69 rfl 3 rfl ?_
    obtain ⟨hi, h⟩ := h
    refine x_iald (f := q10.2.2 33) C 37 71 rfl 21 rfl hi ?_
    refine x_if_ge C 38 72 199 rfl rfl (fun c12 => ?_) (fun c12 => ?_)
    · replace h := h.1 c12
      obtain ⟨y13, ey13⟩ : ∃ y : Int32, y = q10.2.1 + (1 : Int32) := ⟨_, rfl⟩
      replace h := h y13 ey13
      refine x_iinc (v := y13) (lv' := [(0, .ref (aS 0)), (5, .int x5), (6, .int q10.1), (7, .int y13)]) C 100 199 rfl 3 rfl (by rw [ey13]; rfl) (by decide) [1, 2, 3, 0] rfl ?_
      refine x_goto C 101 202 57 rfl rfl ?_
      exact x_sub [0, 1, 2, 3] rfl (hR57 (q10.1, y13, q10.2.2) h)
    · replace h := h.2 c12
      refine x_aload_n C 39 75 rfl 0 rfl rfl ?_
      refine x_iload C 40 76 rfl 3 rfl ?_
      refine x_callWVZ (ci := 8) (q0 := 0) (q := (RX10, TX10, 34)) C 41 78 (c_X10_isState (xl x) (xD x) (xk x) (xg x) aS q10.2.2 sL q10.2.1 _ h) rfl wwGood (mem4 wq_36_16 wq_36_17 wq_36_18 wq_1_5) wq_36_19 1 ok_X10_isState rfl ⟨by decide, by decide⟩ (Nat.le_of_ble_eq_true rfl) ⟨Nat.le_refl _, Nat.le_refl _⟩ ⟨rfl, rfl⟩ rfl rfl rfl (fun r14 _ h => ?_)
      refine x_if_eq C 42 81 199 rfl rfl (fun c15 => ?_) (fun c15 => ?_)
      · replace h := h.1 c15
        obtain ⟨y16, ey16⟩ : ∃ y : Int32, y = q10.2.1 + (1 : Int32) := ⟨_, rfl⟩
        replace h := h y16 ey16
        refine x_iinc (v := y16) (lv' := [(0, .ref (aS 0)), (5, .int x5), (6, .int q10.1), (7, .int y16)]) C 100 199 rfl 3 rfl (by rw [ey16]; rfl) (by decide) [1, 2, 3, 0] rfl ?_
        refine x_goto C 101 202 57 rfl rfl ?_
        exact x_sub [0, 1, 2, 3] rfl (hR57 (q10.1, y16, q10.2.2) h)
      · replace h := h.2 c15
        refine x_iconst (v := (0 : Int32)) C 43 84 rfl (by decide) ?_
        refine x_istore (lv' := [(0, .ref (aS 0)), (5, .int x5), (6, .int q10.1), (7, .int q10.2.1), (8, .int (0 : Int32))]) C 44 85 rfl (by decide) [1, 2, 3, 4, 0] rfl ?_
        refine x_iconst (v := (0 : Int32)) C 45 87 rfl (by decide) ?_
        refine x_istore (lv' := [(0, .ref (aS 0)), (5, .int x5), (6, .int q10.1), (7, .int q10.2.1), (8, .int (0 : Int32)), (9, .int (0 : Int32))]) C 46 88 rfl (by decide) [1, 2, 3, 4, 5, 0] rfl ?_
        refine x_sub (lv' := [(0, .ref (aS 0)), (5, .int x5), (6, .int q10.1), (7, .int q10.2.1), (8, .int (0 : Int32)), (9, .int (0 : Int32))]) [0, 1, 2, 3, 4, 5] rfl (w_X10_longest_90 C rt (fun q32 h => ?_) h)
        · exact x_sub (lv' := [(0, .ref (aS 0)), (5, .int x5), (6, .int q10.1), (7, .int q10.2.1), (8, .int q32)]) [0, 1, 2, 3, 4] rfl (wj_X10_longest_173 C rt hR57 h)
set_option maxHeartbeats 4000000 in
set_option maxRecDepth 100000 in
theorem w_X10_longest_46 {x : CT} {aS : Nat → Nat} {sL : Int64} {x5 : Int32} {K : Int32 → St → Prop} {E208 : St → Prop} (C : Cx x cX10_longest tb_X10_longest 10 RX10 (Cond.code yX10_longest cX10_longest 10 (some .int) :: wsL_law) ({ frames := 3, cells := 0, slots := 0, locals := 72 } : Room)) (rt : RetI x 0 0 (fun (u : St) => fl [wdS (xk x) aS u sL]) (fun (r : Int32) (u : St) => K r u)) (hE208 : ∀ q : St, E208 q → Wx x 10 0 0 (fl [wdS (xk x) aS q sL]) [(0, .ref (aS 0)), (5, .int x5)] 208 []) {q8 : Int32 × St} (h : Lp (F_X10_longest_46 sL E208) q8) : Wx x 10 0 0 (fl [wdS (xk x) aS q8.2 sL]) [(0, .ref (aS 0)), (5, .int x5), (6, .int q8.1)] 46 [] := by
  refine lp_walk (P := fun q8 => Wx x 10 0 0 (fl [wdS (xk x) aS q8.2 sL]) [(0, .ref (aS 0)), (5, .int x5), (6, .int q8.1)] 46 []) (fun q8 R46 hR46 h => ?_) h
  refine x_iload C 25 46 rfl 2 rfl ?_
  refine x_if_eq C 26 48 208 rfl rfl (fun c9 => ?_) (fun c9 => ?_)
  · replace h := h.1 c9
    exact x_sub [0, 1] rfl (hE208 q8.2 h)
  · replace h := h.2 c9
    refine x_iconst (v := (0 : Int32)) C 27 51 rfl (by decide) ?_
    refine x_istore (lv' := [(0, .ref (aS 0)), (5, .int x5), (6, .int (0 : Int32))]) C 28 52 rfl (by decide) [1, 2, 0] rfl ?_
    refine x_iconst (v := (0 : Int32)) C 29 54 rfl (by decide) ?_
    refine x_istore (lv' := [(0, .ref (aS 0)), (5, .int x5), (6, .int (0 : Int32)), (7, .int (0 : Int32))]) C 30 55 rfl (by decide) [1, 2, 3, 0] rfl ?_
    refine x_sub (lv' := [(0, .ref (aS 0)), (5, .int x5), (6, .int (0 : Int32)), (7, .int (0 : Int32))]) [0, 1, 2, 3] rfl (w_X10_longest_57 C rt hR46 h)
set_option maxHeartbeats 4000000 in
set_option maxRecDepth 100000 in
theorem w_X10_longest {x : CT} {aS : Nat → Nat} {sS : St} {sL : Int64} {p1 : Int32} {p2 : Int32} {p3 : Int32} {p4 : Int32} {K : Int32 → St → Prop} (C : Cx x cX10_longest tb_X10_longest 10 RX10 (Cond.code yX10_longest cX10_longest 10 (some .int) :: wsL_law) ({ frames := 3, cells := 0, slots := 0, locals := 72 } : Room)) (rt : RetI x 0 0 (fun (u : St) => fl [wdS (xk x) aS u sL]) (fun (r : Int32) (u : St) => K r u)) (h : wp_X10_longest sS sL p1 p2 p3 p4 K) : Wx x 10 0 0 (fl [wdS (xk x) aS sS sL]) [(0, .ref (aS 0)), (1, .int p1), (2, .int p2), (3, .int p3), (4, .int p4)] 0 [] := by
  unfold wp_X10_longest at h
  refine x_aload_n C 0 0 rfl 0 rfl rfl ?_
  refine x_iload_n C 1 1 rfl 1 rfl rfl ?_
  refine x_iload_n C 2 2 rfl 2 rfl rfl ?_
  refine x_iload_n C 3 3 rfl 3 rfl rfl ?_
  refine x_iload C 4 4 rfl 4 rfl ?_
  refine x_callWVI (ci := 8) (q0 := 0) (q := (RX10, TX10, 34)) C 5 6 (c_X10_stateOf (xl x) (xD x) (xk x) (xg x) aS sS sL p1 p2 p3 p4 _ h) rfl wwGood (mem4 wq_36_12 wq_36_13 wq_36_14 wq_1_5) wq_36_15 4 ok_X10_stateOf rfl ⟨by decide, by decide⟩ (Nat.le_of_ble_eq_true rfl) ⟨Nat.le_refl _, Nat.le_refl _⟩ ⟨rfl, rfl⟩ rfl rfl rfl (fun r1 _ h => ?_)
  refine x_istore (lv' := [(0, .ref (aS 0)), (5, .int r1)]) C 6 9 rfl (by decide) [1, 0] rfl ?_
  refine x_iload C 7 11 rfl 1 rfl ?_
  refine x_if_ge C 8 13 18 rfl rfl (fun c2 => ?_) (fun c2 => ?_)
  · replace h := h.1 c2
    refine x_iconst (v := (0 : Int32)) C 11 18 rfl (by decide) ?_
    refine x_istore (lv' := [(0, .ref (aS 0)), (5, .int r1), (6, .int (0 : Int32))]) C 12 19 rfl (by decide) [1, 2, 0] rfl ?_
    refine x_sub (lv' := [(0, .ref (aS 0)), (5, .int r1), (6, .int (0 : Int32))]) [0, 1, 2] rfl (w_X10_longest_21 C rt (fun q7 h => ?_) h)
    · refine x_iconst (v := (1 : Int32)) C 23 43 rfl (by decide) ?_
      refine x_istore (lv' := [(0, .ref (aS 0)), (5, .int r1), (6, .int (1 : Int32))]) C 24 44 rfl (by decide) [1, 2, 0] rfl ?_
      refine x_sub (lv' := [(0, .ref (aS 0)), (5, .int r1), (6, .int (1 : Int32))]) [0, 1, 2] rfl (w_X10_longest_46 C rt (fun q39 h => ?_) h)
      · refine x_aload_n C 103 208 rfl 0 rfl rfl ?_
        refine x_get (v := .ref (aS 21)) C 104 209 rfl fi_X10 0 rfl rfl 33 (by decide) (mc wq_6_2) rfl ?_
        refine x_iload C 105 212 rfl 1 rfl ?_
        obtain ⟨hi, h⟩ := h
        refine x_iald (f := q39 33) C 106 214 rfl 21 rfl hi ?_
        refine x_if_ge C 107 215 223 rfl rfl (fun c40 => ?_) (fun c40 => ?_)
        · replace h := h.1 c40
          refine x_aload_n C 110 223 rfl 0 rfl rfl ?_
          refine x_get (v := .ref (aS 21)) C 111 224 rfl fi_X10 0 rfl rfl 33 (by decide) (mc wq_6_2) rfl ?_
          refine x_iload C 112 227 rfl 1 rfl ?_
          obtain ⟨hi, h⟩ := h
          refine x_iald (f := q39 33) C 113 229 rfl 21 rfl hi ?_
          exact x_iret C rt 114 230 rfl q39 rfl h
        · replace h := h.2 c40
          refine x_bipush (v := (-4 : Int32)) C 108 218 rfl (by decide) ?_
          refine x_goto C 109 220 230 rfl rfl ?_
          exact x_iret C rt 114 230 rfl q39 rfl h
  · replace h := h.2 c2
    refine x_iconst (v := (-1 : Int32)) C 9 16 rfl (by decide) ?_
    exact x_iret C rt 10 17 rfl sS rfl h
theorem c_X10_longest (l : Launch) (D : va_G) (k : ClassId × ClassId) (g : Nat → Nat) (aS : Nat → Nat) (sS : St) (sL : Int64) (p1 : Int32) (p2 : Int32) (p3 : Int32) (p4 : Int32) (K : Int32 → St → Prop) (h : wp_X10_longest sS sL p1 p2 p3 p4 K) : ConI l yX10_longest (Cond.code yX10_longest cX10_longest 10 (some .int) :: wsL_law) ({ frames := 3, cells := 0, slots := 0, locals := 72 } : Room) D k g [.ref (aS 0), .int p1, .int p2, .int p3, .int p4] (fl [wdS k aS sS sL]) (fun (u : St) => fl [wdS k aS u sL]) (fun (r : Int32) (u : St) => K r u) := by
  refine ConI.of (tb := tb_X10_longest) (cc := cX10_longest) (nL := 10) (by decide) rfl tbk_X10_longest (Nat.le_of_ble_eq_true rfl) ?_
  intro x hl hD hk hg C rt
  subst hl hD hk hg
  exact w_X10_longest C rt h
set_option maxHeartbeats 4000000 in
set_option maxRecDepth 100000 in
theorem w_X10_next_24 {x : CT} {aS : Nat → Nat} {sS : St} {sL : Int64} {x5 : Int32} {K : Int32 → Prop} (C : Cx x cX10_next tb_X10_next 8 RX10 (Cond.code yX10_next cX10_next 8 (some .int) :: wsL_law) ({ frames := 3, cells := 0, slots := 0, locals := 72 } : Room)) (rt : RetI x 0 0 (fun (u : Unit) => fl [wdS (xk x) aS sS sL]) (fun (r : Int32) (_ : Unit) => K r))  {q3 : Int32 × Int32} (h : Lp (F_X10_next_24 sS sL x5 K) q3) : Wx x 8 0 0 (fl [wdS (xk x) aS sS sL]) [(0, .ref (aS 0)), (5, .int x5), (6, .int q3.1), (7, .int q3.2)] 24 [] := by
  refine lp_walk (P := fun q3 => Wx x 8 0 0 (fl [wdS (xk x) aS sS sL]) [(0, .ref (aS 0)), (5, .int x5), (6, .int q3.1), (7, .int q3.2)] 24 []) (fun q3 R24 hR24 h => ?_) h
  refine x_iload C 15 24 rfl 3 rfl ?_
  refine x_sipush (v := (256 : Int32)) C 16 26 rfl (by decide) ?_
  refine x_icmp_ge C 17 29 68 rfl rfl (fun c4 => ?_) (fun c4 => ?_)
  · replace h := h.1 c4
    refine x_iload C 35 68 rfl 2 rfl ?_
    exact x_iret C rt 36 70 rfl () rfl h
  · replace h := h.2 c4
    refine x_iload C 18 32 rfl 2 rfl ?_
    refine x_aload_n C 19 34 rfl 0 rfl rfl ?_
    refine x_iload C 20 35 rfl 3 rfl ?_
    refine x_callWVZ (ci := 8) (q0 := 0) (q := (RX10, TX10, 34)) C 21 37 (c_X10_isState (xl x) (xD x) (xk x) (xg x) aS sS sL q3.2 _ h) rfl wwGood (mem4 wq_36_16 wq_36_17 wq_36_18 wq_1_5) wq_36_19 1 ok_X10_isState rfl ⟨by decide, by decide⟩ (Nat.le_of_ble_eq_true rfl) ⟨Nat.le_refl _, Nat.le_refl _⟩ ⟨rfl, rfl⟩ rfl rfl rfl (fun r5 _ h => ?_)
    refine x_if_eq C 22 40 58 rfl rfl (fun c6 => ?_) (fun c6 => ?_)
    · replace h := h.1 c6
      refine x_iconst (v := (0 : Int32)) C 30 58 rfl (by decide) ?_
      refine x_iadd C 31 59 rfl ?_
      refine x_topi (fun y7 ey7 => ?_)
      replace h := h y7 ey7
      refine x_istore (lv' := [(0, .ref (aS 0)), (5, .int x5), (6, .int y7), (7, .int q3.2)]) C 32 60 rfl (by decide) [1, 2, 0, 3] rfl ?_
      obtain ⟨y8, ey8⟩ : ∃ y : Int32, y = q3.2 + (1 : Int32) := ⟨_, rfl⟩
      replace h := h y8 ey8
      refine x_iinc (v := y8) (lv' := [(0, .ref (aS 0)), (5, .int x5), (6, .int y7), (7, .int y8)]) C 33 62 rfl 3 rfl (by rw [ey8]; rfl) (by decide) [1, 2, 3, 0] rfl ?_
      refine x_goto C 34 65 24 rfl rfl ?_
      exact x_sub [0, 1, 2, 3] rfl (hR24 (y7, y8) h)
    · replace h := h.2 c6
      refine x_aload_n C 23 43 rfl 0 rfl rfl ?_
      refine x_iload C 24 44 rfl 1 rfl ?_
      refine x_iload C 25 46 rfl 3 rfl ?_
      refine x_callWVZ (ci := 8) (q0 := 0) (q := (RX10, TX10, 34)) C 26 48 (c_X10_goesTo (xl x) (xD x) (xk x) (xg x) aS sS sL x5 q3.2 _ h) rfl wwGood (mem4 wq_36_23 wq_37_0 wq_37_1 wq_1_5) wq_37_2 2 ok_X10_goesTo rfl ⟨by decide, by decide⟩ (Nat.le_of_ble_eq_true rfl) ⟨Nat.le_refl _, Nat.le_refl _⟩ ⟨rfl, rfl⟩ rfl rfl rfl (fun r9 _ h => ?_)
      refine x_if_eq C 27 51 58 rfl rfl (fun c10 => ?_) (fun c10 => ?_)
      · replace h := h.1 c10
        refine x_iconst (v := (0 : Int32)) C 30 58 rfl (by decide) ?_
        refine x_iadd C 31 59 rfl ?_
        refine x_topi (fun y11 ey11 => ?_)
        replace h := h y11 ey11
        refine x_istore (lv' := [(0, .ref (aS 0)), (5, .int x5), (6, .int y11), (7, .int q3.2)]) C 32 60 rfl (by decide) [1, 2, 0, 3] rfl ?_
        obtain ⟨y12, ey12⟩ : ∃ y : Int32, y = q3.2 + (1 : Int32) := ⟨_, rfl⟩
        replace h := h y12 ey12
        refine x_iinc (v := y12) (lv' := [(0, .ref (aS 0)), (5, .int x5), (6, .int y11), (7, .int y12)]) C 33 62 rfl 3 rfl (by rw [ey12]; rfl) (by decide) [1, 2, 3, 0] rfl ?_
        refine x_goto C 34 65 24 rfl rfl ?_
        exact x_sub [0, 1, 2, 3] rfl (hR24 (y11, y12) h)
      · replace h := h.2 c10
        refine x_iconst (v := (1 : Int32)) C 28 54 rfl (by decide) ?_
        refine x_goto C 29 55 59 rfl rfl ?_
        refine x_iadd C 31 59 rfl ?_
        refine x_topi (fun y13 ey13 => ?_)
        replace h := h y13 ey13
        refine x_istore (lv' := [(0, .ref (aS 0)), (5, .int x5), (6, .int y13), (7, .int q3.2)]) C 32 60 rfl (by decide) [1, 2, 0, 3] rfl ?_
        obtain ⟨y14, ey14⟩ : ∃ y : Int32, y = q3.2 + (1 : Int32) := ⟨_, rfl⟩
        replace h := h y14 ey14
        refine x_iinc (v := y14) (lv' := [(0, .ref (aS 0)), (5, .int x5), (6, .int y13), (7, .int y14)]) C 33 62 rfl 3 rfl (by rw [ey14]; rfl) (by decide) [1, 2, 3, 0] rfl ?_
        refine x_goto C 34 65 24 rfl rfl ?_
        exact x_sub [0, 1, 2, 3] rfl (hR24 (y13, y14) h)
set_option maxHeartbeats 4000000 in
set_option maxRecDepth 100000 in
theorem w_X10_next {x : CT} {aS : Nat → Nat} {sS : St} {sL : Int64} {p1 : Int32} {p2 : Int32} {p3 : Int32} {p4 : Int32} {K : Int32 → Prop} (C : Cx x cX10_next tb_X10_next 8 RX10 (Cond.code yX10_next cX10_next 8 (some .int) :: wsL_law) ({ frames := 3, cells := 0, slots := 0, locals := 72 } : Room)) (rt : RetI x 0 0 (fun (u : Unit) => fl [wdS (xk x) aS sS sL]) (fun (r : Int32) (_ : Unit) => K r)) (h : wp_X10_next sS sL p1 p2 p3 p4 K) : Wx x 8 0 0 (fl [wdS (xk x) aS sS sL]) [(0, .ref (aS 0)), (1, .int p1), (2, .int p2), (3, .int p3), (4, .int p4)] 0 [] := by
  unfold wp_X10_next at h
  refine x_aload_n C 0 0 rfl 0 rfl rfl ?_
  refine x_iload_n C 1 1 rfl 1 rfl rfl ?_
  refine x_iload_n C 2 2 rfl 2 rfl rfl ?_
  refine x_iload_n C 3 3 rfl 3 rfl rfl ?_
  refine x_iload C 4 4 rfl 4 rfl ?_
  refine x_callWVI (ci := 8) (q0 := 0) (q := (RX10, TX10, 34)) C 5 6 (c_X10_stateOf (xl x) (xD x) (xk x) (xg x) aS sS sL p1 p2 p3 p4 _ h) rfl wwGood (mem4 wq_36_12 wq_36_13 wq_36_14 wq_1_5) wq_36_15 4 ok_X10_stateOf rfl ⟨by decide, by decide⟩ (Nat.le_of_ble_eq_true rfl) ⟨Nat.le_refl _, Nat.le_refl _⟩ ⟨rfl, rfl⟩ rfl rfl rfl (fun r1 _ h => ?_)
  refine x_istore (lv' := [(0, .ref (aS 0)), (5, .int r1)]) C 6 9 rfl (by decide) [1, 0] rfl ?_
  refine x_iload C 7 11 rfl 1 rfl ?_
  refine x_if_ge C 8 13 18 rfl rfl (fun c2 => ?_) (fun c2 => ?_)
  · replace h := h.1 c2
    refine x_iconst (v := (0 : Int32)) C 11 18 rfl (by decide) ?_
    refine x_istore (lv' := [(0, .ref (aS 0)), (5, .int r1), (6, .int (0 : Int32))]) C 12 19 rfl (by decide) [1, 2, 0] rfl ?_
    refine x_iconst (v := (0 : Int32)) C 13 21 rfl (by decide) ?_
    refine x_istore (lv' := [(0, .ref (aS 0)), (5, .int r1), (6, .int (0 : Int32)), (7, .int (0 : Int32))]) C 14 22 rfl (by decide) [1, 2, 3, 0] rfl ?_
    refine x_sub (lv' := [(0, .ref (aS 0)), (5, .int r1), (6, .int (0 : Int32)), (7, .int (0 : Int32))]) [0, 1, 2, 3] rfl (w_X10_next_24 C rt h)
  · replace h := h.2 c2
    refine x_iconst (v := (-1 : Int32)) C 9 16 rfl (by decide) ?_
    exact x_iret C rt 10 17 rfl () rfl h
theorem c_X10_next (l : Launch) (D : va_G) (k : ClassId × ClassId) (g : Nat → Nat) (aS : Nat → Nat) (sS : St) (sL : Int64) (p1 : Int32) (p2 : Int32) (p3 : Int32) (p4 : Int32) (K : Int32 → Prop) (h : wp_X10_next sS sL p1 p2 p3 p4 K) : ConI l yX10_next (Cond.code yX10_next cX10_next 8 (some .int) :: wsL_law) ({ frames := 3, cells := 0, slots := 0, locals := 72 } : Room) D k g [.ref (aS 0), .int p1, .int p2, .int p3, .int p4] (fl [wdS k aS sS sL]) (fun (u : Unit) => fl [wdS k aS sS sL]) (fun (r : Int32) (_ : Unit) => K r) := by
  refine ConI.of (tb := tb_X10_next) (cc := cX10_next) (nL := 8) (by decide) rfl tbk_X10_next (Nat.le_of_ble_eq_true rfl) ?_
  intro x hl hD hk hg C rt
  subst hl hD hk hg
  exact w_X10_next C rt h
set_option maxHeartbeats 4000000 in
set_option maxRecDepth 100000 in
theorem w_X10_arcsOf_5 {x : CT} {aS : Nat → Nat} {sS : St} {sL : Int64} {x1 : Int32} {x2 : Int32} {K : Int32 → Prop} (C : Cx x cX10_arcsOf tb_X10_arcsOf 5 RX10 (Cond.code yX10_arcsOf cX10_arcsOf 5 (some .int) :: wsL_law) ({ frames := 0, cells := 0, slots := 0, locals := 0 } : Room)) (rt : RetI x 0 0 (fun (u : Unit) => fl [wdS (xk x) aS sS sL]) (fun (r : Int32) (_ : Unit) => K r))  {q1 : Int32 × Int32} (h : Lp (F_X10_arcsOf_5 sS x1 x2 K) q1) : Wx x 5 0 0 (fl [wdS (xk x) aS sS sL]) [(0, .ref (aS 0)), (1, .int x1), (2, .int x2), (3, .int q1.1), (4, .int q1.2)] 5 [] := by
  refine lp_walk (P := fun q1 => Wx x 5 0 0 (fl [wdS (xk x) aS sS sL]) [(0, .ref (aS 0)), (1, .int x1), (2, .int x2), (3, .int q1.1), (4, .int q1.2)] 5 []) (fun q1 R5 hR5 h => ?_) h
  refine x_iload C 4 5 rfl 4 rfl ?_
  refine x_bipush (v := (9 : Int32)) C 5 7 rfl (by decide) ?_
  refine x_icmp_ge C 6 9 42 rfl rfl (fun c2 => ?_) (fun c2 => ?_)
  · replace h := h.1 c2
    refine x_iload_n C 25 42 rfl 3 rfl rfl ?_
    exact x_iret C rt 26 43 rfl () rfl h
  · replace h := h.2 c2
    refine x_iload_n C 7 12 rfl 3 rfl rfl ?_
    refine x_aload_n C 8 13 rfl 0 rfl rfl ?_
    refine x_get (v := .ref (aS 5)) C 9 14 rfl fi_X10 0 rfl rfl 6 (by decide) (mc wq_5_7) rfl ?_
    refine x_bipush (v := (9 : Int32)) C 10 17 rfl (by decide) ?_
    refine x_iload_n C 11 19 rfl 1 rfl rfl ?_
    refine x_imul C 12 20 rfl ?_
    refine x_iload C 13 21 rfl 4 rfl ?_
    refine x_iadd C 14 23 rfl ?_
    obtain ⟨hi, h⟩ := h
    refine x_iald (f := sS 6) C 15 24 rfl 5 rfl hi ?_
    refine x_iload_n C 16 25 rfl 2 rfl rfl ?_
    refine x_icmp_lt C 17 26 33 rfl rfl (fun c3 => ?_) (fun c3 => ?_)
    · replace h := h.1 c3
      refine x_iconst (v := (0 : Int32)) C 20 33 rfl (by decide) ?_
      refine x_iadd C 21 34 rfl ?_
      refine x_topi (fun y4 ey4 => ?_)
      replace h := h y4 ey4
      refine x_istore_n (lv' := [(0, .ref (aS 0)), (1, .int x1), (2, .int x2), (3, .int y4), (4, .int q1.2)]) C 22 35 rfl rfl (by decide) [1, 2, 3, 0, 4] rfl ?_
      obtain ⟨y5, ey5⟩ : ∃ y : Int32, y = q1.2 + (1 : Int32) := ⟨_, rfl⟩
      replace h := h y5 ey5
      refine x_iinc (v := y5) (lv' := [(0, .ref (aS 0)), (1, .int x1), (2, .int x2), (3, .int y4), (4, .int y5)]) C 23 36 rfl 4 rfl (by rw [ey5]; rfl) (by decide) [1, 2, 3, 4, 0] rfl ?_
      refine x_goto C 24 39 5 rfl rfl ?_
      exact x_sub [0, 1, 2, 3, 4] rfl (hR5 (y4, y5) h)
    · replace h := h.2 c3
      refine x_iconst (v := (1 : Int32)) C 18 29 rfl (by decide) ?_
      refine x_goto C 19 30 34 rfl rfl ?_
      refine x_iadd C 21 34 rfl ?_
      refine x_topi (fun y6 ey6 => ?_)
      replace h := h y6 ey6
      refine x_istore_n (lv' := [(0, .ref (aS 0)), (1, .int x1), (2, .int x2), (3, .int y6), (4, .int q1.2)]) C 22 35 rfl rfl (by decide) [1, 2, 3, 0, 4] rfl ?_
      obtain ⟨y7, ey7⟩ : ∃ y : Int32, y = q1.2 + (1 : Int32) := ⟨_, rfl⟩
      replace h := h y7 ey7
      refine x_iinc (v := y7) (lv' := [(0, .ref (aS 0)), (1, .int x1), (2, .int x2), (3, .int y6), (4, .int y7)]) C 23 36 rfl 4 rfl (by rw [ey7]; rfl) (by decide) [1, 2, 3, 4, 0] rfl ?_
      refine x_goto C 24 39 5 rfl rfl ?_
      exact x_sub [0, 1, 2, 3, 4] rfl (hR5 (y6, y7) h)
set_option maxHeartbeats 4000000 in
set_option maxRecDepth 100000 in
theorem w_X10_arcsOf {x : CT} {aS : Nat → Nat} {sS : St} {sL : Int64} {p1 : Int32} {p2 : Int32} {K : Int32 → Prop} (C : Cx x cX10_arcsOf tb_X10_arcsOf 5 RX10 (Cond.code yX10_arcsOf cX10_arcsOf 5 (some .int) :: wsL_law) ({ frames := 0, cells := 0, slots := 0, locals := 0 } : Room)) (rt : RetI x 0 0 (fun (u : Unit) => fl [wdS (xk x) aS sS sL]) (fun (r : Int32) (_ : Unit) => K r)) (h : wp_X10_arcsOf sS sL p1 p2 K) : Wx x 5 0 0 (fl [wdS (xk x) aS sS sL]) [(0, .ref (aS 0)), (1, .int p1), (2, .int p2)] 0 [] := by
  unfold wp_X10_arcsOf at h
  refine x_iconst (v := (0 : Int32)) C 0 0 rfl (by decide) ?_
  refine x_istore_n (lv' := [(0, .ref (aS 0)), (1, .int p1), (2, .int p2), (3, .int (0 : Int32))]) C 1 1 rfl rfl (by decide) [1, 2, 3, 0] rfl ?_
  refine x_iconst (v := (0 : Int32)) C 2 2 rfl (by decide) ?_
  refine x_istore (lv' := [(0, .ref (aS 0)), (1, .int p1), (2, .int p2), (3, .int (0 : Int32)), (4, .int (0 : Int32))]) C 3 3 rfl (by decide) [1, 2, 3, 4, 0] rfl ?_
  refine x_sub (lv' := [(0, .ref (aS 0)), (1, .int p1), (2, .int p2), (3, .int (0 : Int32)), (4, .int (0 : Int32))]) [0, 1, 2, 3, 4] rfl (w_X10_arcsOf_5 C rt h)
theorem c_X10_arcsOf (l : Launch) (D : va_G) (k : ClassId × ClassId) (g : Nat → Nat) (aS : Nat → Nat) (sS : St) (sL : Int64) (p1 : Int32) (p2 : Int32) (K : Int32 → Prop) (h : wp_X10_arcsOf sS sL p1 p2 K) : ConI l yX10_arcsOf (Cond.code yX10_arcsOf cX10_arcsOf 5 (some .int) :: wsL_law) ({ frames := 0, cells := 0, slots := 0, locals := 0 } : Room) D k g [.ref (aS 0), .int p1, .int p2] (fl [wdS k aS sS sL]) (fun (u : Unit) => fl [wdS k aS sS sL]) (fun (r : Int32) (_ : Unit) => K r) := by
  refine ConI.of (tb := tb_X10_arcsOf) (cc := cX10_arcsOf) (nL := 5) (by decide) rfl tbk_X10_arcsOf (Nat.le_of_ble_eq_true rfl) ?_
  intro x hl hD hk hg C rt
  subst hl hD hk hg
  exact w_X10_arcsOf C rt h
set_option maxHeartbeats 4000000 in
set_option maxRecDepth 100000 in
theorem w_X10_plainWeight {x : CT} {aS : Nat → Nat} {sS : St} {sL : Int64} {p1 : Int32} {K : Int32 → Int64 → Prop} (C : Cx x cX10_plainWeight tb_X10_plainWeight 2 RX10 (Cond.code yX10_plainWeight cX10_plainWeight 2 (some .int) :: wsL_law) ({ frames := 1, cells := 0, slots := 0, locals := 24 } : Room)) (rt : RetI x 0 0 (fun (u : Int64) => fl [wdS (xk x) aS sS u]) (fun (r : Int32) (u : Int64) => K r u)) (h : wp_X10_plainWeight sS sL p1 K) : Wx x 2 0 0 (fl [wdS (xk x) aS sS sL]) [(0, .ref (aS 0)), (1, .int p1)] 0 [] := by
  unfold wp_X10_plainWeight at h
  refine x_aload_n C 0 0 rfl 0 rfl rfl ?_
  refine x_dup C 1 1 rfl rfl ?_
  refine x_get (v := .long sL) C 2 2 rfl fi_X10 0 rfl rfl 10 (by decide) (mc wq_40_0) rfl ?_
  refine x_lconst (v := (1 : Int64)) C 3 5 rfl (by decide) ?_
  refine x_ladd C 4 6 rfl ?_
  refine x_put (ws' := fl [wdS (xk x) aS sS (sL + (1 : Int64))]) C 5 7 rfl fi_X10 tyX10 tyX10_ok nmX10 0 rfl rfl 10 (by decide) (mc wq_40_0) rfl rfl rfl (Nat.le_of_ble_eq_true rfl) rfl ?_
  refine x_aload_n C 6 10 rfl 0 rfl rfl ?_
  refine x_iload_n C 7 11 rfl 1 rfl rfl ?_
  refine x_iconst (v := (1 : Int32)) C 8 12 rfl (by decide) ?_
  refine x_callWVI (ci := 8) (q0 := 0) (q := (RX10, TX10, 34)) C 9 13 (c_X10_arcsOf (xl x) (xD x) (xk x) (xg x) aS sS (sL + (1 : Int64)) p1 (1 : Int32) _ h) rfl wwGood (mem4 wq_40_7 wq_40_8 wq_40_9 wq_1_5) wq_40_10 2 ok_X10_arcsOf rfl ⟨by decide, by decide⟩ (Nat.le_of_ble_eq_true rfl) ⟨Nat.le_refl _, Nat.le_refl _⟩ ⟨rfl, rfl⟩ rfl rfl rfl (fun r1 _ h => ?_)
  exact x_iret C rt 10 16 rfl (sL + (1 : Int64)) rfl h
theorem c_X10_plainWeight (l : Launch) (D : va_G) (k : ClassId × ClassId) (g : Nat → Nat) (aS : Nat → Nat) (sS : St) (sL : Int64) (p1 : Int32) (K : Int32 → Int64 → Prop) (h : wp_X10_plainWeight sS sL p1 K) : ConI l yX10_plainWeight (Cond.code yX10_plainWeight cX10_plainWeight 2 (some .int) :: wsL_law) ({ frames := 1, cells := 0, slots := 0, locals := 24 } : Room) D k g [.ref (aS 0), .int p1] (fl [wdS k aS sS sL]) (fun (u : Int64) => fl [wdS k aS sS u]) (fun (r : Int32) (u : Int64) => K r u) := by
  refine ConI.of (tb := tb_X10_plainWeight) (cc := cX10_plainWeight) (nL := 2) (by decide) rfl tbk_X10_plainWeight (Nat.le_of_ble_eq_true rfl) ?_
  intro x hl hD hk hg C rt
  subst hl hD hk hg
  exact w_X10_plainWeight C rt h
set_option maxHeartbeats 4000000 in
set_option maxRecDepth 100000 in
theorem w_X10_selfWeight {x : CT} {aS : Nat → Nat} {sS : St} {sL : Int64} {p1 : Int32} {K : Int32 → Int64 → Prop} (C : Cx x cX10_selfWeight tb_X10_selfWeight 2 RX10 (Cond.code yX10_selfWeight cX10_selfWeight 2 (some .int) :: wsL_law) ({ frames := 2, cells := 0, slots := 0, locals := 45 } : Room)) (rt : RetI x 0 0 (fun (u : Int64) => fl [wdS (xk x) aS sS u]) (fun (r : Int32) (u : Int64) => K r u)) (h : wp_X10_selfWeight sS sL p1 K) : Wx x 2 0 0 (fl [wdS (xk x) aS sS sL]) [(0, .ref (aS 0)), (1, .int p1)] 0 [] := by
  unfold wp_X10_selfWeight at h
  refine x_aload_n C 0 0 rfl 0 rfl rfl ?_
  refine x_dup C 1 1 rfl rfl ?_
  refine x_get (v := .long sL) C 2 2 rfl fi_X10 0 rfl rfl 10 (by decide) (mc wq_40_0) rfl ?_
  refine x_ldc2 (v := (10 : Int64)) C 3 5 rfl (mc wq_40_15) ?_
  refine x_ladd C 4 8 rfl ?_
  refine x_put (ws' := fl [wdS (xk x) aS sS (sL + (10 : Int64))]) C 5 9 rfl fi_X10 tyX10 tyX10_ok nmX10 0 rfl rfl 10 (by decide) (mc wq_40_0) rfl rfl rfl (Nat.le_of_ble_eq_true rfl) rfl ?_
  refine x_aload_n C 6 12 rfl 0 rfl rfl ?_
  refine x_iload_n C 7 13 rfl 1 rfl rfl ?_
  refine x_callWVI (ci := 8) (q0 := 0) (q := (RX10, TX10, 34)) C 8 14 (c_X10_plainWeight (xl x) (xD x) (xk x) (xg x) aS sS (sL + (10 : Int64)) p1 _ h) rfl wwGood (mem4 wq_40_3 wq_40_4 wq_40_5 wq_1_5) wq_40_6 1 ok_X10_plainWeight rfl ⟨by decide, by decide⟩ (Nat.le_of_ble_eq_true rfl) ⟨Nat.le_refl _, Nat.le_refl _⟩ ⟨rfl, rfl⟩ rfl rfl rfl (fun r1 u1 h => ?_)
  refine x_aload_n C 9 17 rfl 0 rfl rfl ?_
  refine x_iload_n C 10 18 rfl 1 rfl rfl ?_
  refine x_iconst (v := (2 : Int32)) C 11 19 rfl (by decide) ?_
  refine x_callWVI (ci := 8) (q0 := 0) (q := (RX10, TX10, 34)) C 12 20 (c_X10_arcsOf (xl x) (xD x) (xk x) (xg x) aS sS u1 p1 (2 : Int32) _ h) rfl wwGood (mem4 wq_40_7 wq_40_8 wq_40_9 wq_1_5) wq_40_10 2 ok_X10_arcsOf rfl ⟨by decide, by decide⟩ (Nat.le_of_ble_eq_true rfl) ⟨Nat.le_refl _, Nat.le_refl _⟩ ⟨rfl, rfl⟩ rfl rfl rfl (fun r2 _ h => ?_)
  refine x_iadd C 13 23 rfl ?_
  exact x_iret C rt 14 24 rfl u1 rfl h
theorem c_X10_selfWeight (l : Launch) (D : va_G) (k : ClassId × ClassId) (g : Nat → Nat) (aS : Nat → Nat) (sS : St) (sL : Int64) (p1 : Int32) (K : Int32 → Int64 → Prop) (h : wp_X10_selfWeight sS sL p1 K) : ConI l yX10_selfWeight (Cond.code yX10_selfWeight cX10_selfWeight 2 (some .int) :: wsL_law) ({ frames := 2, cells := 0, slots := 0, locals := 45 } : Room) D k g [.ref (aS 0), .int p1] (fl [wdS k aS sS sL]) (fun (u : Int64) => fl [wdS k aS sS u]) (fun (r : Int32) (u : Int64) => K r u) := by
  refine ConI.of (tb := tb_X10_selfWeight) (cc := cX10_selfWeight) (nL := 2) (by decide) rfl tbk_X10_selfWeight (Nat.le_of_ble_eq_true rfl) ?_
  intro x hl hD hk hg C rt
  subst hl hD hk hg
  exact w_X10_selfWeight C rt h
set_option maxHeartbeats 4000000 in
set_option maxRecDepth 100000 in
theorem w_X10_otherWeight {x : CT} {aS : Nat → Nat} {sS : St} {sL : Int64} {p1 : Int32} {K : Int32 → Int64 → Prop} (C : Cx x cX10_otherWeight tb_X10_otherWeight 2 RX10 (Cond.code yX10_otherWeight cX10_otherWeight 2 (some .int) :: wsL_law) ({ frames := 2, cells := 0, slots := 0, locals := 45 } : Room)) (rt : RetI x 0 0 (fun (u : Int64) => fl [wdS (xk x) aS sS u]) (fun (r : Int32) (u : Int64) => K r u)) (h : wp_X10_otherWeight sS sL p1 K) : Wx x 2 0 0 (fl [wdS (xk x) aS sS sL]) [(0, .ref (aS 0)), (1, .int p1)] 0 [] := by
  unfold wp_X10_otherWeight at h
  refine x_aload_n C 0 0 rfl 0 rfl rfl ?_
  refine x_dup C 1 1 rfl rfl ?_
  refine x_get (v := .long sL) C 2 2 rfl fi_X10 0 rfl rfl 10 (by decide) (mc wq_40_0) rfl ?_
  refine x_ldc2 (v := (100 : Int64)) C 3 5 rfl (mc wq_40_20) ?_
  refine x_ladd C 4 8 rfl ?_
  refine x_put (ws' := fl [wdS (xk x) aS sS (sL + (100 : Int64))]) C 5 9 rfl fi_X10 tyX10 tyX10_ok nmX10 0 rfl rfl 10 (by decide) (mc wq_40_0) rfl rfl rfl (Nat.le_of_ble_eq_true rfl) rfl ?_
  refine x_iconst (v := (2 : Int32)) C 6 12 rfl (by decide) ?_
  refine x_aload_n C 7 13 rfl 0 rfl rfl ?_
  refine x_iload_n C 8 14 rfl 1 rfl rfl ?_
  refine x_callWVI (ci := 8) (q0 := 0) (q := (RX10, TX10, 34)) C 9 15 (c_X10_plainWeight (xl x) (xD x) (xk x) (xg x) aS sS (sL + (100 : Int64)) p1 _ h) rfl wwGood (mem4 wq_40_3 wq_40_4 wq_40_5 wq_1_5) wq_40_6 1 ok_X10_plainWeight rfl ⟨by decide, by decide⟩ (Nat.le_of_ble_eq_true rfl) ⟨Nat.le_refl _, Nat.le_refl _⟩ ⟨rfl, rfl⟩ rfl rfl rfl (fun r1 u1 h => ?_)
  refine x_imul C 10 18 rfl ?_
  exact x_iret C rt 11 19 rfl u1 rfl h
theorem c_X10_otherWeight (l : Launch) (D : va_G) (k : ClassId × ClassId) (g : Nat → Nat) (aS : Nat → Nat) (sS : St) (sL : Int64) (p1 : Int32) (K : Int32 → Int64 → Prop) (h : wp_X10_otherWeight sS sL p1 K) : ConI l yX10_otherWeight (Cond.code yX10_otherWeight cX10_otherWeight 2 (some .int) :: wsL_law) ({ frames := 2, cells := 0, slots := 0, locals := 45 } : Room) D k g [.ref (aS 0), .int p1] (fl [wdS k aS sS sL]) (fun (u : Int64) => fl [wdS k aS sS u]) (fun (r : Int32) (u : Int64) => K r u) := by
  refine ConI.of (tb := tb_X10_otherWeight) (cc := cX10_otherWeight) (nL := 2) (by decide) rfl tbk_X10_otherWeight (Nat.le_of_ble_eq_true rfl) ?_
  intro x hl hD hk hg C rt
  subst hl hD hk hg
  exact w_X10_otherWeight C rt h
set_option maxHeartbeats 4000000 in
set_option maxRecDepth 100000 in
theorem wj_X10_weight_124 {x : CT} {aS : Nat → Nat} {sS : St} {sL : Int64} {x2 : Int32} {t0 : Int32} {t1 : Int32} {K : Int32 → Int64 → Prop} (C : Cx x cX10_weight tb_X10_weight 3 RX10 (Cond.code yX10_weight cX10_weight 3 (some .int) :: wsL_law) ({ frames := 3, cells := 0, slots := 0, locals := 66 } : Room)) (rt : RetI x 0 0 (fun (u : Int64) => fl [wdS (xk x) aS sS u]) (fun (r : Int32) (u : Int64) => K r u))  (h : J_X10_weight_124 sS sL x2 t0 t1 K) : Wx x 3 0 0 (fl [wdS (xk x) aS sS sL]) [(0, .ref (aS 0)), (2, .int x2)] 124 [.int t1, .int t0] := by
  unfold J_X10_weight_124 at h
  refine x_isub C 58 124 rfl ?_
  refine x_aload_n C 59 125 rfl 0 rfl rfl ?_
  refine x_get (v := .ref (aS 5)) C 60 126 rfl fi_X10 0 rfl rfl 6 (by decide) (mc wq_5_7) rfl ?_
  refine x_bipush (v := (9 : Int32)) C 61 129 rfl (by decide) ?_
  refine x_iload_n C 62 131 rfl 1 rfl rfl ?_
  refine x_imul C 63 132 rfl ?_
  refine x_bipush (v := (8 : Int32)) C 64 133 rfl (by decide) ?_
  refine x_iadd C 65 135 rfl ?_
  obtain ⟨hi, h⟩ := h
  refine x_iald (f := sS 6) C 66 136 rfl 5 rfl hi ?_
  refine x_if_le C 67 137 144 rfl rfl (fun c15 => ?_) (fun c15 => ?_)
  · replace h := h.1 c15
    refine x_iconst (v := (0 : Int32)) C 70 144 rfl (by decide) ?_
    refine x_isub C 71 145 rfl ?_
    exact x_iret C rt 72 146 rfl sL rfl h
  · replace h := h.2 c15
    refine x_iconst (v := (1 : Int32)) C 68 140 rfl (by decide) ?_
    refine x_goto C 69 141 145 rfl rfl ?_
    refine x_isub C 71 145 rfl ?_
    exact x_iret C rt 72 146 rfl sL rfl h
set_option maxHeartbeats 4000000 in
set_option maxRecDepth 100000 in
theorem wj_X10_weight_104 {x : CT} {aS : Nat → Nat} {sS : St} {sL : Int64} {x2 : Int32} {t0 : Int32} {t1 : Int32} {K : Int32 → Int64 → Prop} (C : Cx x cX10_weight tb_X10_weight 3 RX10 (Cond.code yX10_weight cX10_weight 3 (some .int) :: wsL_law) ({ frames := 3, cells := 0, slots := 0, locals := 66 } : Room)) (rt : RetI x 0 0 (fun (u : Int64) => fl [wdS (xk x) aS sS u]) (fun (r : Int32) (u : Int64) => K r u))  (h : J_X10_weight_104 sS sL x2 t0 t1 K) : Wx x 3 0 0 (fl [wdS (xk x) aS sS sL]) [(0, .ref (aS 0)), (2, .int x2)] 104 [.int t1, .int t0] := by
  unfold J_X10_weight_104 at h
  refine x_isub C 45 104 rfl ?_
  refine x_aload_n C 46 105 rfl 0 rfl rfl ?_
  refine x_get (v := .ref (aS 5)) C 47 106 rfl fi_X10 0 rfl rfl 6 (by decide) (mc wq_5_7) rfl ?_
  refine x_bipush (v := (9 : Int32)) C 48 109 rfl (by decide) ?_
  refine x_iload_n C 49 111 rfl 1 rfl rfl ?_
  refine x_imul C 50 112 rfl ?_
  refine x_iconst (v := (4 : Int32)) C 51 113 rfl (by decide) ?_
  refine x_iadd C 52 114 rfl ?_
  obtain ⟨hi, h⟩ := h
  refine x_iald (f := sS 6) C 53 115 rfl 5 rfl hi ?_
  refine x_if_le C 54 116 123 rfl rfl (fun c14 => ?_) (fun c14 => ?_)
  · replace h := h.1 c14
    refine x_iconst (v := (0 : Int32)) C 57 123 rfl (by decide) ?_
    exact x_sub (lv' := [(0, .ref (aS 0)), (2, .int x2)]) [0, 1] rfl (wj_X10_weight_124 C rt h)
  · replace h := h.2 c14
    refine x_iconst (v := (1 : Int32)) C 55 119 rfl (by decide) ?_
    refine x_goto C 56 120 124 rfl rfl ?_
    exact x_sub (lv' := [(0, .ref (aS 0)), (2, .int x2)]) [0, 1] rfl (wj_X10_weight_124 C rt h)
set_option maxHeartbeats 4000000 in
set_option maxRecDepth 100000 in
theorem w_X10_weight {x : CT} {aS : Nat → Nat} {sS : St} {sL : Int64} {p1 : Int32} {p2 : Int32} {K : Int32 → Int64 → Prop} (C : Cx x cX10_weight tb_X10_weight 3 RX10 (Cond.code yX10_weight cX10_weight 3 (some .int) :: wsL_law) ({ frames := 3, cells := 0, slots := 0, locals := 66 } : Room)) (rt : RetI x 0 0 (fun (u : Int64) => fl [wdS (xk x) aS sS u]) (fun (r : Int32) (u : Int64) => K r u)) (h : wp_X10_weight sS sL p1 p2 K) : Wx x 3 0 0 (fl [wdS (xk x) aS sS sL]) [(0, .ref (aS 0)), (1, .int p1), (2, .int p2)] 0 [] := by
  unfold wp_X10_weight at h
  refine x_iload_n C 0 0 rfl 1 rfl rfl ?_
  refine x_i2l C 1 1 rfl ?_
  refine x_lconst (v := (0 : Int64)) C 2 2 rfl (by decide) ?_
  refine x_ldc2 (v := (4 : Int64)) C 3 3 rfl (mc wq_24_12) ?_
  refine x_call0SZ C 4 6 (c_X10_in (xl x) (xD x) (xk x) (xg x) p1.toInt64 (0 : Int64) (4 : Int64) _ h) rfl wwGood (mem3 wq_6_21 wq_6_22 wq_1_5) wq_6_23 3 ok_X10_in rfl ⟨by decide, by decide⟩ (Nat.le_of_ble_eq_true rfl) ⟨Nat.le_refl _, Nat.le_refl _⟩ ⟨rfl, rfl⟩ rfl (fun r1 _ h => ?_)
  refine x_if_eq C 5 9 20 rfl rfl (fun c2 => ?_) (fun c2 => ?_)
  · replace h := h.1 c2
    refine x_iconst (v := (-1 : Int32)) C 10 20 rfl (by decide) ?_
    exact x_iret C rt 11 21 rfl sL rfl h
  · replace h := h.2 c2
    refine x_aload_n C 6 12 rfl 0 rfl rfl ?_
    refine x_iload_n C 7 13 rfl 2 rfl rfl ?_
    refine x_callWVZ (ci := 8) (q0 := 0) (q := (RX10, TX10, 34)) C 8 14 (c_X10_isCall (xl x) (xD x) (xk x) (xg x) aS sS sL p2 _ h) rfl wwGood (mem4 wq_17_11 wq_17_12 wq_17_13 wq_1_5) wq_17_14 1 ok_X10_isCall rfl ⟨by decide, by decide⟩ (Nat.le_of_ble_eq_true rfl) ⟨Nat.le_refl _, Nat.le_refl _⟩ ⟨rfl, rfl⟩ rfl rfl rfl (fun r3 _ h => ?_)
    refine x_if_ne C 9 17 22 rfl rfl (fun c4 => ?_) (fun c4 => ?_)
    · replace h := h.2 c4
      refine x_iload_n C 12 22 rfl 1 rfl rfl ?_
      by_cases c5 : p1 = (0 : Int32)
      · replace h := h.1 c5
        refine x_tabIn C 13 23 52 0 rfl (0 : Int32) c5 (by decide) (by decide) rfl rfl ?_
        refine x_aload_n C 14 52 rfl 0 rfl rfl ?_
        refine x_iload_n C 15 53 rfl 2 rfl rfl ?_
        refine x_callWVI (ci := 8) (q0 := 0) (q := (RX10, TX10, 34)) C 16 54 (c_X10_plainWeight (xl x) (xD x) (xk x) (xg x) aS sS sL p2 _ h) rfl wwGood (mem4 wq_40_3 wq_40_4 wq_40_5 wq_1_5) wq_40_6 1 ok_X10_plainWeight rfl ⟨by decide, by decide⟩ (Nat.le_of_ble_eq_true rfl) ⟨Nat.le_refl _, Nat.le_refl _⟩ ⟨rfl, rfl⟩ rfl rfl rfl (fun r6 u6 h => ?_)
        exact x_iret C rt 17 57 rfl u6 rfl h
      · replace h := h.2 c5
        by_cases c7 : p1 = (1 : Int32)
        · replace h := h.1 c7
          refine x_tabIn C 13 23 58 1 rfl (1 : Int32) c7 (by decide) (by decide) rfl rfl ?_
          refine x_aload_n C 18 58 rfl 0 rfl rfl ?_
          refine x_iload_n C 19 59 rfl 2 rfl rfl ?_
          refine x_callWVI (ci := 8) (q0 := 0) (q := (RX10, TX10, 34)) C 20 60 (c_X10_selfWeight (xl x) (xD x) (xk x) (xg x) aS sS sL p2 _ h) rfl wwGood (mem4 wq_40_11 wq_40_12 wq_40_13 wq_1_5) wq_40_14 1 ok_X10_selfWeight rfl ⟨by decide, by decide⟩ (Nat.le_of_ble_eq_true rfl) ⟨Nat.le_refl _, Nat.le_refl _⟩ ⟨rfl, rfl⟩ rfl rfl rfl (fun r8 u8 h => ?_)
          exact x_iret C rt 21 63 rfl u8 rfl h
        · replace h := h.2 c7
          by_cases c9 : p1 = (2 : Int32)
          · replace h := h.1 c9
            refine x_tabIn C 13 23 64 2 rfl (2 : Int32) c9 (by decide) (by decide) rfl rfl ?_
            refine x_aload_n C 22 64 rfl 0 rfl rfl ?_
            refine x_iload_n C 23 65 rfl 2 rfl rfl ?_
            refine x_callWVI (ci := 8) (q0 := 0) (q := (RX10, TX10, 34)) C 24 66 (c_X10_otherWeight (xl x) (xD x) (xk x) (xg x) aS sS sL p2 _ h) rfl wwGood (mem4 wq_40_16 wq_40_17 wq_40_18 wq_1_5) wq_40_19 1 ok_X10_otherWeight rfl ⟨by decide, by decide⟩ (Nat.le_of_ble_eq_true rfl) ⟨Nat.le_refl _, Nat.le_refl _⟩ ⟨rfl, rfl⟩ rfl rfl rfl (fun r10 u10 h => ?_)
            exact x_iret C rt 25 69 rfl u10 rfl h
          · replace h := h.2 c9
            by_cases c11 : p1 = (3 : Int32)
            · replace h := h.1 c11
              refine x_tabIn C 13 23 70 3 rfl (3 : Int32) c11 (by decide) (by decide) rfl rfl ?_
              refine x_aload_n C 26 70 rfl 0 rfl rfl ?_
              refine x_dup C 27 71 rfl rfl ?_
              refine x_get (v := .long sL) C 28 72 rfl fi_X10 0 rfl rfl 10 (by decide) (mc wq_40_0) rfl ?_
              refine x_ldc2 (v := (1000 : Int64)) C 29 75 rfl (mc wq_40_1) ?_
              refine x_ladd C 30 78 rfl ?_
              refine x_put (ws' := fl [wdS (xk x) aS sS (sL + (1000 : Int64))]) C 31 79 rfl fi_X10 tyX10 tyX10_ok nmX10 0 rfl rfl 10 (by decide) (mc wq_40_0) rfl rfl rfl (Nat.le_of_ble_eq_true rfl) rfl ?_
              refine x_aload_n C 32 82 rfl 0 rfl rfl ?_
              refine x_iload_n C 33 83 rfl 2 rfl rfl ?_
              refine x_callWVI (ci := 8) (q0 := 0) (q := (RX10, TX10, 34)) C 34 84 (c_X10_selfWeight (xl x) (xD x) (xk x) (xg x) aS sS (sL + (1000 : Int64)) p2 _ h) rfl wwGood (mem4 wq_40_11 wq_40_12 wq_40_13 wq_1_5) wq_40_14 1 ok_X10_selfWeight rfl ⟨by decide, by decide⟩ (Nat.le_of_ble_eq_true rfl) ⟨Nat.le_refl _, Nat.le_refl _⟩ ⟨rfl, rfl⟩ rfl rfl rfl (fun r12 u12 h => ?_)
              refine x_aload_n C 35 87 rfl 0 rfl rfl ?_
              refine x_get (v := .ref (aS 5)) C 36 88 rfl fi_X10 0 rfl rfl 6 (by decide) (mc wq_5_7) rfl ?_
              refine x_bipush (v := (9 : Int32)) C 37 91 rfl (by decide) ?_
              refine x_iload_n C 38 93 rfl 2 rfl rfl ?_
              refine x_imul C 39 94 rfl ?_
              obtain ⟨hi, h⟩ := h
              refine x_iald (f := sS 6) C 40 95 rfl 5 rfl hi ?_
              refine x_if_le C 41 96 103 rfl rfl (fun c13 => ?_) (fun c13 => ?_)
              · replace h := h.1 c13
                refine x_iconst (v := (0 : Int32)) C 44 103 rfl (by decide) ?_
                exact x_sub (lv' := [(0, .ref (aS 0)), (2, .int p2)]) [0, 2] rfl (wj_X10_weight_104 C rt h)
              · replace h := h.2 c13
                refine x_iconst (v := (1 : Int32)) C 42 99 rfl (by decide) ?_
                refine x_goto C 43 100 104 rfl rfl ?_
                exact x_sub (lv' := [(0, .ref (aS 0)), (2, .int p2)]) [0, 2] rfl (wj_X10_weight_104 C rt h)
            · replace h := h.2 c11
              have nc5 := ne_toInt c5
              have nc7 := ne_toInt c7
              have nc9 := ne_toInt c9
              have nc11 := ne_toInt c11
              refine x_tabOut C 13 23 147 rfl (by have zc5 : (0 : Int32).toInt = 0 := (by decide); rw [zc5] at nc5; have zc7 : (1 : Int32).toInt = 1 := (by decide); rw [zc7] at nc7; have zc9 : (2 : Int32).toInt = 2 := (by decide); rw [zc9] at nc9; have zc11 : (3 : Int32).toInt = 3 := (by decide); rw [zc11] at nc11; omega) rfl ?_
              refine x_aload_n C 73 147 rfl 0 rfl rfl ?_
              refine x_dup C 74 148 rfl rfl ?_
              refine x_get (v := .long sL) C 75 149 rfl fi_X10 0 rfl rfl 10 (by decide) (mc wq_40_0) rfl ?_
              refine x_ldc2 (v := (10000 : Int64)) C 76 152 rfl (mc wq_40_2) ?_
              refine x_ladd C 77 155 rfl ?_
              refine x_put (ws' := fl [wdS (xk x) aS sS (sL + (10000 : Int64))]) C 78 156 rfl fi_X10 tyX10 tyX10_ok nmX10 0 rfl rfl 10 (by decide) (mc wq_40_0) rfl rfl rfl (Nat.le_of_ble_eq_true rfl) rfl ?_
              refine x_aload_n C 79 159 rfl 0 rfl rfl ?_
              refine x_iload_n C 80 160 rfl 2 rfl rfl ?_
              refine x_callWVI (ci := 8) (q0 := 0) (q := (RX10, TX10, 34)) C 81 161 (c_X10_otherWeight (xl x) (xD x) (xk x) (xg x) aS sS (sL + (10000 : Int64)) p2 _ h) rfl wwGood (mem4 wq_40_16 wq_40_17 wq_40_18 wq_1_5) wq_40_19 1 ok_X10_otherWeight rfl ⟨by decide, by decide⟩ (Nat.le_of_ble_eq_true rfl) ⟨Nat.le_refl _, Nat.le_refl _⟩ ⟨rfl, rfl⟩ rfl rfl rfl (fun r16 u16 h => ?_)
              refine x_aload_n C 82 164 rfl 0 rfl rfl ?_
              refine x_get (v := .ref (aS 2)) C 83 165 rfl fi_X10 0 rfl rfl 2 (by decide) (mc wq_5_4) rfl ?_
              refine x_aload_n C 84 168 rfl 0 rfl rfl ?_
              refine x_get (v := .ref (aS 4)) C 85 169 rfl fi_X10 0 rfl rfl 5 (by decide) (mc wq_5_6) rfl ?_
              refine x_iload_n C 86 172 rfl 2 rfl rfl ?_
              obtain ⟨hi, h⟩ := h
              refine x_iald (f := sS 5) C 87 173 rfl 4 rfl hi ?_
              obtain ⟨hi, h⟩ := h
              refine x_iald (f := sS 2) C 88 174 rfl 2 rfl hi ?_
              refine x_iadd C 89 175 rfl ?_
              exact x_iret C rt 90 176 rfl u16 rfl h
    · replace h := h.1 c4
      refine x_iconst (v := (-1 : Int32)) C 10 20 rfl (by decide) ?_
      exact x_iret C rt 11 21 rfl sL rfl h
theorem c_X10_weight (l : Launch) (D : va_G) (k : ClassId × ClassId) (g : Nat → Nat) (aS : Nat → Nat) (sS : St) (sL : Int64) (p1 : Int32) (p2 : Int32) (K : Int32 → Int64 → Prop) (h : wp_X10_weight sS sL p1 p2 K) : ConI l yX10_weight (Cond.code yX10_weight cX10_weight 3 (some .int) :: wsL_law) ({ frames := 3, cells := 0, slots := 0, locals := 66 } : Room) D k g [.ref (aS 0), .int p1, .int p2] (fl [wdS k aS sS sL]) (fun (u : Int64) => fl [wdS k aS sS u]) (fun (r : Int32) (u : Int64) => K r u) := by
  refine ConI.of (tb := tb_X10_weight) (cc := cX10_weight) (nL := 3) (by decide) rfl tbk_X10_weight (Nat.le_of_ble_eq_true rfl) ?_
  intro x hl hD hk hg C rt
  subst hl hD hk hg
  exact w_X10_weight C rt h
set_option maxHeartbeats 4000000 in
set_option maxRecDepth 100000 in
theorem w_X10_count_80 {x : CT} {aS : Nat → Nat} {sS : St} {sL : Int64} {K : Int32 → Prop} (C : Cx x cX10_count tb_X10_count 4 RX10 (Cond.code yX10_count cX10_count 4 (some .int) :: wsL_law) ({ frames := 1, cells := 0, slots := 0, locals := 24 } : Room)) (rt : RetI x 0 0 (fun (u : Unit) => fl [wdS (xk x) aS sS sL]) (fun (r : Int32) (_ : Unit) => K r))  {q5 : Int32 × Int32} (h : Lp (F_X10_count_80 sS sL K) q5) : Wx x 4 0 0 (fl [wdS (xk x) aS sS sL]) [(0, .ref (aS 0)), (2, .int q5.1), (3, .int q5.2)] 80 [] := by
  refine lp_walk (P := fun q5 => Wx x 4 0 0 (fl [wdS (xk x) aS sS sL]) [(0, .ref (aS 0)), (2, .int q5.1), (3, .int q5.2)] 80 []) (fun q5 R80 hR80 h => ?_) h
  refine x_iload_n C 32 80 rfl 2 rfl rfl ?_
  refine x_aload_n C 33 81 rfl 0 rfl rfl ?_
  refine x_get (v := .int (sS 3 0)) C 34 82 rfl fi_X10 0 rfl rfl 3 (by decide) (mc wq_14_4) rfl ?_
  refine x_icmp_ge C 35 85 103 rfl rfl (fun c6 => ?_) (fun c6 => ?_)
  · replace h := h.1 c6
    refine x_iload_n C 45 103 rfl 1 rfl rfl ?_
    exact x_iret C rt 46 104 rfl () rfl h
  · replace h := h.2 c6
    refine x_iload_n C 36 88 rfl 1 rfl rfl ?_
    refine x_aload_n C 37 89 rfl 0 rfl rfl ?_
    refine x_iload_n C 38 90 rfl 2 rfl rfl ?_
    refine x_iconst (v := (1 : Int32)) C 39 91 rfl (by decide) ?_
    refine x_callWVI (ci := 8) (q0 := 0) (q := (RX10, TX10, 34)) C 40 92 (c_X10_arcsOf (xl x) (xD x) (xk x) (xg x) aS sS sL q5.2 (1 : Int32) _ h) rfl wwGood (mem4 wq_40_7 wq_40_8 wq_40_9 wq_1_5) wq_40_10 2 ok_X10_arcsOf rfl ⟨by decide, by decide⟩ (Nat.le_of_ble_eq_true rfl) ⟨Nat.le_refl _, Nat.le_refl _⟩ ⟨rfl, rfl⟩ rfl rfl rfl (fun r7 _ h => ?_)
    refine x_iadd C 41 95 rfl ?_
    refine x_topi (fun y8 ey8 => ?_)
    replace h := h y8 ey8
    refine x_istore_n (lv' := [(0, .ref (aS 0)), (2, .int y8), (3, .int q5.2)]) C 42 96 rfl rfl (by decide) [1, 0, 2] rfl ?_
    obtain ⟨y9, ey9⟩ : ∃ y : Int32, y = q5.2 + (1 : Int32) := ⟨_, rfl⟩
    replace h := h y9 ey9
    refine x_iinc (v := y9) (lv' := [(0, .ref (aS 0)), (2, .int y8), (3, .int y9)]) C 43 97 rfl 2 rfl (by rw [ey9]; rfl) (by decide) [1, 2, 0] rfl ?_
    refine x_goto C 44 100 80 rfl rfl ?_
    exact x_sub [0, 1, 2] rfl (hR80 (y8, y9) h)
set_option maxHeartbeats 4000000 in
set_option maxRecDepth 100000 in
theorem w_X10_count {x : CT} {aS : Nat → Nat} {sS : St} {sL : Int64} {p1 : Int32} {K : Int32 → Prop} (C : Cx x cX10_count tb_X10_count 4 RX10 (Cond.code yX10_count cX10_count 4 (some .int) :: wsL_law) ({ frames := 1, cells := 0, slots := 0, locals := 24 } : Room)) (rt : RetI x 0 0 (fun (u : Unit) => fl [wdS (xk x) aS sS sL]) (fun (r : Int32) (_ : Unit) => K r)) (h : wp_X10_count sS sL p1 K) : Wx x 4 0 0 (fl [wdS (xk x) aS sS sL]) [(0, .ref (aS 0)), (1, .int p1)] 0 [] := by
  unfold wp_X10_count at h
  refine x_iconst (v := (0 : Int32)) C 0 0 rfl (by decide) ?_
  refine x_istore_n (lv' := [(0, .ref (aS 0)), (1, .int p1), (2, .int (0 : Int32))]) C 1 1 rfl rfl (by decide) [1, 2, 0] rfl ?_
  refine x_iload_n C 2 2 rfl 1 rfl rfl ?_
  by_cases c1 : p1 = (0 : Int32)
  · replace h := h.1 c1
    refine x_tabIn C 3 3 40 0 rfl (0 : Int32) c1 (by decide) (by decide) rfl rfl ?_
    refine x_aload_n C 4 40 rfl 0 rfl rfl ?_
    refine x_get (v := .int (sS 3 0)) C 5 41 rfl fi_X10 0 rfl rfl 3 (by decide) (mc wq_14_4) rfl ?_
    exact x_iret C rt 6 44 rfl () rfl h
  · replace h := h.2 c1
    by_cases c2 : p1 = (1 : Int32)
    · replace h := h.1 c2
      refine x_tabIn C 3 3 45 1 rfl (1 : Int32) c2 (by decide) (by decide) rfl rfl ?_
      refine x_aload_n C 7 45 rfl 0 rfl rfl ?_
      refine x_get (v := .ref (aS 2)) C 8 46 rfl fi_X10 0 rfl rfl 2 (by decide) (mc wq_5_4) rfl ?_
      refine x_iconst (v := (0 : Int32)) C 9 49 rfl (by decide) ?_
      refine x_iald (f := sS 2) C 10 50 rfl 2 rfl (vpi rfl) ?_
      refine x_aload_n C 11 51 rfl 0 rfl rfl ?_
      refine x_get (v := .ref (aS 2)) C 12 52 rfl fi_X10 0 rfl rfl 2 (by decide) (mc wq_5_4) rfl ?_
      refine x_iconst (v := (1 : Int32)) C 13 55 rfl (by decide) ?_
      refine x_iald (f := sS 2) C 14 56 rfl 2 rfl (vpi rfl) ?_
      refine x_iadd C 15 57 rfl ?_
      refine x_aload_n C 16 58 rfl 0 rfl rfl ?_
      refine x_get (v := .ref (aS 2)) C 17 59 rfl fi_X10 0 rfl rfl 2 (by decide) (mc wq_5_4) rfl ?_
      refine x_iconst (v := (2 : Int32)) C 18 62 rfl (by decide) ?_
      refine x_iald (f := sS 2) C 19 63 rfl 2 rfl (vpi rfl) ?_
      refine x_iadd C 20 64 rfl ?_
      refine x_aload_n C 21 65 rfl 0 rfl rfl ?_
      refine x_get (v := .ref (aS 2)) C 22 66 rfl fi_X10 0 rfl rfl 2 (by decide) (mc wq_5_4) rfl ?_
      refine x_iconst (v := (3 : Int32)) C 23 69 rfl (by decide) ?_
      refine x_iald (f := sS 2) C 24 70 rfl 2 rfl (vpi rfl) ?_
      refine x_iadd C 25 71 rfl ?_
      exact x_iret C rt 26 72 rfl () rfl h
    · replace h := h.2 c2
      by_cases c3 : p1 = (2 : Int32)
      · replace h := h.1 c3
        refine x_tabIn C 3 3 73 2 rfl (2 : Int32) c3 (by decide) (by decide) rfl rfl ?_
        refine x_aload_n C 27 73 rfl 0 rfl rfl ?_
        refine x_get (v := .int (sS 7 0)) C 28 74 rfl fi_X10 0 rfl rfl 7 (by decide) (mc wq_14_5) rfl ?_
        exact x_iret C rt 29 77 rfl () rfl h
      · replace h := h.2 c3
        by_cases c4 : p1 = (3 : Int32)
        · replace h := h.1 c4
          refine x_tabIn C 3 3 78 3 rfl (3 : Int32) c4 (by decide) (by decide) rfl rfl ?_
          refine x_iconst (v := (0 : Int32)) C 30 78 rfl (by decide) ?_
          refine x_istore_n (lv' := [(0, .ref (aS 0)), (2, .int (0 : Int32)), (3, .int (0 : Int32))]) C 31 79 rfl rfl (by decide) [1, 3, 0] rfl ?_
          refine x_sub (lv' := [(0, .ref (aS 0)), (2, .int (0 : Int32)), (3, .int (0 : Int32))]) [0, 1, 2] rfl (w_X10_count_80 C rt h)
        · replace h := h.2 c4
          by_cases c10 : p1 = (4 : Int32)
          · replace h := h.1 c10
            refine x_tabIn C 3 3 105 4 rfl (4 : Int32) c10 (by decide) (by decide) rfl rfl ?_
            refine x_aload_n C 47 105 rfl 0 rfl rfl ?_
            refine x_get (v := .int (sS 0 0)) C 48 106 rfl fi_X10 0 rfl rfl 0 (by decide) (mc wq_6_19) rfl ?_
            exact x_iret C rt 49 109 rfl () rfl h
          · replace h := h.2 c10
            by_cases c11 : p1 = (5 : Int32)
            · replace h := h.1 c11
              refine x_tabIn C 3 3 110 5 rfl (5 : Int32) c11 (by decide) (by decide) rfl rfl ?_
              refine x_aload_n C 50 110 rfl 0 rfl rfl ?_
              refine x_get (v := .int (sS 9 0)) C 51 111 rfl fi_X10 0 rfl rfl 9 (by decide) (mc wq_5_9) rfl ?_
              exact x_iret C rt 52 114 rfl () rfl h
            · replace h := h.2 c11
              have nc1 := ne_toInt c1
              have nc2 := ne_toInt c2
              have nc3 := ne_toInt c3
              have nc4 := ne_toInt c4
              have nc10 := ne_toInt c10
              have nc11 := ne_toInt c11
              refine x_tabOut C 3 3 115 rfl (by have zc1 : (0 : Int32).toInt = 0 := (by decide); rw [zc1] at nc1; have zc2 : (1 : Int32).toInt = 1 := (by decide); rw [zc2] at nc2; have zc3 : (2 : Int32).toInt = 2 := (by decide); rw [zc3] at nc3; have zc4 : (3 : Int32).toInt = 3 := (by decide); rw [zc4] at nc4; have zc10 : (4 : Int32).toInt = 4 := (by decide); rw [zc10] at nc10; have zc11 : (5 : Int32).toInt = 5 := (by decide); rw [zc11] at nc11; omega) rfl ?_
              refine x_iconst (v := (-1 : Int32)) C 53 115 rfl (by decide) ?_
              exact x_iret C rt 54 116 rfl () rfl h
theorem c_X10_count (l : Launch) (D : va_G) (k : ClassId × ClassId) (g : Nat → Nat) (aS : Nat → Nat) (sS : St) (sL : Int64) (p1 : Int32) (K : Int32 → Prop) (h : wp_X10_count sS sL p1 K) : ConI l yX10_count (Cond.code yX10_count cX10_count 4 (some .int) :: wsL_law) ({ frames := 1, cells := 0, slots := 0, locals := 24 } : Room) D k g [.ref (aS 0), .int p1] (fl [wdS k aS sS sL]) (fun (u : Unit) => fl [wdS k aS sS sL]) (fun (r : Int32) (_ : Unit) => K r) := by
  refine ConI.of (tb := tb_X10_count) (cc := cX10_count) (nL := 4) (by decide) rfl tbk_X10_count (Nat.le_of_ble_eq_true rfl) ?_
  intro x hl hD hk hg C rt
  subst hl hD hk hg
  exact w_X10_count C rt h
set_option maxHeartbeats 4000000 in
set_option maxRecDepth 100000 in
theorem w_X10_trace {x : CT} {aS : Nat → Nat} {sS : St} {sL : Int64} {K : Int64 → Prop} (C : Cx x cX10_trace tb_X10_trace 1 RX10 (Cond.code yX10_trace cX10_trace 1 (some .long) :: wsL_law) ({ frames := 0, cells := 0, slots := 0, locals := 0 } : Room)) (rt : RetL x 0 0 (fun (u : Unit) => fl [wdS (xk x) aS sS sL]) (fun (r : Int64) (_ : Unit) => K r)) (h : wp_X10_trace sS sL K) : Wx x 1 0 0 (fl [wdS (xk x) aS sS sL]) [(0, .ref (aS 0))] 0 [] := by
  unfold wp_X10_trace at h
  refine x_aload_n C 0 0 rfl 0 rfl rfl ?_
  refine x_get (v := .long sL) C 1 1 rfl fi_X10 0 rfl rfl 10 (by decide) (mc wq_40_0) rfl ?_
  exact x_lret C rt 2 4 rfl () rfl h
theorem c_X10_trace (l : Launch) (D : va_G) (k : ClassId × ClassId) (g : Nat → Nat) (aS : Nat → Nat) (sS : St) (sL : Int64) (K : Int64 → Prop) (h : wp_X10_trace sS sL K) : ConL l yX10_trace (Cond.code yX10_trace cX10_trace 1 (some .long) :: wsL_law) ({ frames := 0, cells := 0, slots := 0, locals := 0 } : Room) D k g [.ref (aS 0)] (fl [wdS k aS sS sL]) (fun (u : Unit) => fl [wdS k aS sS sL]) (fun (r : Int64) (_ : Unit) => K r) := by
  refine ConL.of (tb := tb_X10_trace) (cc := cX10_trace) (nL := 1) (by decide) rfl tbk_X10_trace (Nat.le_of_ble_eq_true rfl) ?_
  intro x hl hD hk hg C rt
  subst hl hD hk hg
  exact w_X10_trace C rt h
