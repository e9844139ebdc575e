set_option maxHeartbeats 4000000 in
set_option maxRecDepth 100000 in
theorem w_X7_take_23 {x : CT} {aT : Nat → Nat} {x1 : Int64} {K : Int32 → St → Prop} (C : Cx x cX7_take tb_X7_take 5 RX7 (Cond.code yX7_take cX7_take 5 (some .boolean) :: wsL_law) ({ frames := 0, cells := 0, slots := 0, locals := 0 } : Room)) (rt : RetZ x 0 0 (fun (u : St) => fl [wdT (xk x) aT u]) (fun (r : Int32) (u : St) => K r u))  {q4 : Int32 × St} (h : Lp (F_X7_take_23 x1 K) q4) : Wx x 5 0 0 (fl [wdT (xk x) aT q4.2]) [(0, .ref (aT 0)), (1, .long x1), (4, .int q4.1)] 23 [] := by
  refine lp_walk (P := fun q4 => Wx x 5 0 0 (fl [wdT (xk x) aT q4.2]) [(0, .ref (aT 0)), (1, .long x1), (4, .int q4.1)] 23 []) (fun q4 R23 hR23 h => ?_) h
  refine x_iload C 14 23 rfl 2 rfl ?_
  refine x_if_lt C 15 25 65 rfl rfl (fun c5 => ?_) (fun c5 => ?_)
  · replace h := h.1 c5
    refine x_iconst (v := (1 : Int32)) C 37 65 rfl (by decide) ?_
    exact x_zret C rt 38 66 rfl zb_1 q4.2 rfl h
  · replace h := h.2 c5
    refine x_aload_n C 16 28 rfl 0 rfl rfl ?_
    refine x_get (v := .ref (aT 1)) C 17 29 rfl fi_X7 0 rfl rfl 0 (by decide) (mc wq_2_23) rfl ?_
    refine x_aload_n C 18 32 rfl 0 rfl rfl ?_
    refine x_get (v := .int (q4.2 1 0)) C 19 33 rfl fi_X7 0 rfl rfl 1 (by decide) (mc wq_6_12) rfl ?_
    refine x_lload_n C 20 36 rfl 1 rfl rfl ?_
    refine x_bipush (v := (8 : Int32)) C 21 37 rfl (by decide) ?_
    refine x_iload C 22 39 rfl 2 rfl ?_
    refine x_imul C 23 41 rfl ?_
    refine x_lushr C 24 42 rfl ?_
    refine x_ldc2 (v := (255 : Int64)) C 25 43 rfl (mc wq_6_13) ?_
    refine x_land C 26 46 rfl ?_
    refine x_l2i C 27 47 rfl ?_
    obtain ⟨hi, h⟩ := h
    obtain ⟨z6, ez6⟩ : ∃ z : St, z = ua q4.2 0 (q4.2 1 0) (((x1.toUInt64 >>> (((8 : Int32) * q4.1).toInt64.toUInt64 &&& Int64.toUInt64 63)).toInt64 &&& (255 : Int64)).toInt32) := ⟨_, rfl⟩
    replace h := h z6 ez6
    refine x_iast (f := q4.2 0) (ws' := fl [wdT (xk x) aT z6]) C 28 48 rfl 1 rfl hi (by rw [ez6]; rfl) ?_
    refine x_aload_n C 29 49 rfl 0 rfl rfl ?_
    refine x_dup C 30 50 rfl rfl ?_
    refine x_get (v := .int (z6 1 0)) C 31 51 rfl fi_X7 0 rfl rfl 1 (by decide) (mc wq_6_12) rfl ?_
    refine x_iconst (v := (1 : Int32)) C 32 54 rfl (by decide) ?_
    refine x_iadd C 33 55 rfl ?_
    obtain ⟨z7, ez7⟩ : ∃ z : St, z = us z6 1 (z6 1 0 + (1 : Int32)) := ⟨_, rfl⟩
    replace h := h z7 ez7
    refine x_put (ws' := fl [wdT (xk x) aT z7]) C 34 56 rfl fi_X7 tyX7 tyX7_ok nmX7 0 rfl rfl 1 (by decide) (mc wq_6_12) rfl rfl rfl (Nat.le_of_ble_eq_true rfl) (by rw [ez7]; rfl) ?_
    obtain ⟨y8, ey8⟩ : ∃ y : Int32, y = q4.1 + (-1 : Int32) := ⟨_, rfl⟩
    replace h := h y8 ey8
    refine x_iinc (v := y8) (lv' := [(0, .ref (aT 0)), (1, .long x1), (4, .int y8)]) C 35 59 rfl 2 rfl (by rw [ey8]; rfl) (by decide) [1, 2, 0] rfl ?_
    refine x_goto C 36 62 23 rfl rfl ?_
    exact x_sub [0, 1, 2] rfl (hR23 (y8, z7) h)
set_option maxHeartbeats 4000000 in
set_option maxRecDepth 100000 in
theorem w_X7_take {x : CT} {aT : Nat → Nat} {sT : St} {p1 : Int64} {p2 : Int32} {K : Int32 → St → Prop} (C : Cx x cX7_take tb_X7_take 5 RX7 (Cond.code yX7_take cX7_take 5 (some .boolean) :: wsL_law) ({ frames := 0, cells := 0, slots := 0, locals := 0 } : Room)) (rt : RetZ x 0 0 (fun (u : St) => fl [wdT (xk x) aT u]) (fun (r : Int32) (u : St) => K r u)) (h : wp_X7_take sT p1 p2 K) : Wx x 5 0 0 (fl [wdT (xk x) aT sT]) [(0, .ref (aT 0)), (1, .long p1), (3, .int p2)] 0 [] := by
  unfold wp_X7_take at h
  refine x_iload_n C 0 0 rfl 2 rfl rfl ?_
  refine x_if_lt C 1 1 16 rfl rfl (fun c1 => ?_) (fun c1 => ?_)
  · replace h := h.1 c1
    refine x_iconst (v := (0 : Int32)) C 8 16 rfl (by decide) ?_
    exact x_zret C rt 9 17 rfl zb_0 sT rfl h
  · replace h := h.2 c1
    refine x_aload_n C 2 4 rfl 0 rfl rfl ?_
    refine x_get (v := .int (sT 1 0)) C 3 5 rfl fi_X7 0 rfl rfl 1 (by decide) (mc wq_6_12) rfl ?_
    refine x_iload_n C 4 8 rfl 2 rfl rfl ?_
    refine x_iadd C 5 9 rfl ?_
    refine x_sipush (v := (300 : Int32)) C 6 10 rfl (by decide) ?_
    refine x_icmp_le C 7 13 18 rfl rfl (fun c2 => ?_) (fun c2 => ?_)
    · replace h := h.1 c2
      refine x_iload_n C 10 18 rfl 2 rfl rfl ?_
      refine x_iconst (v := (1 : Int32)) C 11 19 rfl (by decide) ?_
      refine x_isub C 12 20 rfl ?_
      refine x_topi (fun y3 ey3 => ?_)
      replace h := h y3 ey3
      refine x_istore (lv' := [(0, .ref (aT 0)), (1, .long p1), (4, .int y3)]) C 13 21 rfl (by decide) [1, 2, 0] rfl ?_
      refine x_sub (lv' := [(0, .ref (aT 0)), (1, .long p1), (4, .int y3)]) [0, 1, 2] rfl (w_X7_take_23 C rt h)
    · replace h := h.2 c2
      refine x_iconst (v := (0 : Int32)) C 8 16 rfl (by decide) ?_
      exact x_zret C rt 9 17 rfl zb_0 sT rfl h
theorem c_X7_take (l : Launch) (D : va_G) (k : ClassId × ClassId) (g : Nat → Nat) (aT : Nat → Nat) (sT : St) (p1 : Int64) (p2 : Int32) (K : Int32 → St → Prop) (h : wp_X7_take sT p1 p2 K) : ConZ l yX7_take (Cond.code yX7_take cX7_take 5 (some .boolean) :: wsL_law) ({ frames := 0, cells := 0, slots := 0, locals := 0 } : Room) D k g [.ref (aT 0), .long p1, .int p2] (fl [wdT k aT sT]) (fun (u : St) => fl [wdT k aT u]) (fun (r : Int32) (u : St) => K r u) := by
  refine ConZ.of (tb := tb_X7_take) (cc := cX7_take) (nL := 5) (by decide) rfl tbk_X7_take (Nat.le_of_ble_eq_true rfl) ?_
  intro x hl hD hk hg C rt
  subst hl hD hk hg
  exact w_X7_take C rt h
set_option maxHeartbeats 4000000 in
set_option maxRecDepth 100000 in
theorem w_X7_empty {x : CT} {aT : Nat → Nat} {sT : St} {K : Int32 → St → Prop} (C : Cx x cX7_empty tb_X7_empty 2 RX7 (Cond.code yX7_empty cX7_empty 2 (some .int) :: wsL_law) ({ frames := 0, cells := 0, slots := 0, locals := 0 } : Room)) (rt : RetI x 0 0 (fun (u : St) => fl [wdT (xk x) aT u]) (fun (r : Int32) (u : St) => K r u)) (h : wp_X7_empty sT K) : Wx x 2 0 0 (fl [wdT (xk x) aT sT]) [(0, .ref (aT 0))] 0 [] := by
  unfold wp_X7_empty at h
  refine x_aload_n C 0 0 rfl 0 rfl rfl ?_
  refine x_get (v := .int (sT 1 0)) C 1 1 rfl fi_X7 0 rfl rfl 1 (by decide) (mc wq_6_12) rfl ?_
  refine x_topi (fun y1 ey1 => ?_)
  replace h := h y1 ey1
  refine x_istore_n (lv' := [(0, .ref (aT 0)), (1, .int y1)]) C 2 4 rfl rfl (by decide) [1, 0] rfl ?_
  refine x_aload_n C 3 5 rfl 0 rfl rfl ?_
  refine x_iconst (v := (0 : Int32)) C 4 6 rfl (by decide) ?_
  obtain ⟨z2, ez2⟩ : ∃ z : St, z = us sT 1 (0 : Int32) := ⟨_, rfl⟩
  replace h := h z2 ez2
  refine x_put (ws' := fl [wdT (xk x) aT z2]) C 5 7 rfl fi_X7 tyX7 tyX7_ok nmX7 0 rfl rfl 1 (by decide) (mc wq_6_12) rfl rfl rfl (Nat.le_of_ble_eq_true rfl) (by rw [ez2]; rfl) ?_
  refine x_iload_n C 6 10 rfl 1 rfl rfl ?_
  exact x_iret C rt 7 11 rfl z2 rfl h
theorem c_X7_empty (l : Launch) (D : va_G) (k : ClassId × ClassId) (g : Nat → Nat) (aT : Nat → Nat) (sT : St) (K : Int32 → St → Prop) (h : wp_X7_empty sT K) : ConI l yX7_empty (Cond.code yX7_empty cX7_empty 2 (some .int) :: wsL_law) ({ frames := 0, cells := 0, slots := 0, locals := 0 } : Room) D k g [.ref (aT 0)] (fl [wdT k aT sT]) (fun (u : St) => fl [wdT k aT u]) (fun (r : Int32) (u : St) => K r u) := by
  refine ConI.of (tb := tb_X7_empty) (cc := cX7_empty) (nL := 2) (by decide) rfl tbk_X7_empty (Nat.le_of_ble_eq_true rfl) ?_
  intro x hl hD hk hg C rt
  subst hl hD hk hg
  exact w_X7_empty C rt h
set_option maxHeartbeats 4000000 in
set_option maxRecDepth 100000 in
theorem w_X7_isLetter {x : CT} {aT : Nat → Nat} {sT : St} {p1 : Int32} {K : Int32 → Prop} (C : Cx x cX7_isLetter tb_X7_isLetter 2 RX7 (Cond.code yX7_isLetter cX7_isLetter 2 (some .boolean) :: wsL_law) ({ frames := 0, cells := 0, slots := 0, locals := 0 } : Room)) (rt : RetZ x 0 0 (fun (u : Unit) => fl [wdT (xk x) aT sT]) (fun (r : Int32) (_ : Unit) => K r)) (h : wp_X7_isLetter sT p1 K) : Wx x 2 0 0 (fl [wdT (xk x) aT sT]) [(0, .ref (aT 0)), (1, .int p1)] 0 [] := by
  unfold wp_X7_isLetter at h
  refine x_aload_n C 0 0 rfl 0 rfl rfl ?_
  refine x_get (v := .ref (aT 1)) C 1 1 rfl fi_X7 0 rfl rfl 0 (by decide) (mc wq_2_23) rfl ?_
  refine x_iload_n C 2 4 rfl 1 rfl rfl ?_
  obtain ⟨hi, h⟩ := h
  refine x_iald (f := sT 0) C 3 5 rfl 1 rfl hi ?_
  refine x_bipush (v := (97 : Int32)) C 4 6 rfl (by decide) ?_
  refine x_icmp_lt C 5 8 26 rfl rfl (fun c1 => ?_) (fun c1 => ?_)
  · replace h := h.1 c1
    refine x_iconst (v := (0 : Int32)) C 14 26 rfl (by decide) ?_
    exact x_zret C rt 15 27 rfl zb_0 () rfl h
  · replace h := h.2 c1
    refine x_aload_n C 6 11 rfl 0 rfl rfl ?_
    refine x_get (v := .ref (aT 1)) C 7 12 rfl fi_X7 0 rfl rfl 0 (by decide) (mc wq_2_23) rfl ?_
    refine x_iload_n C 8 15 rfl 1 rfl rfl ?_
    obtain ⟨hi, h⟩ := h
    refine x_iald (f := sT 0) C 9 16 rfl 1 rfl hi ?_
    refine x_bipush (v := (122 : Int32)) C 10 17 rfl (by decide) ?_
    refine x_icmp_gt C 11 19 26 rfl rfl (fun c2 => ?_) (fun c2 => ?_)
    · replace h := h.1 c2
      refine x_iconst (v := (0 : Int32)) C 14 26 rfl (by decide) ?_
      exact x_zret C rt 15 27 rfl zb_0 () rfl h
    · replace h := h.2 c2
      refine x_iconst (v := (1 : Int32)) C 12 22 rfl (by decide) ?_
      refine x_goto C 13 23 27 rfl rfl ?_
      exact x_zret C rt 15 27 rfl zb_1 () rfl h
theorem c_X7_isLetter (l : Launch) (D : va_G) (k : ClassId × ClassId) (g : Nat → Nat) (aT : Nat → Nat) (sT : St) (p1 : Int32) (K : Int32 → Prop) (h : wp_X7_isLetter sT p1 K) : ConZ l yX7_isLetter (Cond.code yX7_isLetter cX7_isLetter 2 (some .boolean) :: wsL_law) ({ frames := 0, cells := 0, slots := 0, locals := 0 } : Room) D k g [.ref (aT 0), .int p1] (fl [wdT k aT sT]) (fun (u : Unit) => fl [wdT k aT sT]) (fun (r : Int32) (_ : Unit) => K r) := by
  refine ConZ.of (tb := tb_X7_isLetter) (cc := cX7_isLetter) (nL := 2) (by decide) rfl tbk_X7_isLetter (Nat.le_of_ble_eq_true rfl) ?_
  intro x hl hD hk hg C rt
  subst hl hD hk hg
  exact w_X7_isLetter C rt h
set_option maxHeartbeats 4000000 in
set_option maxRecDepth 100000 in
theorem w_X7_isWord_20 {x : CT} {aT : Nat → Nat} {sT : St} {p1 : Nat} (hp1 : p1 < 2) {K : Int32 → Prop} (C : Cx x cX7_isWord tb_X7_isWord 3 RX7 (Cond.code yX7_isWord cX7_isWord 3 (some .boolean) :: wsL_law) ({ frames := 4, cells := 0, slots := 0, locals := 120 } : Room)) (rt : RetZ x 0 0 (fun (u : Unit) => fl [wdT (xk x) aT sT]) (fun (r : Int32) (_ : Unit) => K r))  {q2 : Int32} (h : Lp (F_X7_isWord_20 sT p1 K) q2) : Wx x 3 0 0 (fl [wdT (xk x) aT sT]) [(0, .ref (aT 0)), (1, .ref (xg x (2 + p1))), (2, .int q2)] 20 [] := by
  refine lp_walk (P := fun q2 => Wx x 3 0 0 (fl [wdT (xk x) aT sT]) [(0, .ref (aT 0)), (1, .ref (xg x (2 + p1))), (2, .int q2)] 20 []) (fun q2 R20 hR20 h => ?_) h
  refine x_iload_n C 12 20 rfl 2 rfl rfl ?_
  refine x_aload_n C 13 21 rfl 1 rfl rfl ?_
  refine x_slen C 14 22 rfl wq_9_1 (by assumption) ⟨by decide, by decide⟩ (Nat.le_of_ble_eq_true rfl) ⟨Nat.le_refl _, Nat.le_refl _⟩ ?_
  refine x_icmp_ge C 15 25 55 rfl rfl (fun c3 => ?_) (fun c3 => ?_)
  · replace h := h.1 c3
    refine x_iconst (v := (1 : Int32)) C 31 55 rfl (by decide) ?_
    exact x_zret C rt 32 56 rfl zb_1 () rfl h
  · replace h := h.2 c3
    refine x_aload_n C 16 28 rfl 0 rfl rfl ?_
    refine x_get (v := .ref (aT 1)) C 17 29 rfl fi_X7 0 rfl rfl 0 (by decide) (mc wq_2_23) rfl ?_
    refine x_aload_n C 18 32 rfl 0 rfl rfl ?_
    refine x_get (v := .int (sT 2 0)) C 19 33 rfl fi_X7 0 rfl rfl 2 (by decide) (mc wq_8_1) rfl ?_
    refine x_iload_n C 20 36 rfl 2 rfl rfl ?_
    refine x_iadd C 21 37 rfl ?_
    obtain ⟨hi, h⟩ := h
    refine x_iald (f := sT 0) C 22 38 rfl 1 rfl hi ?_
    refine x_aload_n C 23 39 rfl 1 rfl rfl ?_
    refine x_iload_n C 24 40 rfl 2 rfl rfl ?_
    obtain ⟨hi, h⟩ := h
    refine x_sch C 25 41 rfl wq_9_13 (by assumption) hi ⟨by decide, by decide⟩ (Nat.le_of_ble_eq_true rfl) ⟨Nat.le_refl _, Nat.le_refl _⟩ ?_
    refine x_icmp_eq C 26 44 49 rfl rfl (fun c4 => ?_) (fun c4 => ?_)
    · replace h := h.1 c4
      obtain ⟨y5, ey5⟩ : ∃ y : Int32, y = q2 + (1 : Int32) := ⟨_, rfl⟩
      replace h := h y5 ey5
      refine x_iinc (v := y5) (lv' := [(0, .ref (aT 0)), (1, .ref (xg x (2 + p1))), (2, .int y5)]) C 29 49 rfl 2 rfl (by rw [ey5]; rfl) (by decide) [1, 2, 0] rfl ?_
      refine x_goto C 30 52 20 rfl rfl ?_
      exact x_sub [0, 1, 2] rfl (hR20 y5 h)
    · replace h := h.2 c4
      refine x_iconst (v := (0 : Int32)) C 27 47 rfl (by decide) ?_
      exact x_zret C rt 28 48 rfl zb_0 () rfl h
set_option maxHeartbeats 4000000 in
set_option maxRecDepth 100000 in
theorem w_X7_isWord {x : CT} {aT : Nat → Nat} {sT : St} {p1 : Nat} {K : Int32 → Prop} (hp1 : p1 < 2) (C : Cx x cX7_isWord tb_X7_isWord 3 RX7 (Cond.code yX7_isWord cX7_isWord 3 (some .boolean) :: wsL_law) ({ frames := 4, cells := 0, slots := 0, locals := 120 } : Room)) (rt : RetZ x 0 0 (fun (u : Unit) => fl [wdT (xk x) aT sT]) (fun (r : Int32) (_ : Unit) => K r)) (h : wp_X7_isWord sT p1 K) : Wx x 3 0 0 (fl [wdT (xk x) aT sT]) [(0, .ref (aT 0)), (1, .ref (xg x (2 + p1)))] 0 [] := by
  unfold wp_X7_isWord at h
  refine x_aload_n C 0 0 rfl 0 rfl rfl ?_
  refine x_get (v := .int (sT 5 0)) C 1 1 rfl fi_X7 0 rfl rfl 5 (by decide) (mc wq_7_22) rfl ?_
  refine x_aload_n C 2 4 rfl 0 rfl rfl ?_
  refine x_get (v := .int (sT 2 0)) C 3 5 rfl fi_X7 0 rfl rfl 2 (by decide) (mc wq_8_1) rfl ?_
  refine x_isub C 4 8 rfl ?_
  refine x_aload_n C 5 9 rfl 1 rfl rfl ?_
  refine x_slen C 6 10 rfl wq_9_1 (by assumption) ⟨by decide, by decide⟩ (Nat.le_of_ble_eq_true rfl) ⟨Nat.le_refl _, Nat.le_refl _⟩ ?_
  refine x_icmp_eq C 7 13 18 rfl rfl (fun c1 => ?_) (fun c1 => ?_)
  · replace h := h.1 c1
    refine x_iconst (v := (0 : Int32)) C 10 18 rfl (by decide) ?_
    refine x_istore_n (lv' := [(0, .ref (aT 0)), (1, .ref (xg x (2 + p1))), (2, .int (0 : Int32))]) C 11 19 rfl rfl (by decide) [1, 2, 0] rfl ?_
    refine x_sub (lv' := [(0, .ref (aT 0)), (1, .ref (xg x (2 + p1))), (2, .int (0 : Int32))]) [0, 1, 2] rfl (w_X7_isWord_20 (by assumption) C rt h)
  · replace h := h.2 c1
    refine x_iconst (v := (0 : Int32)) C 8 16 rfl (by decide) ?_
    exact x_zret C rt 9 17 rfl zb_0 () rfl h
theorem c_X7_isWord (l : Launch) (D : va_G) (k : ClassId × ClassId) (g : Nat → Nat) (aT : Nat → Nat) (sT : St) (p1 : Nat) (K : Int32 → Prop) (hp1 : p1 < 2) (h : wp_X7_isWord sT p1 K) : ConZ l yX7_isWord (Cond.code yX7_isWord cX7_isWord 3 (some .boolean) :: wsL_law) ({ frames := 4, cells := 0, slots := 0, locals := 120 } : Room) D k g [.ref (aT 0), .ref (g (2 + p1))] (fl [wdT k aT sT]) (fun (u : Unit) => fl [wdT k aT sT]) (fun (r : Int32) (_ : Unit) => K r) := by
  refine ConZ.of (tb := tb_X7_isWord) (cc := cX7_isWord) (nL := 3) (by decide) rfl tbk_X7_isWord (Nat.le_of_ble_eq_true rfl) ?_
  intro x hl hD hk hg C rt
  subst hl hD hk hg
  exact w_X7_isWord hp1 C rt h
set_option maxHeartbeats 4000000 in
set_option maxRecDepth 100000 in
theorem w_X7_scanWord_0 {x : CT} {aT : Nat → Nat} {K : St → Prop} {E35 : St → Prop} (C : Cx x cX7_scanWord tb_X7_scanWord 1 RX7 (Cond.code yX7_scanWord cX7_scanWord 1 none :: wsL_law) ({ frames := 5, cells := 0, slots := 0, locals := 142 } : Room)) (rt : RetV x 0 0 (fun (u : St) => fl [wdT (xk x) aT u]) (fun (u : St) => K u)) (hE35 : ∀ q : St, E35 q → Wx x 1 0 0 (fl [wdT (xk x) aT q]) [(0, .ref (aT 0))] 35 []) {q1 : St} (h : Lp (F_X7_scanWord_0 E35) q1) : Wx x 1 0 0 (fl [wdT (xk x) aT q1]) [(0, .ref (aT 0))] 0 [] := by
  refine lp_walk (P := fun q1 => Wx x 1 0 0 (fl [wdT (xk x) aT q1]) [(0, .ref (aT 0))] 0 []) (fun q1 R0 hR0 h => ?_) h
  refine x_aload_n C 0 0 rfl 0 rfl rfl ?_
  refine x_get (v := .int (q1 5 0)) C 1 1 rfl fi_X7 0 rfl rfl 5 (by decide) (mc wq_7_22) rfl ?_
  refine x_aload_n C 2 4 rfl 0 rfl rfl ?_
  refine x_get (v := .int (q1 1 0)) C 3 5 rfl fi_X7 0 rfl rfl 1 (by decide) (mc wq_6_12) rfl ?_
  refine x_icmp_ge C 4 8 35 rfl rfl (fun c2 => ?_) (fun c2 => ?_)
  · replace h := h.1 c2
    exact x_sub [0] rfl (hE35 q1 h)
  · replace h := h.2 c2
    refine x_aload_n C 5 11 rfl 0 rfl rfl ?_
    refine x_aload_n C 6 12 rfl 0 rfl rfl ?_
    refine x_get (v := .int (q1 5 0)) C 7 13 rfl fi_X7 0 rfl rfl 5 (by decide) (mc wq_7_22) rfl ?_
    refine x_callWVZ (ci := 5) (q0 := 0) (q := (RX7, TX7, 8)) C 8 16 (c_X7_isLetter (xl x) (xD x) (xk x) (xg x) aT q1 (q1 5 0) _ h) rfl wwGood (mem4 wq_8_13 wq_8_14 wq_8_15 wq_1_15) wq_8_16 1 ok_X7_isLetter rfl ⟨by decide, by decide⟩ (Nat.le_of_ble_eq_true rfl) ⟨Nat.le_refl _, Nat.le_refl _⟩ ⟨rfl, rfl⟩ rfl rfl rfl (fun r3 _ h => ?_)
    refine x_if_eq C 9 19 35 rfl rfl (fun c4 => ?_) (fun c4 => ?_)
    · replace h := h.1 c4
      exact x_sub [0] rfl (hE35 q1 h)
    · replace h := h.2 c4
      refine x_aload_n C 10 22 rfl 0 rfl rfl ?_
      refine x_dup C 11 23 rfl rfl ?_
      refine x_get (v := .int (q1 5 0)) C 12 24 rfl fi_X7 0 rfl rfl 5 (by decide) (mc wq_7_22) rfl ?_
      refine x_iconst (v := (1 : Int32)) C 13 27 rfl (by decide) ?_
      refine x_iadd C 14 28 rfl ?_
      obtain ⟨z5, ez5⟩ : ∃ z : St, z = us q1 5 (q1 5 0 + (1 : Int32)) := ⟨_, rfl⟩
      replace h := h z5 ez5
      refine x_put (ws' := fl [wdT (xk x) aT z5]) C 15 29 rfl fi_X7 tyX7 tyX7_ok nmX7 0 rfl rfl 5 (by decide) (mc wq_7_22) rfl rfl rfl (Nat.le_of_ble_eq_true rfl) (by rw [ez5]; rfl) ?_
      refine x_goto C 16 32 0 rfl rfl ?_
      exact x_sub [0] rfl (hR0 z5 h)
set_option maxHeartbeats 4000000 in
set_option maxRecDepth 100000 in
theorem wj_X7_scanWord_35 {x : CT} {aT : Nat → Nat} {sT : St} {K : St → Prop} (C : Cx x cX7_scanWord tb_X7_scanWord 1 RX7 (Cond.code yX7_scanWord cX7_scanWord 1 none :: wsL_law) ({ frames := 5, cells := 0, slots := 0, locals := 142 } : Room)) (rt : RetV x 0 0 (fun (u : St) => fl [wdT (xk x) aT u]) (fun (u : St) => K u))  (h : J_X7_scanWord_35 sT K) : Wx x 1 0 0 (fl [wdT (xk x) aT sT]) [(0, .ref (aT 0))] 35 [] := by
  unfold J_X7_scanWord_35 at h
  refine x_aload_n C 17 35 rfl 0 rfl rfl ?_
  refine x_aload_n C 18 36 rfl 0 rfl rfl ?_
  refine x_str0 C 19 37 rfl ?_
  refine x_callWVZ (ci := 5) (q0 := 0) (q := (RX7, TX7, 8)) C 20 39 (c_X7_isWord (xl x) (xD x) (xk x) (xg x) aT sT (0) _ (by decide) h) rfl wwGood (mem4 wq_8_21 wq_8_22 wq_8_23 wq_1_15) wq_9_0 1 ok_X7_isWord rfl ⟨by decide, by decide⟩ (Nat.le_of_ble_eq_true rfl) ⟨Nat.le_refl _, Nat.le_refl _⟩ ⟨rfl, rfl⟩ rfl rfl rfl (fun r7 _ h => ?_)
  refine x_if_eq C 21 42 49 rfl rfl (fun c8 => ?_) (fun c8 => ?_)
  · replace h := h.1 c8
    refine x_aload_n C 24 49 rfl 0 rfl rfl ?_
    refine x_str1 C 25 50 rfl ?_
    refine x_callWVZ (ci := 5) (q0 := 0) (q := (RX7, TX7, 8)) C 26 52 (c_X7_isWord (xl x) (xD x) (xk x) (xg x) aT sT (1) _ (by decide) h) rfl wwGood (mem4 wq_8_21 wq_8_22 wq_8_23 wq_1_15) wq_9_0 1 ok_X7_isWord rfl ⟨by decide, by decide⟩ (Nat.le_of_ble_eq_true rfl) ⟨Nat.le_refl _, Nat.le_refl _⟩ ⟨rfl, rfl⟩ rfl rfl rfl (fun r9 _ h => ?_)
    refine x_if_eq C 27 55 62 rfl rfl (fun c10 => ?_) (fun c10 => ?_)
    · replace h := h.1 c10
      refine x_iconst (v := (0 : Int32)) C 30 62 rfl (by decide) ?_
      obtain ⟨z11, ez11⟩ : ∃ z : St, z = us sT 3 (0 : Int32) := ⟨_, rfl⟩
      replace h := h z11 ez11
      refine x_put (ws' := fl [wdT (xk x) aT z11]) C 31 63 rfl fi_X7 tyX7 tyX7_ok nmX7 0 rfl rfl 3 (by decide) (mc wq_7_23) rfl rfl rfl (Nat.le_of_ble_eq_true rfl) (by rw [ez11]; rfl) ?_
      exact x_vret C rt 32 66 rfl z11 rfl h
    · replace h := h.2 c10
      refine x_iconst (v := (3 : Int32)) C 28 58 rfl (by decide) ?_
      refine x_goto C 29 59 63 rfl rfl ?_
      obtain ⟨z12, ez12⟩ : ∃ z : St, z = us sT 3 (3 : Int32) := ⟨_, rfl⟩
      replace h := h z12 ez12
      refine x_put (ws' := fl [wdT (xk x) aT z12]) C 31 63 rfl fi_X7 tyX7 tyX7_ok nmX7 0 rfl rfl 3 (by decide) (mc wq_7_23) rfl rfl rfl (Nat.le_of_ble_eq_true rfl) (by rw [ez12]; rfl) ?_
      exact x_vret C rt 32 66 rfl z12 rfl h
  · replace h := h.2 c8
    refine x_iconst (v := (2 : Int32)) C 22 45 rfl (by decide) ?_
    refine x_goto C 23 46 63 rfl rfl ?_
    obtain ⟨z13, ez13⟩ : ∃ z : St, z = us sT 3 (2 : Int32) := ⟨_, rfl⟩
    replace h := h z13 ez13
    refine x_put (ws' := fl [wdT (xk x) aT z13]) C 31 63 rfl fi_X7 tyX7 tyX7_ok nmX7 0 rfl rfl 3 (by decide) (mc wq_7_23) rfl rfl rfl (Nat.le_of_ble_eq_true rfl) (by rw [ez13]; rfl) ?_
    exact x_vret C rt 32 66 rfl z13 rfl h
set_option maxHeartbeats 4000000 in
set_option maxRecDepth 100000 in
theorem w_X7_scanWord {x : CT} {aT : Nat → Nat} {sT : St} {K : St → Prop} (C : Cx x cX7_scanWord tb_X7_scanWord 1 RX7 (Cond.code yX7_scanWord cX7_scanWord 1 none :: wsL_law) ({ frames := 5, cells := 0, slots := 0, locals := 142 } : Room)) (rt : RetV x 0 0 (fun (u : St) => fl [wdT (xk x) aT u]) (fun (u : St) => K u)) (h : wp_X7_scanWord sT K) : Wx x 1 0 0 (fl [wdT (xk x) aT sT]) [(0, .ref (aT 0))] 0 [] := by
  unfold wp_X7_scanWord at h
  refine x_sub (lv' := [(0, .ref (aT 0))]) [0] rfl (w_X7_scanWord_0 C rt (fun q6 h => ?_) h)
  · exact x_sub (lv' := [(0, .ref (aT 0))]) [0] rfl (wj_X7_scanWord_35 C rt h)
theorem c_X7_scanWord (l : Launch) (D : va_G) (k : ClassId × ClassId) (g : Nat → Nat) (aT : Nat → Nat) (sT : St) (K : St → Prop) (h : wp_X7_scanWord sT K) : ConV l yX7_scanWord (Cond.code yX7_scanWord cX7_scanWord 1 none :: wsL_law) ({ frames := 5, cells := 0, slots := 0, locals := 142 } : Room) D k g [.ref (aT 0)] (fl [wdT k aT sT]) (fun (u : St) => fl [wdT k aT u]) (fun (u : St) => K u) := by
  refine ConV.of (tb := tb_X7_scanWord) (cc := cX7_scanWord) (nL := 1) (by decide) rfl tbk_X7_scanWord (Nat.le_of_ble_eq_true rfl) ?_
  intro x hl hD hk hg C rt
  subst hl hD hk hg
  exact w_X7_scanWord C rt h
set_option maxHeartbeats 4000000 in
set_option maxRecDepth 100000 in
theorem w_X7_isFigure {x : CT} {aT : Nat → Nat} {sT : St} {p1 : Int32} {K : Int32 → Prop} (C : Cx x cX7_isFigure tb_X7_isFigure 2 RX7 (Cond.code yX7_isFigure cX7_isFigure 2 (some .boolean) :: wsL_law) ({ frames := 0, cells := 0, slots := 0, locals := 0 } : Room)) (rt : RetZ x 0 0 (fun (u : Unit) => fl [wdT (xk x) aT sT]) (fun (r : Int32) (_ : Unit) => K r)) (h : wp_X7_isFigure sT p1 K) : Wx x 2 0 0 (fl [wdT (xk x) aT sT]) [(0, .ref (aT 0)), (1, .int p1)] 0 [] := by
  unfold wp_X7_isFigure at h
  refine x_aload_n C 0 0 rfl 0 rfl rfl ?_
  refine x_get (v := .ref (aT 1)) C 1 1 rfl fi_X7 0 rfl rfl 0 (by decide) (mc wq_2_23) rfl ?_
  refine x_iload_n C 2 4 rfl 1 rfl rfl ?_
  obtain ⟨hi, h⟩ := h
  refine x_iald (f := sT 0) C 3 5 rfl 1 rfl hi ?_
  refine x_bipush (v := (48 : Int32)) C 4 6 rfl (by decide) ?_
  refine x_icmp_lt C 5 8 26 rfl rfl (fun c1 => ?_) (fun c1 => ?_)
  · replace h := h.1 c1
    refine x_iconst (v := (0 : Int32)) C 14 26 rfl (by decide) ?_
    exact x_zret C rt 15 27 rfl zb_0 () rfl h
  · replace h := h.2 c1
    refine x_aload_n C 6 11 rfl 0 rfl rfl ?_
    refine x_get (v := .ref (aT 1)) C 7 12 rfl fi_X7 0 rfl rfl 0 (by decide) (mc wq_2_23) rfl ?_
    refine x_iload_n C 8 15 rfl 1 rfl rfl ?_
    obtain ⟨hi, h⟩ := h
    refine x_iald (f := sT 0) C 9 16 rfl 1 rfl hi ?_
    refine x_bipush (v := (57 : Int32)) C 10 17 rfl (by decide) ?_
    refine x_icmp_gt C 11 19 26 rfl rfl (fun c2 => ?_) (fun c2 => ?_)
    · replace h := h.1 c2
      refine x_iconst (v := (0 : Int32)) C 14 26 rfl (by decide) ?_
      exact x_zret C rt 15 27 rfl zb_0 () rfl h
    · replace h := h.2 c2
      refine x_iconst (v := (1 : Int32)) C 12 22 rfl (by decide) ?_
      refine x_goto C 13 23 27 rfl rfl ?_
      exact x_zret C rt 15 27 rfl zb_1 () rfl h
theorem c_X7_isFigure (l : Launch) (D : va_G) (k : ClassId × ClassId) (g : Nat → Nat) (aT : Nat → Nat) (sT : St) (p1 : Int32) (K : Int32 → Prop) (h : wp_X7_isFigure sT p1 K) : ConZ l yX7_isFigure (Cond.code yX7_isFigure cX7_isFigure 2 (some .boolean) :: wsL_law) ({ frames := 0, cells := 0, slots := 0, locals := 0 } : Room) D k g [.ref (aT 0), .int p1] (fl [wdT k aT sT]) (fun (u : Unit) => fl [wdT k aT sT]) (fun (r : Int32) (_ : Unit) => K r) := by
  refine ConZ.of (tb := tb_X7_isFigure) (cc := cX7_isFigure) (nL := 2) (by decide) rfl tbk_X7_isFigure (Nat.le_of_ble_eq_true rfl) ?_
  intro x hl hD hk hg C rt
  subst hl hD hk hg
  exact w_X7_isFigure C rt h
set_option maxHeartbeats 4000000 in
set_option maxRecDepth 100000 in
theorem w_X7_scanNumber_0 {x : CT} {aT : Nat → Nat} {K : St → Prop} {E35 : St → Prop} (C : Cx x cX7_scanNumber tb_X7_scanNumber 1 RX7 (Cond.code yX7_scanNumber cX7_scanNumber 1 none :: wsL_law) ({ frames := 1, cells := 0, slots := 0, locals := 21 } : Room)) (rt : RetV x 0 0 (fun (u : St) => fl [wdT (xk x) aT u]) (fun (u : St) => K u)) (hE35 : ∀ q : St, E35 q → Wx x 1 0 0 (fl [wdT (xk x) aT q]) [(0, .ref (aT 0))] 35 []) {q1 : St} (h : Lp (F_X7_scanNumber_0 E35) q1) : Wx x 1 0 0 (fl [wdT (xk x) aT q1]) [(0, .ref (aT 0))] 0 [] := by
  refine lp_walk (P := fun q1 => Wx x 1 0 0 (fl [wdT (xk x) aT q1]) [(0, .ref (aT 0))] 0 []) (fun q1 R0 hR0 h => ?_) h
  refine x_aload_n C 0 0 rfl 0 rfl rfl ?_
  refine x_get (v := .int (q1 5 0)) C 1 1 rfl fi_X7 0 rfl rfl 5 (by decide) (mc wq_7_22) rfl ?_
  refine x_aload_n C 2 4 rfl 0 rfl rfl ?_
  refine x_get (v := .int (q1 1 0)) C 3 5 rfl fi_X7 0 rfl rfl 1 (by decide) (mc wq_6_12) rfl ?_
  refine x_icmp_ge C 4 8 35 rfl rfl (fun c2 => ?_) (fun c2 => ?_)
  · replace h := h.1 c2
    exact x_sub [0] rfl (hE35 q1 h)
  · replace h := h.2 c2
    refine x_aload_n C 5 11 rfl 0 rfl rfl ?_
    refine x_aload_n C 6 12 rfl 0 rfl rfl ?_
    refine x_get (v := .int (q1 5 0)) C 7 13 rfl fi_X7 0 rfl rfl 5 (by decide) (mc wq_7_22) rfl ?_
    refine x_callWVZ (ci := 5) (q0 := 0) (q := (RX7, TX7, 8)) C 8 16 (c_X7_isFigure (xl x) (xD x) (xk x) (xg x) aT q1 (q1 5 0) _ h) rfl wwGood (mem4 wq_11_2 wq_11_3 wq_11_4 wq_1_15) wq_11_5 1 ok_X7_isFigure rfl ⟨by decide, by decide⟩ (Nat.le_of_ble_eq_true rfl) ⟨Nat.le_refl _, Nat.le_refl _⟩ ⟨rfl, rfl⟩ rfl rfl rfl (fun r3 _ h => ?_)
    refine x_if_eq C 9 19 35 rfl rfl (fun c4 => ?_) (fun c4 => ?_)
    · replace h := h.1 c4
      exact x_sub [0] rfl (hE35 q1 h)
    · replace h := h.2 c4
      refine x_aload_n C 10 22 rfl 0 rfl rfl ?_
      refine x_dup C 11 23 rfl rfl ?_
      refine x_get (v := .int (q1 5 0)) C 12 24 rfl fi_X7 0 rfl rfl 5 (by decide) (mc wq_7_22) rfl ?_
      refine x_iconst (v := (1 : Int32)) C 13 27 rfl (by decide) ?_
      refine x_iadd C 14 28 rfl ?_
      obtain ⟨z5, ez5⟩ : ∃ z : St, z = us q1 5 (q1 5 0 + (1 : Int32)) := ⟨_, rfl⟩
      replace h := h z5 ez5
      refine x_put (ws' := fl [wdT (xk x) aT z5]) C 15 29 rfl fi_X7 tyX7 tyX7_ok nmX7 0 rfl rfl 5 (by decide) (mc wq_7_22) rfl rfl rfl (Nat.le_of_ble_eq_true rfl) (by rw [ez5]; rfl) ?_
      refine x_goto C 16 32 0 rfl rfl ?_
      exact x_sub [0] rfl (hR0 z5 h)
set_option maxHeartbeats 4000000 in
set_option maxRecDepth 100000 in
theorem wj_X7_scanNumber_54 {x : CT} {aT : Nat → Nat} {sT : St} {t1 : Int32} {K : St → Prop} (C : Cx x cX7_scanNumber tb_X7_scanNumber 1 RX7 (Cond.code yX7_scanNumber cX7_scanNumber 1 none :: wsL_law) ({ frames := 1, cells := 0, slots := 0, locals := 21 } : Room)) (rt : RetV x 0 0 (fun (u : St) => fl [wdT (xk x) aT u]) (fun (u : St) => K u))  (h : J_X7_scanNumber_54 sT t1 K) : Wx x 1 0 0 (fl [wdT (xk x) aT sT]) [(0, .ref (aT 0))] 54 [.int t1, .ref (aT 0)] := by
  unfold J_X7_scanNumber_54 at h
  obtain ⟨z8, ez8⟩ : ∃ z : St, z = us sT 3 t1 := ⟨_, rfl⟩
  replace h := h z8 ez8
  refine x_put (ws' := fl [wdT (xk x) aT z8]) C 28 54 rfl fi_X7 tyX7 tyX7_ok nmX7 0 rfl rfl 3 (by decide) (mc wq_7_23) rfl rfl rfl (Nat.le_of_ble_eq_true rfl) (by rw [ez8]; rfl) ?_
  refine x_aload_n C 29 57 rfl 0 rfl rfl ?_
  refine x_aload_n C 30 58 rfl 0 rfl rfl ?_
  refine x_get (v := .ref (aT 1)) C 31 59 rfl fi_X7 0 rfl rfl 0 (by decide) (mc wq_2_23) rfl ?_
  refine x_aload_n C 32 62 rfl 0 rfl rfl ?_
  refine x_get (v := .int (z8 2 0)) C 33 63 rfl fi_X7 0 rfl rfl 2 (by decide) (mc wq_8_1) rfl ?_
  obtain ⟨hi, h⟩ := h
  refine x_iald (f := z8 0) C 34 66 rfl 1 rfl hi ?_
  refine x_bipush (v := (48 : Int32)) C 35 67 rfl (by decide) ?_
  refine x_isub C 36 69 rfl ?_
  obtain ⟨z9, ez9⟩ : ∃ z : St, z = us z8 4 (z8 0 (z8 2 0).toNatClampNeg - (48 : Int32)) := ⟨_, rfl⟩
  replace h := h z9 ez9
  refine x_put (ws' := fl [wdT (xk x) aT z9]) C 37 70 rfl fi_X7 tyX7 tyX7_ok nmX7 0 rfl rfl 4 (by decide) (mc wq_8_12) rfl rfl rfl (Nat.le_of_ble_eq_true rfl) (by rw [ez9]; rfl) ?_
  exact x_vret C rt 38 73 rfl z9 rfl h
set_option maxHeartbeats 4000000 in
set_option maxRecDepth 100000 in
theorem wj_X7_scanNumber_35 {x : CT} {aT : Nat → Nat} {sT : St} {K : St → Prop} (C : Cx x cX7_scanNumber tb_X7_scanNumber 1 RX7 (Cond.code yX7_scanNumber cX7_scanNumber 1 none :: wsL_law) ({ frames := 1, cells := 0, slots := 0, locals := 21 } : Room)) (rt : RetV x 0 0 (fun (u : St) => fl [wdT (xk x) aT u]) (fun (u : St) => K u))  (h : J_X7_scanNumber_35 sT K) : Wx x 1 0 0 (fl [wdT (xk x) aT sT]) [(0, .ref (aT 0))] 35 [] := by
  unfold J_X7_scanNumber_35 at h
  refine x_aload_n C 17 35 rfl 0 rfl rfl ?_
  refine x_aload_n C 18 36 rfl 0 rfl rfl ?_
  refine x_get (v := .int (sT 5 0)) C 19 37 rfl fi_X7 0 rfl rfl 5 (by decide) (mc wq_7_22) rfl ?_
  refine x_aload_n C 20 40 rfl 0 rfl rfl ?_
  refine x_get (v := .int (sT 2 0)) C 21 41 rfl fi_X7 0 rfl rfl 2 (by decide) (mc wq_8_1) rfl ?_
  refine x_iconst (v := (1 : Int32)) C 22 44 rfl (by decide) ?_
  refine x_iadd C 23 45 rfl ?_
  refine x_icmp_ne C 24 46 53 rfl rfl (fun c7 => ?_) (fun c7 => ?_)
  · replace h := h.2 c7
    refine x_iconst (v := (0 : Int32)) C 27 53 rfl (by decide) ?_
    exact x_sub (lv' := [(0, .ref (aT 0))]) [0] rfl (wj_X7_scanNumber_54 C rt h)
  · replace h := h.1 c7
    refine x_iconst (v := (5 : Int32)) C 25 49 rfl (by decide) ?_
    refine x_goto C 26 50 54 rfl rfl ?_
    exact x_sub (lv' := [(0, .ref (aT 0))]) [0] rfl (wj_X7_scanNumber_54 C rt h)
set_option maxHeartbeats 4000000 in
set_option maxRecDepth 100000 in
theorem w_X7_scanNumber {x : CT} {aT : Nat → Nat} {sT : St} {K : St → Prop} (C : Cx x cX7_scanNumber tb_X7_scanNumber 1 RX7 (Cond.code yX7_scanNumber cX7_scanNumber 1 none :: wsL_law) ({ frames := 1, cells := 0, slots := 0, locals := 21 } : Room)) (rt : RetV x 0 0 (fun (u : St) => fl [wdT (xk x) aT u]) (fun (u : St) => K u)) (h : wp_X7_scanNumber sT K) : Wx x 1 0 0 (fl [wdT (xk x) aT sT]) [(0, .ref (aT 0))] 0 [] := by
  unfold wp_X7_scanNumber at h
  refine x_sub (lv' := [(0, .ref (aT 0))]) [0] rfl (w_X7_scanNumber_0 C rt (fun q6 h => ?_) h)
  · exact x_sub (lv' := [(0, .ref (aT 0))]) [0] rfl (wj_X7_scanNumber_35 C rt h)
theorem c_X7_scanNumber (l : Launch) (D : va_G) (k : ClassId × ClassId) (g : Nat → Nat) (aT : Nat → Nat) (sT : St) (K : St → Prop) (h : wp_X7_scanNumber sT K) : ConV l yX7_scanNumber (Cond.code yX7_scanNumber cX7_scanNumber 1 none :: wsL_law) ({ frames := 1, cells := 0, slots := 0, locals := 21 } : Room) D k g [.ref (aT 0)] (fl [wdT k aT sT]) (fun (u : St) => fl [wdT k aT u]) (fun (u : St) => K u) := by
  refine ConV.of (tb := tb_X7_scanNumber) (cc := cX7_scanNumber) (nL := 1) (by decide) rfl tbk_X7_scanNumber (Nat.le_of_ble_eq_true rfl) ?_
  intro x hl hD hk hg C rt
  subst hl hD hk hg
  exact w_X7_scanNumber C rt h
set_option maxHeartbeats 4000000 in
set_option maxRecDepth 100000 in
theorem wj_X7_scanSign_33 {x : CT} {aT : Nat → Nat} {sT : St} {x1 : Int32} {K : St → Prop} (C : Cx x cX7_scanSign tb_X7_scanSign 2 RX7 (Cond.code yX7_scanSign cX7_scanSign 2 none :: wsL_law) ({ frames := 0, cells := 0, slots := 0, locals := 0 } : Room)) (rt : RetV x 0 0 (fun (u : St) => fl [wdT (xk x) aT u]) (fun (u : St) => K u))  (h : J_X7_scanSign_33 sT x1 K) : Wx x 2 0 0 (fl [wdT (xk x) aT sT]) [(0, .ref (aT 0)), (1, .int x1)] 33 [] := by
  unfold J_X7_scanSign_33 at h
  refine x_iload_n C 18 33 rfl 1 rfl rfl ?_
  refine x_bipush (v := (62 : Int32)) C 19 34 rfl (by decide) ?_
  refine x_icmp_ne C 20 36 48 rfl rfl (fun c3 => ?_) (fun c3 => ?_)
  · replace h := h.2 c3
    refine x_iload_n C 25 48 rfl 1 rfl rfl ?_
    refine x_bipush (v := (61 : Int32)) C 26 49 rfl (by decide) ?_
    refine x_icmp_ne C 27 51 63 rfl rfl (fun c4 => ?_) (fun c4 => ?_)
    · replace h := h.2 c4
      refine x_iload_n C 32 63 rfl 1 rfl rfl ?_
      refine x_bipush (v := (59 : Int32)) C 33 64 rfl (by decide) ?_
      refine x_icmp_ne C 34 66 75 rfl rfl (fun c5 => ?_) (fun c5 => ?_)
      · replace h := h.2 c5
        exact x_vret C rt 38 75 rfl sT rfl h
      · replace h := h.1 c5
        refine x_aload_n C 35 69 rfl 0 rfl rfl ?_
        refine x_bipush (v := (8 : Int32)) C 36 70 rfl (by decide) ?_
        obtain ⟨z6, ez6⟩ : ∃ z : St, z = us sT 3 (8 : Int32) := ⟨_, rfl⟩
        replace h := h z6 ez6
        refine x_put (ws' := fl [wdT (xk x) aT z6]) C 37 72 rfl fi_X7 tyX7 tyX7_ok nmX7 0 rfl rfl 3 (by decide) (mc wq_7_23) rfl rfl rfl (Nat.le_of_ble_eq_true rfl) (by rw [ez6]; rfl) ?_
        exact x_vret C rt 38 75 rfl z6 rfl h
    · replace h := h.1 c4
      refine x_aload_n C 28 54 rfl 0 rfl rfl ?_
      refine x_bipush (v := (7 : Int32)) C 29 55 rfl (by decide) ?_
      obtain ⟨z7, ez7⟩ : ∃ z : St, z = us sT 3 (7 : Int32) := ⟨_, rfl⟩
      replace h := h z7 ez7
      refine x_put (ws' := fl [wdT (xk x) aT z7]) C 30 57 rfl fi_X7 tyX7 tyX7_ok nmX7 0 rfl rfl 3 (by decide) (mc wq_7_23) rfl rfl rfl (Nat.le_of_ble_eq_true rfl) (by rw [ez7]; rfl) ?_
      refine x_goto C 31 60 75 rfl rfl ?_
      exact x_vret C rt 38 75 rfl z7 rfl h
  · replace h := h.1 c3
    refine x_aload_n C 21 39 rfl 0 rfl rfl ?_
    refine x_bipush (v := (6 : Int32)) C 22 40 rfl (by decide) ?_
    obtain ⟨z8, ez8⟩ : ∃ z : St, z = us sT 3 (6 : Int32) := ⟨_, rfl⟩
    replace h := h z8 ez8
    refine x_put (ws' := fl [wdT (xk x) aT z8]) C 23 42 rfl fi_X7 tyX7 tyX7_ok nmX7 0 rfl rfl 3 (by decide) (mc wq_7_23) rfl rfl rfl (Nat.le_of_ble_eq_true rfl) (by rw [ez8]; rfl) ?_
    refine x_goto C 24 45 75 rfl rfl ?_
    exact x_vret C rt 38 75 rfl z8 rfl h
set_option maxHeartbeats 4000000 in
set_option maxRecDepth 100000 in
theorem w_X7_scanSign {x : CT} {aT : Nat → Nat} {sT : St} {p1 : Int32} {K : St → Prop} (C : Cx x cX7_scanSign tb_X7_scanSign 2 RX7 (Cond.code yX7_scanSign cX7_scanSign 2 none :: wsL_law) ({ frames := 0, cells := 0, slots := 0, locals := 0 } : Room)) (rt : RetV x 0 0 (fun (u : St) => fl [wdT (xk x) aT u]) (fun (u : St) => K u)) (h : wp_X7_scanSign sT p1 K) : Wx x 2 0 0 (fl [wdT (xk x) aT sT]) [(0, .ref (aT 0)), (1, .int p1)] 0 [] := by
  unfold wp_X7_scanSign at h
  refine x_aload_n C 0 0 rfl 0 rfl rfl ?_
  refine x_iconst (v := (0 : Int32)) C 1 1 rfl (by decide) ?_
  obtain ⟨z1, ez1⟩ : ∃ z : St, z = us sT 3 (0 : Int32) := ⟨_, rfl⟩
  replace h := h z1 ez1
  refine x_put (ws' := fl [wdT (xk x) aT z1]) C 2 2 rfl fi_X7 tyX7 tyX7_ok nmX7 0 rfl rfl 3 (by decide) (mc wq_7_23) rfl rfl rfl (Nat.le_of_ble_eq_true rfl) (by rw [ez1]; rfl) ?_
  refine x_iload_n C 3 5 rfl 1 rfl rfl ?_
  refine x_bipush (v := (65 : Int32)) C 4 6 rfl (by decide) ?_
  refine x_icmp_lt C 5 8 33 rfl rfl (fun c2 => ?_) (fun c2 => ?_)
  · replace h := h.1 c2
    exact x_sub (lv' := [(0, .ref (aT 0)), (1, .int p1)]) [0, 1] rfl (wj_X7_scanSign_33 C rt h)
  · replace h := h.2 c2
    refine x_iload_n C 6 11 rfl 1 rfl rfl ?_
    refine x_bipush (v := (69 : Int32)) C 7 12 rfl (by decide) ?_
    refine x_icmp_ge C 8 14 33 rfl rfl (fun c9 => ?_) (fun c9 => ?_)
    · replace h := h.1 c9
      exact x_sub (lv' := [(0, .ref (aT 0)), (1, .int p1)]) [0, 1] rfl (wj_X7_scanSign_33 C rt h)
    · replace h := h.2 c9
      refine x_aload_n C 9 17 rfl 0 rfl rfl ?_
      refine x_iconst (v := (4 : Int32)) C 10 18 rfl (by decide) ?_
      obtain ⟨z10, ez10⟩ : ∃ z : St, z = us z1 3 (4 : Int32) := ⟨_, rfl⟩
      replace h := h z10 ez10
      refine x_put (ws' := fl [wdT (xk x) aT z10]) C 11 19 rfl fi_X7 tyX7 tyX7_ok nmX7 0 rfl rfl 3 (by decide) (mc wq_7_23) rfl rfl rfl (Nat.le_of_ble_eq_true rfl) (by rw [ez10]; rfl) ?_
      refine x_aload_n C 12 22 rfl 0 rfl rfl ?_
      refine x_iload_n C 13 23 rfl 1 rfl rfl ?_
      refine x_bipush (v := (65 : Int32)) C 14 24 rfl (by decide) ?_
      refine x_isub C 15 26 rfl ?_
      obtain ⟨z11, ez11⟩ : ∃ z : St, z = us z10 4 (p1 - (65 : Int32)) := ⟨_, rfl⟩
      replace h := h z11 ez11
      refine x_put (ws' := fl [wdT (xk x) aT z11]) C 16 27 rfl fi_X7 tyX7 tyX7_ok nmX7 0 rfl rfl 4 (by decide) (mc wq_8_12) rfl rfl rfl (Nat.le_of_ble_eq_true rfl) (by rw [ez11]; rfl) ?_
      refine x_goto C 17 30 75 rfl rfl ?_
      exact x_vret C rt 38 75 rfl z11 rfl h
theorem c_X7_scanSign (l : Launch) (D : va_G) (k : ClassId × ClassId) (g : Nat → Nat) (aT : Nat → Nat) (sT : St) (p1 : Int32) (K : St → Prop) (h : wp_X7_scanSign sT p1 K) : ConV l yX7_scanSign (Cond.code yX7_scanSign cX7_scanSign 2 none :: wsL_law) ({ frames := 0, cells := 0, slots := 0, locals := 0 } : Room) D k g [.ref (aT 0), .int p1] (fl [wdT k aT sT]) (fun (u : St) => fl [wdT k aT u]) (fun (u : St) => K u) := by
  refine ConV.of (tb := tb_X7_scanSign) (cc := cX7_scanSign) (nL := 2) (by decide) rfl tbk_X7_scanSign (Nat.le_of_ble_eq_true rfl) ?_
  intro x hl hD hk hg C rt
  subst hl hD hk hg
  exact w_X7_scanSign C rt h
set_option maxHeartbeats 4000000 in
set_option maxRecDepth 100000 in
theorem w_X7_advance_8 {x : CT} {aT : Nat → Nat} {K : St → Prop} {E46 : St → Prop} (C : Cx x cX7_advance tb_X7_advance 1 RX7 (Cond.code yX7_advance cX7_advance 1 none :: wsL_law) ({ frames := 6, cells := 0, slots := 0, locals := 162 } : Room)) (rt : RetV x 0 0 (fun (u : St) => fl [wdT (xk x) aT u]) (fun (u : St) => K u)) (hE46 : ∀ q : St, E46 q → Wx x 1 0 0 (fl [wdT (xk x) aT q]) [(0, .ref (aT 0))] 46 []) {q2 : St} (h : Lp (F_X7_advance_8 E46) q2) : Wx x 1 0 0 (fl [wdT (xk x) aT q2]) [(0, .ref (aT 0))] 8 [] := by
  refine lp_walk (P := fun q2 => Wx x 1 0 0 (fl [wdT (xk x) aT q2]) [(0, .ref (aT 0))] 8 []) (fun q2 R8 hR8 h => ?_) h
  refine x_aload_n C 4 8 rfl 0 rfl rfl ?_
  refine x_get (v := .int (q2 2 0)) C 5 9 rfl fi_X7 0 rfl rfl 2 (by decide) (mc wq_8_1) rfl ?_
  refine x_aload_n C 6 12 rfl 0 rfl rfl ?_
  refine x_get (v := .int (q2 1 0)) C 7 13 rfl fi_X7 0 rfl rfl 1 (by decide) (mc wq_6_12) rfl ?_
  refine x_icmp_ge C 8 16 46 rfl rfl (fun c3 => ?_) (fun c3 => ?_)
  · replace h := h.1 c3
    exact x_sub [0] rfl (hE46 q2 h)
  · replace h := h.2 c3
    refine x_aload_n C 9 19 rfl 0 rfl rfl ?_
    refine x_get (v := .ref (aT 1)) C 10 20 rfl fi_X7 0 rfl rfl 0 (by decide) (mc wq_2_23) rfl ?_
    refine x_aload_n C 11 23 rfl 0 rfl rfl ?_
    refine x_get (v := .int (q2 2 0)) C 12 24 rfl fi_X7 0 rfl rfl 2 (by decide) (mc wq_8_1) rfl ?_
    obtain ⟨hi, h⟩ := h
    refine x_iald (f := q2 0) C 13 27 rfl 1 rfl hi ?_
    refine x_bipush (v := (32 : Int32)) C 14 28 rfl (by decide) ?_
    refine x_icmp_ne C 15 30 46 rfl rfl (fun c4 => ?_) (fun c4 => ?_)
    · replace h := h.2 c4
      exact x_sub [0] rfl (hE46 q2 h)
    · replace h := h.1 c4
      refine x_aload_n C 16 33 rfl 0 rfl rfl ?_
      refine x_dup C 17 34 rfl rfl ?_
      refine x_get (v := .int (q2 2 0)) C 18 35 rfl fi_X7 0 rfl rfl 2 (by decide) (mc wq_8_1) rfl ?_
      refine x_iconst (v := (1 : Int32)) C 19 38 rfl (by decide) ?_
      refine x_iadd C 20 39 rfl ?_
      obtain ⟨z5, ez5⟩ : ∃ z : St, z = us q2 2 (q2 2 0 + (1 : Int32)) := ⟨_, rfl⟩
      replace h := h z5 ez5
      refine x_put (ws' := fl [wdT (xk x) aT z5]) C 21 40 rfl fi_X7 tyX7 tyX7_ok nmX7 0 rfl rfl 2 (by decide) (mc wq_8_1) rfl rfl rfl (Nat.le_of_ble_eq_true rfl) (by rw [ez5]; rfl) ?_
      refine x_goto C 22 43 8 rfl rfl ?_
      exact x_sub [0] rfl (hR8 z5 h)
set_option maxHeartbeats 4000000 in
set_option maxRecDepth 100000 in
theorem wj_X7_advance_46 {x : CT} {aT : Nat → Nat} {sT : St} {K : St → Prop} (C : Cx x cX7_advance tb_X7_advance 1 RX7 (Cond.code yX7_advance cX7_advance 1 none :: wsL_law) ({ frames := 6, cells := 0, slots := 0, locals := 162 } : Room)) (rt : RetV x 0 0 (fun (u : St) => fl [wdT (xk x) aT u]) (fun (u : St) => K u))  (h : J_X7_advance_46 sT K) : Wx x 1 0 0 (fl [wdT (xk x) aT sT]) [(0, .ref (aT 0))] 46 [] := by
  unfold J_X7_advance_46 at h
  refine x_aload_n C 23 46 rfl 0 rfl rfl ?_
  refine x_aload_n C 24 47 rfl 0 rfl rfl ?_
  refine x_get (v := .int (sT 2 0)) C 25 48 rfl fi_X7 0 rfl rfl 2 (by decide) (mc wq_8_1) rfl ?_
  refine x_iconst (v := (1 : Int32)) C 26 51 rfl (by decide) ?_
  refine x_iadd C 27 52 rfl ?_
  obtain ⟨z7, ez7⟩ : ∃ z : St, z = us sT 5 (sT 2 0 + (1 : Int32)) := ⟨_, rfl⟩
  replace h := h z7 ez7
  refine x_put (ws' := fl [wdT (xk x) aT z7]) C 28 53 rfl fi_X7 tyX7 tyX7_ok nmX7 0 rfl rfl 5 (by decide) (mc wq_7_22) rfl rfl rfl (Nat.le_of_ble_eq_true rfl) (by rw [ez7]; rfl) ?_
  refine x_aload_n C 29 56 rfl 0 rfl rfl ?_
  refine x_iconst (v := (0 : Int32)) C 30 57 rfl (by decide) ?_
  obtain ⟨z8, ez8⟩ : ∃ z : St, z = us z7 4 (0 : Int32) := ⟨_, rfl⟩
  replace h := h z8 ez8
  refine x_put (ws' := fl [wdT (xk x) aT z8]) C 31 58 rfl fi_X7 tyX7 tyX7_ok nmX7 0 rfl rfl 4 (by decide) (mc wq_8_12) rfl rfl rfl (Nat.le_of_ble_eq_true rfl) (by rw [ez8]; rfl) ?_
  refine x_aload_n C 32 61 rfl 0 rfl rfl ?_
  refine x_get (v := .int (z8 2 0)) C 33 62 rfl fi_X7 0 rfl rfl 2 (by decide) (mc wq_8_1) rfl ?_
  refine x_aload_n C 34 65 rfl 0 rfl rfl ?_
  refine x_get (v := .int (z8 1 0)) C 35 66 rfl fi_X7 0 rfl rfl 1 (by decide) (mc wq_6_12) rfl ?_
  refine x_icmp_lt C 36 69 88 rfl rfl (fun c9 => ?_) (fun c9 => ?_)
  · replace h := h.1 c9
    refine x_aload_n C 45 88 rfl 0 rfl rfl ?_
    refine x_aload_n C 46 89 rfl 0 rfl rfl ?_
    refine x_get (v := .int (z8 2 0)) C 47 90 rfl fi_X7 0 rfl rfl 2 (by decide) (mc wq_8_1) rfl ?_
    refine x_callWVZ (ci := 5) (q0 := 0) (q := (RX7, TX7, 8)) C 48 93 (c_X7_isLetter (xl x) (xD x) (xk x) (xg x) aT z8 (z8 2 0) _ h) rfl wwGood (mem4 wq_8_13 wq_8_14 wq_8_15 wq_1_15) wq_8_16 1 ok_X7_isLetter rfl ⟨by decide, by decide⟩ (Nat.le_of_ble_eq_true rfl) ⟨Nat.le_refl _, Nat.le_refl _⟩ ⟨rfl, rfl⟩ rfl rfl rfl (fun r10 _ h => ?_)
    refine x_if_eq C 49 96 106 rfl rfl (fun c11 => ?_) (fun c11 => ?_)
    · replace h := h.1 c11
      refine x_aload_n C 53 106 rfl 0 rfl rfl ?_
      refine x_aload_n C 54 107 rfl 0 rfl rfl ?_
      refine x_get (v := .int (z8 2 0)) C 55 108 rfl fi_X7 0 rfl rfl 2 (by decide) (mc wq_8_1) rfl ?_
      refine x_callWVZ (ci := 5) (q0 := 0) (q := (RX7, TX7, 8)) C 56 111 (c_X7_isFigure (xl x) (xD x) (xk x) (xg x) aT z8 (z8 2 0) _ h) rfl wwGood (mem4 wq_11_2 wq_11_3 wq_11_4 wq_1_15) wq_11_5 1 ok_X7_isFigure rfl ⟨by decide, by decide⟩ (Nat.le_of_ble_eq_true rfl) ⟨Nat.le_refl _, Nat.le_refl _⟩ ⟨rfl, rfl⟩ rfl rfl rfl (fun r12 _ h => ?_)
      refine x_if_eq C 57 114 124 rfl rfl (fun c13 => ?_) (fun c13 => ?_)
      · replace h := h.1 c13
        refine x_aload_n C 61 124 rfl 0 rfl rfl ?_
        refine x_aload_n C 62 125 rfl 0 rfl rfl ?_
        refine x_get (v := .ref (aT 1)) C 63 126 rfl fi_X7 0 rfl rfl 0 (by decide) (mc wq_2_23) rfl ?_
        refine x_aload_n C 64 129 rfl 0 rfl rfl ?_
        refine x_get (v := .int (z8 2 0)) C 65 130 rfl fi_X7 0 rfl rfl 2 (by decide) (mc wq_8_1) rfl ?_
        obtain ⟨hi, h⟩ := h
        refine x_iald (f := z8 0) C 66 133 rfl 1 rfl hi ?_
        refine x_callWVV (ci := 5) (q0 := 0) (q := (RX7, TX7, 8)) C 67 134 (c_X7_scanSign (xl x) (xD x) (xk x) (xg x) aT z8 (z8 0 (z8 2 0).toNatClampNeg) _ h) rfl wwGood (mem4 wq_11_10 wq_11_11 wq_11_12 wq_1_15) wq_11_13 1 ok_X7_scanSign rfl ⟨by decide, by decide⟩ (Nat.le_of_ble_eq_true rfl) ⟨Nat.le_refl _, Nat.le_refl _⟩ ⟨rfl, rfl⟩ rfl rfl rfl (fun u14 h => ?_)
        exact x_vret C rt 68 137 rfl u14 rfl h
      · replace h := h.2 c13
        refine x_aload_n C 58 117 rfl 0 rfl rfl ?_
        refine x_callWVV (ci := 5) (q0 := 0) (q := (RX7, TX7, 8)) C 59 118 (c_X7_scanNumber (xl x) (xD x) (xk x) (xg x) aT z8 _ h) rfl wwGood (mem4 wq_11_6 wq_11_7 wq_11_8 wq_1_15) wq_11_9 0 ok_X7_scanNumber rfl ⟨by decide, by decide⟩ (Nat.le_of_ble_eq_true rfl) ⟨Nat.le_refl _, Nat.le_refl _⟩ ⟨rfl, rfl⟩ rfl rfl rfl (fun u15 h => ?_)
        refine x_goto C 60 121 137 rfl rfl ?_
        exact x_vret C rt 68 137 rfl u15 rfl h
    · replace h := h.2 c11
      refine x_aload_n C 50 99 rfl 0 rfl rfl ?_
      refine x_callWVV (ci := 5) (q0 := 0) (q := (RX7, TX7, 8)) C 51 100 (c_X7_scanWord (xl x) (xD x) (xk x) (xg x) aT z8 _ h) rfl wwGood (mem4 wq_8_17 wq_8_18 wq_8_19 wq_1_15) wq_8_20 0 ok_X7_scanWord rfl ⟨by decide, by decide⟩ (Nat.le_of_ble_eq_true rfl) ⟨Nat.le_refl _, Nat.le_refl _⟩ ⟨rfl, rfl⟩ rfl rfl rfl (fun u16 h => ?_)
      refine x_goto C 52 103 137 rfl rfl ?_
      exact x_vret C rt 68 137 rfl u16 rfl h
  · replace h := h.2 c9
    refine x_aload_n C 37 72 rfl 0 rfl rfl ?_
    refine x_aload_n C 38 73 rfl 0 rfl rfl ?_
    refine x_get (v := .int (z8 1 0)) C 39 74 rfl fi_X7 0 rfl rfl 1 (by decide) (mc wq_6_12) rfl ?_
    obtain ⟨z17, ez17⟩ : ∃ z : St, z = us z8 5 (z8 1 0) := ⟨_, rfl⟩
    replace h := h z17 ez17
    refine x_put (ws' := fl [wdT (xk x) aT z17]) C 40 77 rfl fi_X7 tyX7 tyX7_ok nmX7 0 rfl rfl 5 (by decide) (mc wq_7_22) rfl rfl rfl (Nat.le_of_ble_eq_true rfl) (by rw [ez17]; rfl) ?_
    refine x_aload_n C 41 80 rfl 0 rfl rfl ?_
    refine x_iconst (v := (1 : Int32)) C 42 81 rfl (by decide) ?_
    obtain ⟨z18, ez18⟩ : ∃ z : St, z = us z17 3 (1 : Int32) := ⟨_, rfl⟩
    replace h := h z18 ez18
    refine x_put (ws' := fl [wdT (xk x) aT z18]) C 43 82 rfl fi_X7 tyX7 tyX7_ok nmX7 0 rfl rfl 3 (by decide) (mc wq_7_23) rfl rfl rfl (Nat.le_of_ble_eq_true rfl) (by rw [ez18]; rfl) ?_
    refine x_goto C 44 85 137 rfl rfl ?_
    exact x_vret C rt 68 137 rfl z18 rfl h
set_option maxHeartbeats 4000000 in
set_option maxRecDepth 100000 in
theorem w_X7_advance {x : CT} {aT : Nat → Nat} {sT : St} {K : St → Prop} (C : Cx x cX7_advance tb_X7_advance 1 RX7 (Cond.code yX7_advance cX7_advance 1 none :: wsL_law) ({ frames := 6, cells := 0, slots := 0, locals := 162 } : Room)) (rt : RetV x 0 0 (fun (u : St) => fl [wdT (xk x) aT u]) (fun (u : St) => K u)) (h : wp_X7_advance sT K) : Wx x 1 0 0 (fl [wdT (xk x) aT sT]) [(0, .ref (aT 0))] 0 [] := by
  unfold wp_X7_advance at h
  refine x_aload_n C 0 0 rfl 0 rfl rfl ?_
  refine x_aload_n C 1 1 rfl 0 rfl rfl ?_
  refine x_get (v := .int (sT 5 0)) C 2 2 rfl fi_X7 0 rfl rfl 5 (by decide) (mc wq_7_22) rfl ?_
  obtain ⟨z1, ez1⟩ : ∃ z : St, z = us sT 2 (sT 5 0) := ⟨_, rfl⟩
  replace h := h z1 ez1
  refine x_put (ws' := fl [wdT (xk x) aT z1]) C 3 5 rfl fi_X7 tyX7 tyX7_ok nmX7 0 rfl rfl 2 (by decide) (mc wq_8_1) rfl rfl rfl (Nat.le_of_ble_eq_true rfl) (by rw [ez1]; rfl) ?_
  refine x_sub (lv' := [(0, .ref (aT 0))]) [0] rfl (w_X7_advance_8 C rt (fun q6 h => ?_) h)
  · exact x_sub (lv' := [(0, .ref (aT 0))]) [0] rfl (wj_X7_advance_46 C rt h)
theorem c_X7_advance (l : Launch) (D : va_G) (k : ClassId × ClassId) (g : Nat → Nat) (aT : Nat → Nat) (sT : St) (K : St → Prop) (h : wp_X7_advance sT K) : ConV l yX7_advance (Cond.code yX7_advance cX7_advance 1 none :: wsL_law) ({ frames := 6, cells := 0, slots := 0, locals := 162 } : Room) D k g [.ref (aT 0)] (fl [wdT k aT sT]) (fun (u : St) => fl [wdT k aT u]) (fun (u : St) => K u) := by
  refine ConV.of (tb := tb_X7_advance) (cc := cX7_advance) (nL := 1) (by decide) rfl tbk_X7_advance (Nat.le_of_ble_eq_true rfl) ?_
  intro x hl hD hk hg C rt
  subst hl hD hk hg
  exact w_X7_advance C rt h
set_option maxHeartbeats 4000000 in
set_option maxRecDepth 100000 in
theorem w_X7_stands {x : CT} {aT : Nat → Nat} {sT : St} {p1 : Int32} {K : Int32 → St → Prop} (C : Cx x cX7_stands tb_X7_stands 2 RX7 (Cond.code yX7_stands cX7_stands 2 (some .boolean) :: wsL_law) ({ frames := 0, cells := 0, slots := 0, locals := 0 } : Room)) (rt : RetZ x 0 0 (fun (u : St) => fl [wdT (xk x) aT u]) (fun (r : Int32) (u : St) => K r u)) (h : wp_X7_stands sT p1 K) : Wx x 2 0 0 (fl [wdT (xk x) aT sT]) [(0, .ref (aT 0)), (1, .int p1)] 0 [] := by
  unfold wp_X7_stands at h
  refine x_iload_n C 0 0 rfl 1 rfl rfl ?_
  refine x_if_ne C 1 1 12 rfl rfl (fun c1 => ?_) (fun c1 => ?_)
  · replace h := h.2 c1
    refine x_iload_n C 6 12 rfl 1 rfl rfl ?_
    exact x_zret C rt 7 13 rfl h.1 sT rfl h.2
  · replace h := h.1 c1
    refine x_aload_n C 2 4 rfl 0 rfl rfl ?_
    refine x_aload_n C 3 5 rfl 0 rfl rfl ?_
    refine x_get (v := .int (sT 2 0)) C 4 6 rfl fi_X7 0 rfl rfl 2 (by decide) (mc wq_8_1) rfl ?_
    obtain ⟨z2, ez2⟩ : ∃ z : St, z = us sT 7 (sT 2 0) := ⟨_, rfl⟩
    replace h := h z2 ez2
    refine x_put (ws' := fl [wdT (xk x) aT z2]) C 5 9 rfl fi_X7 tyX7 tyX7_ok nmX7 0 rfl rfl 7 (by decide) (mc wq_7_21) rfl rfl rfl (Nat.le_of_ble_eq_true rfl) (by rw [ez2]; rfl) ?_
    refine x_iload_n C 6 12 rfl 1 rfl rfl ?_
    exact x_zret C rt 7 13 rfl h.1 z2 rfl h.2
theorem c_X7_stands (l : Launch) (D : va_G) (k : ClassId × ClassId) (g : Nat → Nat) (aT : Nat → Nat) (sT : St) (p1 : Int32) (K : Int32 → St → Prop) (h : wp_X7_stands sT p1 K) : ConZ l yX7_stands (Cond.code yX7_stands cX7_stands 2 (some .boolean) :: wsL_law) ({ frames := 0, cells := 0, slots := 0, locals := 0 } : Room) D k g [.ref (aT 0), .int p1] (fl [wdT k aT sT]) (fun (u : St) => fl [wdT k aT u]) (fun (r : Int32) (u : St) => K r u) := by
  refine ConZ.of (tb := tb_X7_stands) (cc := cX7_stands) (nL := 2) (by decide) rfl tbk_X7_stands (Nat.le_of_ble_eq_true rfl) ?_
  intro x hl hD hk hg C rt
  subst hl hD hk hg
  exact w_X7_stands C rt h
set_option maxHeartbeats 4000000 in
set_option maxRecDepth 100000 in
theorem wj_X7_readAct_115 {x : CT} {aT aB : Nat → Nat} {sT : St} {sB : St} {t1 : Int32} {K : (St × St) → Prop} (C : Cx x cX7_readAct tb_X7_readAct 3 RX7 (Cond.code yX7_readAct cX7_readAct 3 none :: wsL_law) ({ frames := 7, cells := 0, slots := 0, locals := 182 } : Room)) (rt : RetV x 0 0 (fun (u : St × St) => fl [wdT (xk x) aT u.1, wdB (xk x) aB u.2]) (fun (u : St × St) => K u))  (h : J_X7_readAct_115 sT sB t1 K) : Wx x 3 0 0 (fl [wdT (xk x) aT sT, wdB (xk x) aB sB]) [(0, .ref (aT 0))] 115 [.int t1, .ref (aT 0)] := by
  unfold J_X7_readAct_115 at h
  refine x_callGVZ (ci := 5) (q0 := 0) (q := (RX7, TX7, 8)) C 64 115 (c_X7_stands (xl x) (xD x) (xk x) (xg x) aT sT t1 _ h) rfl wwGood (mem4 wq_11_19 wq_11_20 wq_11_21 wq_1_15) wq_11_22 1 ok_X7_stands rfl ⟨by decide, by decide⟩ (Nat.le_of_ble_eq_true rfl) ⟨Nat.le_refl _, Nat.le_refl _⟩ ⟨rfl, rfl⟩ rfl rfl [wdB (xk x) aB sB] (fun (u : St) => [wdT (xk x) aT u, wdB (xk x) aB sB]) [1, 0] [1, 0] (show List.Perm [1, 0] (List.range 2) by decide) rfl 2 (fun _ => rfl) (by decide) (fun _ => rfl) (fun r14 u14 h => ?_)
  refine x_if_eq C 65 118 125 rfl rfl (fun c15 => ?_) (fun c15 => ?_)
  · replace h := h.1 c15
    exact x_vret C rt 68 125 rfl (u14, sB) rfl h
  · replace h := h.2 c15
    refine x_aload_n C 66 121 rfl 0 rfl rfl ?_
    refine x_callGVV (ci := 5) (q0 := 0) (q := (RX7, TX7, 8)) C 67 122 (c_X7_advance (xl x) (xD x) (xk x) (xg x) aT u14 _ h) rfl wwGood (mem4 wq_8_8 wq_8_9 wq_8_10 wq_1_15) wq_8_11 0 ok_X7_advance rfl ⟨by decide, by decide⟩ (Nat.le_of_ble_eq_true rfl) ⟨Nat.le_refl _, Nat.le_refl _⟩ ⟨rfl, rfl⟩ rfl rfl [wdB (xk x) aB sB] (fun (u : St) => [wdT (xk x) aT u, wdB (xk x) aB sB]) [1, 0] [1, 0] (show List.Perm [1, 0] (List.range 2) by decide) rfl 2 (fun _ => rfl) (by decide) (fun _ => rfl) (fun u16 h => ?_)
    exact x_vret C rt 68 125 rfl (u16, sB) rfl h
set_option maxHeartbeats 4000000 in
set_option maxRecDepth 100000 in
theorem wj_X7_readAct_79 {x : CT} {aT aB : Nat → Nat} {sT : St} {sB : St} {x2 : Int32} {t1 : Int32} {K : (St × St) → Prop} (C : Cx x cX7_readAct tb_X7_readAct 3 RX7 (Cond.code yX7_readAct cX7_readAct 3 none :: wsL_law) ({ frames := 7, cells := 0, slots := 0, locals := 182 } : Room)) (rt : RetV x 0 0 (fun (u : St × St) => fl [wdT (xk x) aT u.1, wdB (xk x) aB u.2]) (fun (u : St × St) => K u))  (h : J_X7_readAct_79 sT sB x2 t1 K) : Wx x 3 0 0 (fl [wdT (xk x) aT sT, wdB (xk x) aB sB]) [(0, .ref (aT 0)), (1, .ref (aB 0)), (2, .int x2)] 79 [.int t1, .ref (aT 0)] := by
  unfold J_X7_readAct_79 at h
  refine x_callGVZ (ci := 5) (q0 := 0) (q := (RX7, TX7, 8)) C 45 79 (c_X7_stands (xl x) (xD x) (xk x) (xg x) aT sT t1 _ h) rfl wwGood (mem4 wq_11_19 wq_11_20 wq_11_21 wq_1_15) wq_11_22 1 ok_X7_stands rfl ⟨by decide, by decide⟩ (Nat.le_of_ble_eq_true rfl) ⟨Nat.le_refl _, Nat.le_refl _⟩ ⟨rfl, rfl⟩ rfl rfl [wdB (xk x) aB sB] (fun (u : St) => [wdT (xk x) aT u, wdB (xk x) aB sB]) [1, 0] [1, 0] (show List.Perm [1, 0] (List.range 2) by decide) rfl 2 (fun _ => rfl) (by decide) (fun _ => rfl) (fun r9 u9 h => ?_)
  refine x_if_ne C 46 82 86 rfl rfl (fun c10 => ?_) (fun c10 => ?_)
  · replace h := h.2 c10
    refine x_aload_n C 48 86 rfl 1 rfl rfl ?_
    refine x_get (v := .ref (aB 1)) C 49 87 rfl fi_X1 2 rfl rfl 0 (by decide) (mc wq_11_18) rfl ?_
    refine x_iload_n C 50 90 rfl 2 rfl rfl ?_
    refine x_aload_n C 51 91 rfl 0 rfl rfl ?_
    refine x_get (v := .int (u9 4 0)) C 52 92 rfl fi_X7 0 rfl rfl 4 (by decide) (mc wq_8_12) rfl ?_
    obtain ⟨hi, h⟩ := h
    obtain ⟨z11, ez11⟩ : ∃ z : St, z = ua sB 0 x2 (u9 4 0) := ⟨_, rfl⟩
    replace h := h z11 ez11
    refine x_iast (f := sB 0) (ws' := fl [wdT (xk x) aT u9, wdB (xk x) aB z11]) C 53 95 rfl 3 rfl hi (by rw [ez11]; rfl) ?_
    refine x_aload_n C 54 96 rfl 0 rfl rfl ?_
    refine x_callGVV (ci := 5) (q0 := 0) (q := (RX7, TX7, 8)) C 55 97 (c_X7_advance (xl x) (xD x) (xk x) (xg x) aT u9 _ h) rfl wwGood (mem4 wq_8_8 wq_8_9 wq_8_10 wq_1_15) wq_8_11 0 ok_X7_advance rfl ⟨by decide, by decide⟩ (Nat.le_of_ble_eq_true rfl) ⟨Nat.le_refl _, Nat.le_refl _⟩ ⟨rfl, rfl⟩ rfl rfl [wdB (xk x) aB z11] (fun (u : St) => [wdT (xk x) aT u, wdB (xk x) aB z11]) [1, 0] [1, 0] (show List.Perm [1, 0] (List.range 2) by decide) rfl 2 (fun _ => rfl) (by decide) (fun _ => rfl) (fun u12 h => ?_)
    refine x_aload_n C 56 100 rfl 0 rfl rfl ?_
    refine x_aload_n C 57 101 rfl 0 rfl rfl ?_
    refine x_get (v := .int (u12 3 0)) C 58 102 rfl fi_X7 0 rfl rfl 3 (by decide) (mc wq_7_23) rfl ?_
    refine x_bipush (v := (8 : Int32)) C 59 105 rfl (by decide) ?_
    refine x_icmp_ne C 60 107 114 rfl rfl (fun c13 => ?_) (fun c13 => ?_)
    · replace h := h.2 c13
      refine x_iconst (v := (0 : Int32)) C 63 114 rfl (by decide) ?_
      exact x_sub (lv' := [(0, .ref (aT 0))]) [0] rfl (wj_X7_readAct_115 C rt h)
    · replace h := h.1 c13
      refine x_iconst (v := (1 : Int32)) C 61 110 rfl (by decide) ?_
      refine x_goto C 62 111 115 rfl rfl ?_
      exact x_sub (lv' := [(0, .ref (aT 0))]) [0] rfl (wj_X7_readAct_115 C rt h)
  · replace h := h.1 c10
    exact x_vret C rt 47 85 rfl (u9, sB) rfl h
set_option maxHeartbeats 4000000 in
set_option maxRecDepth 100000 in
theorem wj_X7_readAct_78 {x : CT} {aT aB : Nat → Nat} {sT : St} {sB : St} {x2 : Int32} {K : (St × St) → Prop} (C : Cx x cX7_readAct tb_X7_readAct 3 RX7 (Cond.code yX7_readAct cX7_readAct 3 none :: wsL_law) ({ frames := 7, cells := 0, slots := 0, locals := 182 } : Room)) (rt : RetV x 0 0 (fun (u : St × St) => fl [wdT (xk x) aT u.1, wdB (xk x) aB u.2]) (fun (u : St × St) => K u))  (h : J_X7_readAct_78 sT sB x2 K) : Wx x 3 0 0 (fl [wdT (xk x) aT sT, wdB (xk x) aB sB]) [(0, .ref (aT 0)), (1, .ref (aB 0)), (2, .int x2)] 78 [.ref (aT 0)] := by
  unfold J_X7_readAct_78 at h
  refine x_iconst (v := (0 : Int32)) C 44 78 rfl (by decide) ?_
  exact x_sub (lv' := [(0, .ref (aT 0)), (1, .ref (aB 0)), (2, .int x2)]) [0, 1, 2] rfl (wj_X7_readAct_79 C rt h)
set_option maxHeartbeats 4000000 in
set_option maxRecDepth 100000 in
theorem wj_X7_readAct_34 {x : CT} {aT aB : Nat → Nat} {sT : St} {sB : St} {x2 : Int32} {t1 : Int32} {K : (St × St) → Prop} (C : Cx x cX7_readAct tb_X7_readAct 3 RX7 (Cond.code yX7_readAct cX7_readAct 3 none :: wsL_law) ({ frames := 7, cells := 0, slots := 0, locals := 182 } : Room)) (rt : RetV x 0 0 (fun (u : St × St) => fl [wdT (xk x) aT u.1, wdB (xk x) aB u.2]) (fun (u : St × St) => K u))  (h : J_X7_readAct_34 sT sB x2 t1 K) : Wx x 3 0 0 (fl [wdT (xk x) aT sT, wdB (xk x) aB sB]) [(0, .ref (aT 0)), (1, .ref (aB 0)), (2, .int x2)] 34 [.int t1, .ref (aT 0)] := by
  unfold J_X7_readAct_34 at h
  refine x_callGVZ (ci := 5) (q0 := 0) (q := (RX7, TX7, 8)) C 20 34 (c_X7_stands (xl x) (xD x) (xk x) (xg x) aT sT t1 _ h) rfl wwGood (mem4 wq_11_19 wq_11_20 wq_11_21 wq_1_15) wq_11_22 1 ok_X7_stands rfl ⟨by decide, by decide⟩ (Nat.le_of_ble_eq_true rfl) ⟨Nat.le_refl _, Nat.le_refl _⟩ ⟨rfl, rfl⟩ rfl rfl [wdB (xk x) aB sB] (fun (u : St) => [wdT (xk x) aT u, wdB (xk x) aB sB]) [1, 0] [1, 0] (show List.Perm [1, 0] (List.range 2) by decide) rfl 2 (fun _ => rfl) (by decide) (fun _ => rfl) (fun r4 u4 h => ?_)
  refine x_if_ne C 21 37 41 rfl rfl (fun c5 => ?_) (fun c5 => ?_)
  · replace h := h.2 c5
    refine x_aload_n C 23 41 rfl 0 rfl rfl ?_
    refine x_dup C 24 42 rfl rfl ?_
    refine x_get (v := .int (u4 6 0)) C 25 43 rfl fi_X7 0 rfl rfl 6 (by decide) (mc wq_7_20) rfl ?_
    refine x_iconst (v := (1 : Int32)) C 26 46 rfl (by decide) ?_
    refine x_iload_n C 27 47 rfl 2 rfl rfl ?_
    refine x_ishl C 28 48 rfl ?_
    refine x_ior C 29 49 rfl ?_
    obtain ⟨z6, ez6⟩ : ∃ z : St, z = us u4 6 (u4 6 0 ||| ((1 : Int32) <<< (x2 &&& 31))) := ⟨_, rfl⟩
    replace h := h z6 ez6
    refine x_put (ws' := fl [wdT (xk x) aT z6, wdB (xk x) aB sB]) C 30 50 rfl fi_X7 tyX7 tyX7_ok nmX7 0 rfl rfl 6 (by decide) (mc wq_7_20) rfl rfl rfl (Nat.le_of_ble_eq_true rfl) (by rw [ez6]; rfl) ?_
    refine x_aload_n C 31 53 rfl 0 rfl rfl ?_
    refine x_callGVV (ci := 5) (q0 := 0) (q := (RX7, TX7, 8)) C 32 54 (c_X7_advance (xl x) (xD x) (xk x) (xg x) aT z6 _ h) rfl wwGood (mem4 wq_8_8 wq_8_9 wq_8_10 wq_1_15) wq_8_11 0 ok_X7_advance rfl ⟨by decide, by decide⟩ (Nat.le_of_ble_eq_true rfl) ⟨Nat.le_refl _, Nat.le_refl _⟩ ⟨rfl, rfl⟩ rfl rfl [wdB (xk x) aB sB] (fun (u : St) => [wdT (xk x) aT u, wdB (xk x) aB sB]) [1, 0] [1, 0] (show List.Perm [1, 0] (List.range 2) by decide) rfl 2 (fun _ => rfl) (by decide) (fun _ => rfl) (fun u7 h => ?_)
    refine x_aload_n C 33 57 rfl 0 rfl rfl ?_
    refine x_aload_n C 34 58 rfl 0 rfl rfl ?_
    refine x_get (v := .int (u7 3 0)) C 35 59 rfl fi_X7 0 rfl rfl 3 (by decide) (mc wq_7_23) rfl ?_
    refine x_iconst (v := (5 : Int32)) C 36 62 rfl (by decide) ?_
    refine x_icmp_ne C 37 63 78 rfl rfl (fun c8 => ?_) (fun c8 => ?_)
    · replace h := h.2 c8
      exact x_sub (lv' := [(0, .ref (aT 0)), (1, .ref (aB 0)), (2, .int x2)]) [0, 1, 2] rfl (wj_X7_readAct_78 C rt h)
    · replace h := h.1 c8
      refine x_aload_n C 38 66 rfl 0 rfl rfl ?_
      refine x_get (v := .int (u7 4 0)) C 39 67 rfl fi_X7 0 rfl rfl 4 (by decide) (mc wq_8_12) rfl ?_
      refine x_iconst (v := (3 : Int32)) C 40 70 rfl (by decide) ?_
      refine x_icmp_gt C 41 71 78 rfl rfl (fun c17 => ?_) (fun c17 => ?_)
      · replace h := h.1 c17
        exact x_sub (lv' := [(0, .ref (aT 0)), (1, .ref (aB 0)), (2, .int x2)]) [0, 1, 2] rfl (wj_X7_readAct_78 C rt h)
      · replace h := h.2 c17
        refine x_iconst (v := (1 : Int32)) C 42 74 rfl (by decide) ?_
        refine x_goto C 43 75 79 rfl rfl ?_
        exact x_sub (lv' := [(0, .ref (aT 0)), (1, .ref (aB 0)), (2, .int x2)]) [0, 1, 2] rfl (wj_X7_readAct_79 C rt h)
  · replace h := h.1 c5
    exact x_vret C rt 22 40 rfl (u4, sB) rfl h
set_option maxHeartbeats 4000000 in
set_option maxRecDepth 100000 in
theorem wj_X7_readAct_33 {x : CT} {aT aB : Nat → Nat} {sT : St} {sB : St} {x2 : Int32} {K : (St × St) → Prop} (C : Cx x cX7_readAct tb_X7_readAct 3 RX7 (Cond.code yX7_readAct cX7_readAct 3 none :: wsL_law) ({ frames := 7, cells := 0, slots := 0, locals := 182 } : Room)) (rt : RetV x 0 0 (fun (u : St × St) => fl [wdT (xk x) aT u.1, wdB (xk x) aB u.2]) (fun (u : St × St) => K u))  (h : J_X7_readAct_33 sT sB x2 K) : Wx x 3 0 0 (fl [wdT (xk x) aT sT, wdB (xk x) aB sB]) [(0, .ref (aT 0)), (1, .ref (aB 0)), (2, .int x2)] 33 [.ref (aT 0)] := by
  unfold J_X7_readAct_33 at h
  refine x_iconst (v := (0 : Int32)) C 19 33 rfl (by decide) ?_
  exact x_sub (lv' := [(0, .ref (aT 0)), (1, .ref (aB 0)), (2, .int x2)]) [0, 1, 2] rfl (wj_X7_readAct_34 C rt h)
set_option maxHeartbeats 4000000 in
set_option maxRecDepth 100000 in
theorem w_X7_readAct {x : CT} {aT aB : Nat → Nat} {sT : St} {sB : St} {K : (St × St) → Prop} (C : Cx x cX7_readAct tb_X7_readAct 3 RX7 (Cond.code yX7_readAct cX7_readAct 3 none :: wsL_law) ({ frames := 7, cells := 0, slots := 0, locals := 182 } : Room)) (rt : RetV x 0 0 (fun (u : St × St) => fl [wdT (xk x) aT u.1, wdB (xk x) aB u.2]) (fun (u : St × St) => K u)) (h : wp_X7_readAct sT sB K) : Wx x 3 0 0 (fl [wdT (xk x) aT sT, wdB (xk x) aB sB]) [(0, .ref (aT 0)), (1, .ref (aB 0))] 0 [] := by
  unfold wp_X7_readAct at h
  refine x_aload_n C 0 0 rfl 0 rfl rfl ?_
  refine x_callGVV (ci := 5) (q0 := 0) (q := (RX7, TX7, 8)) C 1 1 (c_X7_advance (xl x) (xD x) (xk x) (xg x) aT sT _ h) rfl wwGood (mem4 wq_8_8 wq_8_9 wq_8_10 wq_1_15) wq_8_11 0 ok_X7_advance rfl ⟨by decide, by decide⟩ (Nat.le_of_ble_eq_true rfl) ⟨Nat.le_refl _, Nat.le_refl _⟩ ⟨rfl, rfl⟩ rfl rfl [wdB (xk x) aB sB] (fun (u : St) => [wdT (xk x) aT u, wdB (xk x) aB sB]) [1, 0] [1, 0] (show List.Perm [1, 0] (List.range 2) by decide) rfl 2 (fun _ => rfl) (by decide) (fun _ => rfl) (fun u1 h => ?_)
  refine x_aload_n C 2 4 rfl 0 rfl rfl ?_
  refine x_get (v := .int (u1 4 0)) C 3 5 rfl fi_X7 0 rfl rfl 4 (by decide) (mc wq_8_12) rfl ?_
  refine x_topi (fun y2 ey2 => ?_)
  replace h := h y2 ey2
  refine x_istore_n (lv' := [(0, .ref (aT 0)), (1, .ref (aB 0)), (2, .int y2)]) C 4 8 rfl rfl (by decide) [1, 2, 0] rfl ?_
  refine x_aload_n C 5 9 rfl 0 rfl rfl ?_
  refine x_aload_n C 6 10 rfl 0 rfl rfl ?_
  refine x_get (v := .int (u1 3 0)) C 7 11 rfl fi_X7 0 rfl rfl 3 (by decide) (mc wq_7_23) rfl ?_
  refine x_iconst (v := (4 : Int32)) C 8 14 rfl (by decide) ?_
  refine x_icmp_ne C 9 15 33 rfl rfl (fun c3 => ?_) (fun c3 => ?_)
  · replace h := h.2 c3
    exact x_sub (lv' := [(0, .ref (aT 0)), (1, .ref (aB 0)), (2, .int y2)]) [0, 1, 2] rfl (wj_X7_readAct_33 C rt h)
  · replace h := h.1 c3
    refine x_aload_n C 10 18 rfl 0 rfl rfl ?_
    refine x_get (v := .int (u1 6 0)) C 11 19 rfl fi_X7 0 rfl rfl 6 (by decide) (mc wq_7_20) rfl ?_
    refine x_iload_n C 12 22 rfl 2 rfl rfl ?_
    refine x_ishr C 13 23 rfl ?_
    refine x_iconst (v := (1 : Int32)) C 14 24 rfl (by decide) ?_
    refine x_iand C 15 25 rfl ?_
    refine x_if_ne C 16 26 33 rfl rfl (fun c18 => ?_) (fun c18 => ?_)
    · replace h := h.2 c18
      exact x_sub (lv' := [(0, .ref (aT 0)), (1, .ref (aB 0)), (2, .int y2)]) [0, 1, 2] rfl (wj_X7_readAct_33 C rt h)
    · replace h := h.1 c18
      refine x_iconst (v := (1 : Int32)) C 17 29 rfl (by decide) ?_
      refine x_goto C 18 30 34 rfl rfl ?_
      exact x_sub (lv' := [(0, .ref (aT 0)), (1, .ref (aB 0)), (2, .int y2)]) [0, 1, 2] rfl (wj_X7_readAct_34 C rt h)
theorem c_X7_readAct (l : Launch) (D : va_G) (k : ClassId × ClassId) (g : Nat → Nat) (aT aB : Nat → Nat) (sT : St) (sB : St) (K : (St × St) → Prop) (h : wp_X7_readAct sT sB K) : ConV l yX7_readAct (Cond.code yX7_readAct cX7_readAct 3 none :: wsL_law) ({ frames := 7, cells := 0, slots := 0, locals := 182 } : Room) D k g [.ref (aT 0), .ref (aB 0)] (fl [wdT k aT sT, wdB k aB sB]) (fun (u : St × St) => fl [wdT k aT u.1, wdB k aB u.2]) (fun (u : St × St) => K u) := by
  refine ConV.of (tb := tb_X7_readAct) (cc := cX7_readAct) (nL := 3) (by decide) rfl tbk_X7_readAct (Nat.le_of_ble_eq_true rfl) ?_
  intro x hl hD hk hg C rt
  subst hl hD hk hg
  exact w_X7_readAct C rt h
set_option maxHeartbeats 4000000 in
set_option maxRecDepth 100000 in
theorem wj_X7_readArc_132 {x : CT} {aT aB : Nat → Nat} {sT : St} {sB : St} {x2 : Int32} {x3 : Int32} {x4 : Int32} {x5 : Int32} {t1 : Int32} {K : (St × St) → Prop} (C : Cx x cX7_readArc tb_X7_readArc 7 RX7 (Cond.code yX7_readArc cX7_readArc 7 none :: wsL_law) ({ frames := 7, cells := 0, slots := 0, locals := 182 } : Room)) (rt : RetV x 0 0 (fun (u : St × St) => fl [wdT (xk x) aT u.1, wdB (xk x) aB u.2]) (fun (u : St × St) => K u))  (h : J_X7_readArc_132 sT sB x2 x3 x4 x5 t1 K) : Wx x 7 0 0 (fl [wdT (xk x) aT sT, wdB (xk x) aB sB]) [(0, .ref (aT 0)), (1, .ref (aB 0)), (2, .int x2), (3, .int x3), (4, .int x4), (5, .int x5)] 132 [.int t1, .ref (aT 0)] := by
  unfold J_X7_readArc_132 at h
  refine x_callGVZ (ci := 5) (q0 := 0) (q := (RX7, TX7, 8)) C 70 132 (c_X7_stands (xl x) (xD x) (xk x) (xg x) aT sT t1 _ h) rfl wwGood (mem4 wq_11_19 wq_11_20 wq_11_21 wq_1_15) wq_11_22 1 ok_X7_stands rfl ⟨by decide, by decide⟩ (Nat.le_of_ble_eq_true rfl) ⟨Nat.le_refl _, Nat.le_refl _⟩ ⟨rfl, rfl⟩ rfl rfl [wdB (xk x) aB sB] (fun (u : St) => [wdT (xk x) aT u, wdB (xk x) aB sB]) [1, 0] [1, 0] (show List.Perm [1, 0] (List.range 2) by decide) rfl 2 (fun _ => rfl) (by decide) (fun _ => rfl) (fun r13 u13 h => ?_)
  refine x_if_ne C 71 135 139 rfl rfl (fun c14 => ?_) (fun c14 => ?_)
  · replace h := h.2 c14
    refine x_aload_n C 73 139 rfl 1 rfl rfl ?_
    refine x_get (v := .ref (aB 4)) C 74 140 rfl fi_X1 2 rfl rfl 3 (by decide) (mc wq_12_13) rfl ?_
    refine x_iload_n C 75 143 rfl 2 rfl rfl ?_
    obtain ⟨hi, h⟩ := h
    refine x_iald (f := sB 3) C 76 144 rfl 6 rfl hi ?_
    refine x_iload_n C 77 145 rfl 3 rfl rfl ?_
    refine x_iload C 78 146 rfl 5 rfl ?_
    refine x_call0SI C 79 148 (c_X0_at (xl x) (xD x) (xk x) (xg x) (sB 3 x2.toNatClampNeg) x3 x5 _ h) rfl wwGood (mem3 wq_12_18 wq_12_19 wq_12_20) wq_12_21 3 ok_X0_at rfl ⟨by decide, by decide⟩ (Nat.le_of_ble_eq_true rfl) ⟨Nat.le_refl _, Nat.le_refl _⟩ ⟨rfl, rfl⟩ rfl (fun r15 _ h => ?_)
    refine x_istore (lv' := [(0, .ref (aT 0)), (1, .ref (aB 0)), (2, .int x2), (3, .int x3), (4, .int x4), (5, .int x5), (6, .int r15)]) C 80 151 rfl (by decide) [1, 2, 3, 4, 5, 6, 0] rfl ?_
    refine x_aload_n C 81 153 rfl 1 rfl rfl ?_
    refine x_get (v := .ref (aB 4)) C 82 154 rfl fi_X1 2 rfl rfl 3 (by decide) (mc wq_12_13) rfl ?_
    refine x_iload_n C 83 157 rfl 2 rfl rfl ?_
    refine x_aload_n C 84 158 rfl 1 rfl rfl ?_
    refine x_get (v := .ref (aB 4)) C 85 159 rfl fi_X1 2 rfl rfl 3 (by decide) (mc wq_12_13) rfl ?_
    refine x_iload_n C 86 162 rfl 2 rfl rfl ?_
    obtain ⟨hi, h⟩ := h
    refine x_iald (f := sB 3) C 87 163 rfl 6 rfl hi ?_
    refine x_iload_n C 88 164 rfl 3 rfl rfl ?_
    refine x_iload C 89 165 rfl 5 rfl ?_
    refine x_iload C 90 167 rfl 6 rfl ?_
    refine x_iload C 91 169 rfl 4 rfl ?_
    refine x_max C 92 171 rfl (mc wq_12_14) (mc wq_12_15) (mc wq_12_16) (mc wq_12_17) ⟨by decide, Nat.le_of_ble_eq_true rfl⟩ ⟨Nat.le_refl _, Nat.le_refl _⟩ ?_
    refine x_call0SI C 93 174 (c_X0_with (xl x) (xD x) (xk x) (xg x) (sB 3 x2.toNatClampNeg) x3 x5 (if r15 < x4 then x4 else r15) _ h) rfl wwGood (mem3 wq_12_22 wq_12_23 wq_12_20) wq_13_0 4 ok_X0_with rfl ⟨by decide, by decide⟩ (Nat.le_of_ble_eq_true rfl) ⟨Nat.le_refl _, Nat.le_refl _⟩ ⟨rfl, rfl⟩ rfl (fun r16 _ h => ?_)
    obtain ⟨hi, h⟩ := h
    obtain ⟨z17, ez17⟩ : ∃ z : St, z = ua sB 3 x2 r16 := ⟨_, rfl⟩
    replace h := h z17 ez17
    refine x_iast (f := sB 3) (ws' := fl [wdT (xk x) aT u13, wdB (xk x) aB z17]) C 94 177 rfl 6 rfl hi (by rw [ez17]; rfl) ?_
    refine x_aload_n C 95 178 rfl 0 rfl rfl ?_
    refine x_callGVV (ci := 5) (q0 := 0) (q := (RX7, TX7, 8)) C 96 179 (c_X7_advance (xl x) (xD x) (xk x) (xg x) aT u13 _ h) rfl wwGood (mem4 wq_8_8 wq_8_9 wq_8_10 wq_1_15) wq_8_11 0 ok_X7_advance rfl ⟨by decide, by decide⟩ (Nat.le_of_ble_eq_true rfl) ⟨Nat.le_refl _, Nat.le_refl _⟩ ⟨rfl, rfl⟩ rfl rfl [wdB (xk x) aB z17] (fun (u : St) => [wdT (xk x) aT u, wdB (xk x) aB z17]) [1, 0] [1, 0] (show List.Perm [1, 0] (List.range 2) by decide) rfl 2 (fun _ => rfl) (by decide) (fun _ => rfl) (fun u18 h => ?_)
    exact x_vret C rt 97 182 rfl (u18, z17) rfl h
  · replace h := h.1 c14
    exact x_vret C rt 72 138 rfl (u13, sB) rfl h
set_option maxHeartbeats 4000000 in
set_option maxRecDepth 100000 in
theorem wj_X7_readArc_131 {x : CT} {aT aB : Nat → Nat} {sT : St} {sB : St} {x2 : Int32} {x3 : Int32} {x4 : Int32} {x5 : Int32} {K : (St × St) → Prop} (C : Cx x cX7_readArc tb_X7_readArc 7 RX7 (Cond.code yX7_readArc cX7_readArc 7 none :: wsL_law) ({ frames := 7, cells := 0, slots := 0, locals := 182 } : Room)) (rt : RetV x 0 0 (fun (u : St × St) => fl [wdT (xk x) aT u.1, wdB (xk x) aB u.2]) (fun (u : St × St) => K u))  (h : J_X7_readArc_131 sT sB x2 x3 x4 x5 K) : Wx x 7 0 0 (fl [wdT (xk x) aT sT, wdB (xk x) aB sB]) [(0, .ref (aT 0)), (1, .ref (aB 0)), (2, .int x2), (3, .int x3), (4, .int x4), (5, .int x5)] 131 [.ref (aT 0)] := by
  unfold J_X7_readArc_131 at h
  refine x_iconst (v := (0 : Int32)) C 69 131 rfl (by decide) ?_
  exact x_sub (lv' := [(0, .ref (aT 0)), (1, .ref (aB 0)), (2, .int x2), (3, .int x3), (4, .int x4), (5, .int x5)]) [0, 1, 2, 3, 4, 5] rfl (wj_X7_readArc_132 C rt h)
set_option maxHeartbeats 4000000 in
set_option maxRecDepth 100000 in
theorem wj_X7_readArc_85 {x : CT} {aT aB : Nat → Nat} {sT : St} {sB : St} {x2 : Int32} {x3 : Int32} {x4 : Int32} {t1 : Int32} {K : (St × St) → Prop} (C : Cx x cX7_readArc tb_X7_readArc 7 RX7 (Cond.code yX7_readArc cX7_readArc 7 none :: wsL_law) ({ frames := 7, cells := 0, slots := 0, locals := 182 } : Room)) (rt : RetV x 0 0 (fun (u : St × St) => fl [wdT (xk x) aT u.1, wdB (xk x) aB u.2]) (fun (u : St × St) => K u))  (h : J_X7_readArc_85 sT sB x2 x3 x4 t1 K) : Wx x 7 0 0 (fl [wdT (xk x) aT sT, wdB (xk x) aB sB]) [(0, .ref (aT 0)), (1, .ref (aB 0)), (2, .int x2), (3, .int x3), (4, .int x4)] 85 [.int t1, .ref (aT 0)] := by
  unfold J_X7_readArc_85 at h
  refine x_callGVZ (ci := 5) (q0 := 0) (q := (RX7, TX7, 8)) C 45 85 (c_X7_stands (xl x) (xD x) (xk x) (xg x) aT sT t1 _ h) rfl wwGood (mem4 wq_11_19 wq_11_20 wq_11_21 wq_1_15) wq_11_22 1 ok_X7_stands rfl ⟨by decide, by decide⟩ (Nat.le_of_ble_eq_true rfl) ⟨Nat.le_refl _, Nat.le_refl _⟩ ⟨rfl, rfl⟩ rfl rfl [wdB (xk x) aB sB] (fun (u : St) => [wdT (xk x) aT u, wdB (xk x) aB sB]) [1, 0] [1, 0] (show List.Perm [1, 0] (List.range 2) by decide) rfl 2 (fun _ => rfl) (by decide) (fun _ => rfl) (fun r8 u8 h => ?_)
  refine x_if_ne C 46 88 92 rfl rfl (fun c9 => ?_) (fun c9 => ?_)
  · replace h := h.2 c9
    refine x_aload_n C 48 92 rfl 0 rfl rfl ?_
    refine x_callGVV (ci := 5) (q0 := 0) (q := (RX7, TX7, 8)) C 49 93 (c_X7_advance (xl x) (xD x) (xk x) (xg x) aT u8 _ h) rfl wwGood (mem4 wq_8_8 wq_8_9 wq_8_10 wq_1_15) wq_8_11 0 ok_X7_advance rfl ⟨by decide, by decide⟩ (Nat.le_of_ble_eq_true rfl) ⟨Nat.le_refl _, Nat.le_refl _⟩ ⟨rfl, rfl⟩ rfl rfl [wdB (xk x) aB sB] (fun (u : St) => [wdT (xk x) aT u, wdB (xk x) aB sB]) [1, 0] [1, 0] (show List.Perm [1, 0] (List.range 2) by decide) rfl 2 (fun _ => rfl) (by decide) (fun _ => rfl) (fun u10 h => ?_)
    refine x_aload_n C 50 96 rfl 0 rfl rfl ?_
    refine x_get (v := .int (u10 4 0)) C 51 97 rfl fi_X7 0 rfl rfl 4 (by decide) (mc wq_8_12) rfl ?_
    refine x_topi (fun y11 ey11 => ?_)
    replace h := h y11 ey11
    refine x_istore (lv' := [(0, .ref (aT 0)), (1, .ref (aB 0)), (2, .int x2), (3, .int x3), (4, .int x4), (5, .int y11)]) C 52 100 rfl (by decide) [1, 2, 3, 4, 5, 0] rfl ?_
    refine x_aload_n C 53 102 rfl 0 rfl rfl ?_
    refine x_aload_n C 54 103 rfl 0 rfl rfl ?_
    refine x_get (v := .int (u10 3 0)) C 55 104 rfl fi_X7 0 rfl rfl 3 (by decide) (mc wq_7_23) rfl ?_
    refine x_iconst (v := (5 : Int32)) C 56 107 rfl (by decide) ?_
    refine x_icmp_ne C 57 108 131 rfl rfl (fun c12 => ?_) (fun c12 => ?_)
    · replace h := h.2 c12
      exact x_sub (lv' := [(0, .ref (aT 0)), (1, .ref (aB 0)), (2, .int x2), (3, .int x3), (4, .int x4), (5, .int y11)]) [0, 1, 2, 3, 4, 5] rfl (wj_X7_readArc_131 C rt h)
    · replace h := h.1 c12
      refine x_iload C 58 111 rfl 5 rfl ?_
      refine x_aload_n C 59 113 rfl 1 rfl rfl ?_
      refine x_get (v := .ref (aB 1)) C 60 114 rfl fi_X1 2 rfl rfl 0 (by decide) (mc wq_11_18) rfl ?_
      refine x_aload_n C 61 117 rfl 1 rfl rfl ?_
      refine x_get (v := .ref (aB 3)) C 62 118 rfl fi_X1 2 rfl rfl 2 (by decide) (mc wq_12_12) rfl ?_
      refine x_iload_n C 63 121 rfl 2 rfl rfl ?_
      obtain ⟨hi, h⟩ := h
      refine x_iald (f := sB 2) C 64 122 rfl 5 rfl hi ?_
      obtain ⟨hi, h⟩ := h
      refine x_iald (f := sB 0) C 65 123 rfl 3 rfl hi ?_
      refine x_icmp_ge C 66 124 131 rfl rfl (fun c19 => ?_) (fun c19 => ?_)
      · replace h := h.1 c19
        exact x_sub (lv' := [(0, .ref (aT 0)), (1, .ref (aB 0)), (2, .int x2), (3, .int x3), (4, .int x4), (5, .int y11)]) [0, 1, 2, 3, 4, 5] rfl (wj_X7_readArc_131 C rt h)
      · replace h := h.2 c19
        refine x_iconst (v := (1 : Int32)) C 67 127 rfl (by decide) ?_
        refine x_goto C 68 128 132 rfl rfl ?_
        exact x_sub (lv' := [(0, .ref (aT 0)), (1, .ref (aB 0)), (2, .int x2), (3, .int x3), (4, .int x4), (5, .int y11)]) [0, 1, 2, 3, 4, 5] rfl (wj_X7_readArc_132 C rt h)
  · replace h := h.1 c9
    exact x_vret C rt 47 91 rfl (u8, sB) rfl h
set_option maxHeartbeats 4000000 in
set_option maxRecDepth 100000 in
theorem wj_X7_readArc_80 {x : CT} {aT aB : Nat → Nat} {sT : St} {sB : St} {x2 : Int32} {x3 : Int32} {x4 : Int32} {K : (St × St) → Prop} (C : Cx x cX7_readArc tb_X7_readArc 7 RX7 (Cond.code yX7_readArc cX7_readArc 7 none :: wsL_law) ({ frames := 7, cells := 0, slots := 0, locals := 182 } : Room)) (rt : RetV x 0 0 (fun (u : St × St) => fl [wdT (xk x) aT u.1, wdB (xk x) aB u.2]) (fun (u : St × St) => K u))  (h : J_X7_readArc_80 sT sB x2 x3 x4 K) : Wx x 7 0 0 (fl [wdT (xk x) aT sT, wdB (xk x) aB sB]) [(0, .ref (aT 0)), (1, .ref (aB 0)), (2, .int x2), (3, .int x3), (4, .int x4)] 80 [.ref (aT 0)] := by
  unfold J_X7_readArc_80 at h
  refine x_iconst (v := (1 : Int32)) C 42 80 rfl (by decide) ?_
  refine x_goto C 43 81 85 rfl rfl ?_
  exact x_sub (lv' := [(0, .ref (aT 0)), (1, .ref (aB 0)), (2, .int x2), (3, .int x3), (4, .int x4)]) [0, 1, 2, 3, 4] rfl (wj_X7_readArc_85 C rt h)
set_option maxHeartbeats 4000000 in
set_option maxRecDepth 100000 in
theorem wj_X7_readArc_59 {x : CT} {aT aB : Nat → Nat} {sT : St} {sB : St} {x2 : Int32} {x3 : Int32} {t0 : Int32} {K : (St × St) → Prop} (C : Cx x cX7_readArc tb_X7_readArc 7 RX7 (Cond.code yX7_readArc cX7_readArc 7 none :: wsL_law) ({ frames := 7, cells := 0, slots := 0, locals := 182 } : Room)) (rt : RetV x 0 0 (fun (u : St × St) => fl [wdT (xk x) aT u.1, wdB (xk x) aB u.2]) (fun (u : St × St) => K u))  (h : J_X7_readArc_59 sT sB x2 x3 t0 K) : Wx x 7 0 0 (fl [wdT (xk x) aT sT, wdB (xk x) aB sB]) [(0, .ref (aT 0)), (1, .ref (aB 0)), (2, .int x2), (3, .int x3)] 59 [.int t0] := by
  unfold J_X7_readArc_59 at h
  refine x_istore (lv' := [(0, .ref (aT 0)), (1, .ref (aB 0)), (2, .int x2), (3, .int x3), (4, .int t0)]) C 32 59 rfl (by decide) [1, 2, 3, 4, 0] rfl ?_
  refine x_aload_n C 33 61 rfl 0 rfl rfl ?_
  refine x_aload_n C 34 62 rfl 0 rfl rfl ?_
  refine x_get (v := .int (sT 3 0)) C 35 63 rfl fi_X7 0 rfl rfl 3 (by decide) (mc wq_7_23) rfl ?_
  refine x_bipush (v := (6 : Int32)) C 36 66 rfl (by decide) ?_
  refine x_icmp_eq C 37 68 80 rfl rfl (fun c7 => ?_) (fun c7 => ?_)
  · replace h := h.1 c7
    exact x_sub (lv' := [(0, .ref (aT 0)), (1, .ref (aB 0)), (2, .int x2), (3, .int x3), (4, .int t0)]) [0, 1, 2, 3, 4] rfl (wj_X7_readArc_80 C rt h)
  · replace h := h.2 c7
    refine x_aload_n C 38 71 rfl 0 rfl rfl ?_
    refine x_get (v := .int (sT 3 0)) C 39 72 rfl fi_X7 0 rfl rfl 3 (by decide) (mc wq_7_23) rfl ?_
    refine x_bipush (v := (7 : Int32)) C 40 75 rfl (by decide) ?_
    refine x_icmp_ne C 41 77 84 rfl rfl (fun c20 => ?_) (fun c20 => ?_)
    · replace h := h.2 c20
      refine x_iconst (v := (0 : Int32)) C 44 84 rfl (by decide) ?_
      exact x_sub (lv' := [(0, .ref (aT 0)), (1, .ref (aB 0)), (2, .int x2), (3, .int x3), (4, .int t0)]) [0, 1, 2, 3, 4] rfl (wj_X7_readArc_85 C rt h)
    · replace h := h.1 c20
      exact x_sub (lv' := [(0, .ref (aT 0)), (1, .ref (aB 0)), (2, .int x2), (3, .int x3), (4, .int t0)]) [0, 1, 2, 3, 4] rfl (wj_X7_readArc_80 C rt h)
set_option maxHeartbeats 4000000 in
set_option maxRecDepth 100000 in
theorem wj_X7_readArc_34 {x : CT} {aT aB : Nat → Nat} {sT : St} {sB : St} {x2 : Int32} {x3 : Int32} {t1 : Int32} {K : (St × St) → Prop} (C : Cx x cX7_readArc tb_X7_readArc 7 RX7 (Cond.code yX7_readArc cX7_readArc 7 none :: wsL_law) ({ frames := 7, cells := 0, slots := 0, locals := 182 } : Room)) (rt : RetV x 0 0 (fun (u : St × St) => fl [wdT (xk x) aT u.1, wdB (xk x) aB u.2]) (fun (u : St × St) => K u))  (h : J_X7_readArc_34 sT sB x2 x3 t1 K) : Wx x 7 0 0 (fl [wdT (xk x) aT sT, wdB (xk x) aB sB]) [(0, .ref (aT 0)), (1, .ref (aB 0)), (2, .int x2), (3, .int x3)] 34 [.int t1, .ref (aT 0)] := by
  unfold J_X7_readArc_34 at h
  refine x_callGVZ (ci := 5) (q0 := 0) (q := (RX7, TX7, 8)) C 20 34 (c_X7_stands (xl x) (xD x) (xk x) (xg x) aT sT t1 _ h) rfl wwGood (mem4 wq_11_19 wq_11_20 wq_11_21 wq_1_15) wq_11_22 1 ok_X7_stands rfl ⟨by decide, by decide⟩ (Nat.le_of_ble_eq_true rfl) ⟨Nat.le_refl _, Nat.le_refl _⟩ ⟨rfl, rfl⟩ rfl rfl [wdB (xk x) aB sB] (fun (u : St) => [wdT (xk x) aT u, wdB (xk x) aB sB]) [1, 0] [1, 0] (show List.Perm [1, 0] (List.range 2) by decide) rfl 2 (fun _ => rfl) (by decide) (fun _ => rfl) (fun r3 u3 h => ?_)
  refine x_if_ne C 21 37 41 rfl rfl (fun c4 => ?_) (fun c4 => ?_)
  · replace h := h.2 c4
    refine x_aload_n C 23 41 rfl 0 rfl rfl ?_
    refine x_callGVV (ci := 5) (q0 := 0) (q := (RX7, TX7, 8)) C 24 42 (c_X7_advance (xl x) (xD x) (xk x) (xg x) aT u3 _ h) rfl wwGood (mem4 wq_8_8 wq_8_9 wq_8_10 wq_1_15) wq_8_11 0 ok_X7_advance rfl ⟨by decide, by decide⟩ (Nat.le_of_ble_eq_true rfl) ⟨Nat.le_refl _, Nat.le_refl _⟩ ⟨rfl, rfl⟩ rfl rfl [wdB (xk x) aB sB] (fun (u : St) => [wdT (xk x) aT u, wdB (xk x) aB sB]) [1, 0] [1, 0] (show List.Perm [1, 0] (List.range 2) by decide) rfl 2 (fun _ => rfl) (by decide) (fun _ => rfl) (fun u5 h => ?_)
    refine x_aload_n C 25 45 rfl 0 rfl rfl ?_
    refine x_get (v := .int (u5 3 0)) C 26 46 rfl fi_X7 0 rfl rfl 3 (by decide) (mc wq_7_23) rfl ?_
    refine x_bipush (v := (6 : Int32)) C 27 49 rfl (by decide) ?_
    refine x_icmp_ne C 28 51 58 rfl rfl (fun c6 => ?_) (fun c6 => ?_)
    · replace h := h.2 c6
      refine x_iconst (v := (1 : Int32)) C 31 58 rfl (by decide) ?_
      exact x_sub (lv' := [(0, .ref (aT 0)), (1, .ref (aB 0)), (2, .int x2), (3, .int x3)]) [0, 1, 2, 3] rfl (wj_X7_readArc_59 C rt h)
    · replace h := h.1 c6
      refine x_iconst (v := (2 : Int32)) C 29 54 rfl (by decide) ?_
      refine x_goto C 30 55 59 rfl rfl ?_
      exact x_sub (lv' := [(0, .ref (aT 0)), (1, .ref (aB 0)), (2, .int x2), (3, .int x3)]) [0, 1, 2, 3] rfl (wj_X7_readArc_59 C rt h)
  · replace h := h.1 c4
    exact x_vret C rt 22 40 rfl (u3, sB) rfl h
set_option maxHeartbeats 4000000 in
set_option maxRecDepth 100000 in
theorem wj_X7_readArc_33 {x : CT} {aT aB : Nat → Nat} {sT : St} {sB : St} {x2 : Int32} {x3 : Int32} {K : (St × St) → Prop} (C : Cx x cX7_readArc tb_X7_readArc 7 RX7 (Cond.code yX7_readArc cX7_readArc 7 none :: wsL_law) ({ frames := 7, cells := 0, slots := 0, locals := 182 } : Room)) (rt : RetV x 0 0 (fun (u : St × St) => fl [wdT (xk x) aT u.1, wdB (xk x) aB u.2]) (fun (u : St × St) => K u))  (h : J_X7_readArc_33 sT sB x2 x3 K) : Wx x 7 0 0 (fl [wdT (xk x) aT sT, wdB (xk x) aB sB]) [(0, .ref (aT 0)), (1, .ref (aB 0)), (2, .int x2), (3, .int x3)] 33 [.ref (aT 0)] := by
  unfold J_X7_readArc_33 at h
  refine x_iconst (v := (0 : Int32)) C 19 33 rfl (by decide) ?_
  exact x_sub (lv' := [(0, .ref (aT 0)), (1, .ref (aB 0)), (2, .int x2), (3, .int x3)]) [0, 1, 2, 3] rfl (wj_X7_readArc_34 C rt h)
set_option maxHeartbeats 4000000 in
set_option maxRecDepth 100000 in
theorem w_X7_readArc {x : CT} {aT aB : Nat → Nat} {sT : St} {sB : St} {p2 : Int32} {K : (St × St) → Prop} (C : Cx x cX7_readArc tb_X7_readArc 7 RX7 (Cond.code yX7_readArc cX7_readArc 7 none :: wsL_law) ({ frames := 7, cells := 0, slots := 0, locals := 182 } : Room)) (rt : RetV x 0 0 (fun (u : St × St) => fl [wdT (xk x) aT u.1, wdB (xk x) aB u.2]) (fun (u : St × St) => K u)) (h : wp_X7_readArc sT sB p2 K) : Wx x 7 0 0 (fl [wdT (xk x) aT sT, wdB (xk x) aB sB]) [(0, .ref (aT 0)), (1, .ref (aB 0)), (2, .int p2)] 0 [] := by
  unfold wp_X7_readArc at h
  refine x_aload_n C 0 0 rfl 0 rfl rfl ?_
  refine x_get (v := .int (sT 4 0)) C 1 1 rfl fi_X7 0 rfl rfl 4 (by decide) (mc wq_8_12) rfl ?_
  refine x_topi (fun y1 ey1 => ?_)
  replace h := h y1 ey1
  refine x_istore_n (lv' := [(0, .ref (aT 0)), (1, .ref (aB 0)), (2, .int p2), (3, .int y1)]) C 2 4 rfl rfl (by decide) [1, 2, 3, 0] rfl ?_
  refine x_aload_n C 3 5 rfl 0 rfl rfl ?_
  refine x_aload_n C 4 6 rfl 0 rfl rfl ?_
  refine x_get (v := .int (sT 3 0)) C 5 7 rfl fi_X7 0 rfl rfl 3 (by decide) (mc wq_7_23) rfl ?_
  refine x_iconst (v := (5 : Int32)) C 6 10 rfl (by decide) ?_
  refine x_icmp_ne C 7 11 33 rfl rfl (fun c2 => ?_) (fun c2 => ?_)
  · replace h := h.2 c2
    exact x_sub (lv' := [(0, .ref (aT 0)), (1, .ref (aB 0)), (2, .int p2), (3, .int y1)]) [0, 1, 2, 3] rfl (wj_X7_readArc_33 C rt h)
  · replace h := h.1 c2
    refine x_iload_n C 8 14 rfl 3 rfl rfl ?_
    refine x_aload_n C 9 15 rfl 1 rfl rfl ?_
    refine x_get (v := .ref (aB 1)) C 10 16 rfl fi_X1 2 rfl rfl 0 (by decide) (mc wq_11_18) rfl ?_
    refine x_aload_n C 11 19 rfl 1 rfl rfl ?_
    refine x_get (v := .ref (aB 2)) C 12 20 rfl fi_X1 2 rfl rfl 1 (by decide) (mc wq_12_11) rfl ?_
    refine x_iload_n C 13 23 rfl 2 rfl rfl ?_
    obtain ⟨hi, h⟩ := h
    refine x_iald (f := sB 1) C 14 24 rfl 4 rfl hi ?_
    obtain ⟨hi, h⟩ := h
    refine x_iald (f := sB 0) C 15 25 rfl 3 rfl hi ?_
    refine x_icmp_ge C 16 26 33 rfl rfl (fun c21 => ?_) (fun c21 => ?_)
    · replace h := h.1 c21
      exact x_sub (lv' := [(0, .ref (aT 0)), (1, .ref (aB 0)), (2, .int p2), (3, .int y1)]) [0, 1, 2, 3] rfl (wj_X7_readArc_33 C rt h)
    · replace h := h.2 c21
      refine x_iconst (v := (1 : Int32)) C 17 29 rfl (by decide) ?_
      refine x_goto C 18 30 34 rfl rfl ?_
      exact x_sub (lv' := [(0, .ref (aT 0)), (1, .ref (aB 0)), (2, .int p2), (3, .int y1)]) [0, 1, 2, 3] rfl (wj_X7_readArc_34 C rt h)
theorem c_X7_readArc (l : Launch) (D : va_G) (k : ClassId × ClassId) (g : Nat → Nat) (aT aB : Nat → Nat) (sT : St) (sB : St) (p2 : Int32) (K : (St × St) → Prop) (h : wp_X7_readArc sT sB p2 K) : ConV l yX7_readArc (Cond.code yX7_readArc cX7_readArc 7 none :: wsL_law) ({ frames := 7, cells := 0, slots := 0, locals := 182 } : Room) D k g [.ref (aT 0), .ref (aB 0), .int p2] (fl [wdT k aT sT, wdB k aB sB]) (fun (u : St × St) => fl [wdT k aT u.1, wdB k aB u.2]) (fun (u : St × St) => K u) := by
  refine ConV.of (tb := tb_X7_readArc) (cc := cX7_readArc) (nL := 7) (by decide) rfl tbk_X7_readArc (Nat.le_of_ble_eq_true rfl) ?_
  intro x hl hD hk hg C rt
  subst hl hD hk hg
  exact w_X7_readArc C rt h
set_option maxHeartbeats 4000000 in
set_option maxRecDepth 100000 in
theorem w_X7_readCall_79 {x : CT} {aT aB : Nat → Nat} {x4 : Int32} {K : (St × St) → Prop} {E116 : St × St → Prop} (C : Cx x cX7_readCall tb_X7_readCall 6 RX7 (Cond.code yX7_readCall cX7_readCall 6 none :: wsL_law) ({ frames := 8, cells := 0, slots := 0, locals := 208 } : Room)) (rt : RetV x 0 0 (fun (u : St × St) => fl [wdT (xk x) aT u.1, wdB (xk x) aB u.2]) (fun (u : St × St) => K u)) (hE116 : ∀ q : St × St, E116 q → Wx x 6 0 0 (fl [wdT (xk x) aT q.1, wdB (xk x) aB q.2]) [(0, .ref (aT 0))] 116 []) {q14 : Int32 × St × St} (h : Lp (F_X7_readCall_79 x4 E116) q14) : Wx x 6 0 0 (fl [wdT (xk x) aT q14.2.1, wdB (xk x) aB q14.2.2]) [(0, .ref (aT 0)), (1, .ref (aB 0)), (4, .int x4), (5, .int q14.1)] 79 [] := by
  refine lp_walk (P := fun q14 => Wx x 6 0 0 (fl [wdT (xk x) aT q14.2.1, wdB (xk x) aB q14.2.2]) [(0, .ref (aT 0)), (1, .ref (aB 0)), (4, .int x4), (5, .int q14.1)] 79 []) (fun q14 R79 hR79 h => ?_) h
  refine x_iload C 43 79 rfl 3 rfl ?_
  refine x_sipush (v := (300 : Int32)) C 44 81 rfl (by decide) ?_
  refine x_icmp_ge C 45 84 116 rfl rfl (fun c15 => ?_) (fun c15 => ?_)
  · replace h := h.1 c15
    exact x_sub [0] rfl (hE116 (q14.2.1, q14.2.2) h)
  · replace h := h.2 c15
    refine x_aload_n C 46 87 rfl 0 rfl rfl ?_
    refine x_get (v := .int (q14.2.1 3 0)) C 47 88 rfl fi_X7 0 rfl rfl 3 (by decide) (mc wq_7_23) rfl ?_
    refine x_bipush (v := (8 : Int32)) C 48 91 rfl (by decide) ?_
    refine x_icmp_eq C 49 93 116 rfl rfl (fun c16 => ?_) (fun c16 => ?_)
    · replace h := h.1 c16
      exact x_sub [0] rfl (hE116 (q14.2.1, q14.2.2) h)
    · replace h := h.2 c16
      refine x_aload_n C 50 96 rfl 0 rfl rfl ?_
      refine x_get (v := .int (q14.2.1 7 0)) C 51 97 rfl fi_X7 0 rfl rfl 7 (by decide) (mc wq_7_21) rfl ?_
      refine x_if_ge C 52 100 116 rfl rfl (fun c17 => ?_) (fun c17 => ?_)
      · replace h := h.1 c17
        exact x_sub [0] rfl (hE116 (q14.2.1, q14.2.2) h)
      · replace h := h.2 c17
        refine x_aload_n C 53 103 rfl 0 rfl rfl ?_
        refine x_aload_n C 54 104 rfl 1 rfl rfl ?_
        refine x_iload C 55 105 rfl 2 rfl ?_
        refine x_callWVV (ci := 5) (q0 := 0) (q := (RX7, TX7, 8)) C 56 107 (c_X7_readArc (xl x) (xD x) (xk x) (xg x) aT aB q14.2.1 q14.2.2 x4 _ h) rfl wwGood (mem4 wq_12_7 wq_12_8 wq_12_9 wq_1_15) wq_12_10 2 ok_X7_readArc rfl ⟨by decide, by decide⟩ (Nat.le_of_ble_eq_true rfl) ⟨Nat.le_refl _, Nat.le_refl _⟩ ⟨rfl, rfl⟩ rfl rfl rfl (fun u18 h => ?_)
        obtain ⟨y19, ey19⟩ : ∃ y : Int32, y = q14.1 + (1 : Int32) := ⟨_, rfl⟩
        replace h := h y19 ey19
        refine x_iinc (v := y19) (lv' := [(0, .ref (aT 0)), (1, .ref (aB 0)), (4, .int x4), (5, .int y19)]) C 57 110 rfl 3 rfl (by rw [ey19]; rfl) (by decide) [1, 2, 3, 0] rfl ?_
        refine x_goto C 58 113 79 rfl rfl ?_
        exact x_sub [0, 1, 2, 3] rfl (hR79 (y19, u18.1, u18.2) h)
set_option maxHeartbeats 4000000 in
set_option maxRecDepth 100000 in
theorem wj_X7_readCall_53 {x : CT} {aT aB : Nat → Nat} {sT : St} {sB : St} {x2 : Int32} {x3 : Int32} {t1 : Int32} {K : (St × St) → Prop} (C : Cx x cX7_readCall tb_X7_readCall 6 RX7 (Cond.code yX7_readCall cX7_readCall 6 none :: wsL_law) ({ frames := 8, cells := 0, slots := 0, locals := 208 } : Room)) (rt : RetV x 0 0 (fun (u : St × St) => fl [wdT (xk x) aT u.1, wdB (xk x) aB u.2]) (fun (u : St × St) => K u))  (h : J_X7_readCall_53 sT sB x2 x3 t1 K) : Wx x 6 0 0 (fl [wdT (xk x) aT sT, wdB (xk x) aB sB]) [(0, .ref (aT 0)), (1, .ref (aB 0)), (2, .int x2), (3, .int x3)] 53 [.int t1, .ref (aT 0)] := by
  unfold J_X7_readCall_53 at h
  refine x_callGVZ (ci := 5) (q0 := 0) (q := (RX7, TX7, 8)) C 29 53 (c_X7_stands (xl x) (xD x) (xk x) (xg x) aT sT t1 _ h) rfl wwGood (mem4 wq_11_19 wq_11_20 wq_11_21 wq_1_15) wq_11_22 1 ok_X7_stands rfl ⟨by decide, by decide⟩ (Nat.le_of_ble_eq_true rfl) ⟨Nat.le_refl _, Nat.le_refl _⟩ ⟨rfl, rfl⟩ rfl rfl [wdB (xk x) aB sB] (fun (u : St) => [wdT (xk x) aT u, wdB (xk x) aB sB]) [1, 0] [1, 0] (show List.Perm [1, 0] (List.range 2) by decide) rfl 2 (fun _ => rfl) (by decide) (fun _ => rfl) (fun r9 u9 h => ?_)
  refine x_if_ne C 30 56 60 rfl rfl (fun c10 => ?_) (fun c10 => ?_)
  · replace h := h.2 c10
    refine x_aload_n C 32 60 rfl 0 rfl rfl ?_
    refine x_callGVV (ci := 5) (q0 := 0) (q := (RX7, TX7, 8)) C 33 61 (c_X7_advance (xl x) (xD x) (xk x) (xg x) aT u9 _ h) rfl wwGood (mem4 wq_8_8 wq_8_9 wq_8_10 wq_1_15) wq_8_11 0 ok_X7_advance rfl ⟨by decide, by decide⟩ (Nat.le_of_ble_eq_true rfl) ⟨Nat.le_refl _, Nat.le_refl _⟩ ⟨rfl, rfl⟩ rfl rfl [wdB (xk x) aB sB] (fun (u : St) => [wdT (xk x) aT u, wdB (xk x) aB sB]) [1, 0] [1, 0] (show List.Perm [1, 0] (List.range 2) by decide) rfl 2 (fun _ => rfl) (by decide) (fun _ => rfl) (fun u11 h => ?_)
    refine x_aload_n C 34 64 rfl 1 rfl rfl ?_
    refine x_get (v := .int (sB 4 0)) C 35 65 rfl fi_X1 2 rfl rfl 4 (by decide) (mc wq_8_0) rfl ?_
    refine x_topi (fun y12 ey12 => ?_)
    replace h := h y12 ey12
    refine x_istore (lv' := [(0, .ref (aT 0)), (1, .ref (aB 0)), (2, .int x2), (3, .int x3), (4, .int y12)]) C 36 68 rfl (by decide) [1, 2, 3, 4, 0] rfl ?_
    refine x_aload_n C 37 70 rfl 1 rfl rfl ?_
    refine x_iload_n C 38 71 rfl 2 rfl rfl ?_
    refine x_iload_n C 39 72 rfl 3 rfl rfl ?_
    refine x_callGVV (ci := 0) (q0 := 0) (q := (RX1, TX1, 5)) C 40 73 (c_X1_add (xl x) (xD x) (xk x) (xg x) aB sB x2 x3 _ h) rfl wwGood (mem4 wq_12_3 wq_12_4 wq_12_5 wq_1_19) wq_12_6 2 ok_X1_add rfl ⟨by decide, by decide⟩ (Nat.le_of_ble_eq_true rfl) ⟨Nat.le_refl _, Nat.le_refl _⟩ ⟨rfl, rfl⟩ rfl rfl [wdT (xk x) aT u11] (fun (u : St) => [wdT (xk x) aT u11, wdB (xk x) aB u]) [0, 1] [0, 1] (show List.Perm [0, 1] (List.range 2) by decide) rfl 2 (fun _ => rfl) (by decide) (fun _ => rfl) (fun u13 h => ?_)
    refine x_iconst (v := (0 : Int32)) C 41 76 rfl (by decide) ?_
    refine x_istore (lv' := [(0, .ref (aT 0)), (1, .ref (aB 0)), (4, .int y12), (5, .int (0 : Int32))]) C 42 77 rfl (by decide) [1, 2, 5, 0] rfl ?_
    refine x_sub (lv' := [(0, .ref (aT 0)), (1, .ref (aB 0)), (4, .int y12), (5, .int (0 : Int32))]) [0, 1, 2, 3] rfl (w_X7_readCall_79 C rt (fun q20 h => ?_) h)
    · refine x_aload_n C 59 116 rfl 0 rfl rfl ?_
      refine x_get (v := .int (q20.1 7 0)) C 60 117 rfl fi_X7 0 rfl rfl 7 (by decide) (mc wq_7_21) rfl ?_
      refine x_if_ge C 61 120 127 rfl rfl (fun c21 => ?_) (fun c21 => ?_)
      · replace h := h.1 c21
        exact x_vret C rt 64 127 rfl (q20.1, q20.2) rfl h
      · replace h := h.2 c21
        refine x_aload_n C 62 123 rfl 0 rfl rfl ?_
        refine x_callGVV (ci := 5) (q0 := 0) (q := (RX7, TX7, 8)) C 63 124 (c_X7_advance (xl x) (xD x) (xk x) (xg x) aT q20.1 _ h) rfl wwGood (mem4 wq_8_8 wq_8_9 wq_8_10 wq_1_15) wq_8_11 0 ok_X7_advance rfl ⟨by decide, by decide⟩ (Nat.le_of_ble_eq_true rfl) ⟨Nat.le_refl _, Nat.le_refl _⟩ ⟨rfl, rfl⟩ rfl rfl [wdB (xk x) aB q20.2] (fun (u : St) => [wdT (xk x) aT u, wdB (xk x) aB q20.2]) [1, 0] [1, 0] (show List.Perm [1, 0] (List.range 2) by decide) rfl 2 (fun _ => rfl) (by decide) (fun _ => rfl) (fun u22 h => ?_)
        exact x_vret C rt 64 127 rfl (u22, q20.2) rfl h
  · replace h := h.1 c10
    exact x_vret C rt 31 59 rfl (u9, sB) rfl h
set_option maxHeartbeats 4000000 in
set_option maxRecDepth 100000 in
theorem wj_X7_readCall_23 {x : CT} {aT aB : Nat → Nat} {sT : St} {sB : St} {x2 : Int32} {t1 : Int32} {K : (St × St) → Prop} (C : Cx x cX7_readCall tb_X7_readCall 6 RX7 (Cond.code yX7_readCall cX7_readCall 6 none :: wsL_law) ({ frames := 8, cells := 0, slots := 0, locals := 208 } : Room)) (rt : RetV x 0 0 (fun (u : St × St) => fl [wdT (xk x) aT u.1, wdB (xk x) aB u.2]) (fun (u : St × St) => K u))  (h : J_X7_readCall_23 sT sB x2 t1 K) : Wx x 6 0 0 (fl [wdT (xk x) aT sT, wdB (xk x) aB sB]) [(0, .ref (aT 0)), (1, .ref (aB 0)), (2, .int x2)] 23 [.int t1, .ref (aT 0)] := by
  unfold J_X7_readCall_23 at h
  refine x_callGVZ (ci := 5) (q0 := 0) (q := (RX7, TX7, 8)) C 13 23 (c_X7_stands (xl x) (xD x) (xk x) (xg x) aT sT t1 _ h) rfl wwGood (mem4 wq_11_19 wq_11_20 wq_11_21 wq_1_15) wq_11_22 1 ok_X7_stands rfl ⟨by decide, by decide⟩ (Nat.le_of_ble_eq_true rfl) ⟨Nat.le_refl _, Nat.le_refl _⟩ ⟨rfl, rfl⟩ rfl rfl [wdB (xk x) aB sB] (fun (u : St) => [wdT (xk x) aT u, wdB (xk x) aB sB]) [1, 0] [1, 0] (show List.Perm [1, 0] (List.range 2) by decide) rfl 2 (fun _ => rfl) (by decide) (fun _ => rfl) (fun r4 u4 h => ?_)
  refine x_if_ne C 14 26 30 rfl rfl (fun c5 => ?_) (fun c5 => ?_)
  · replace h := h.2 c5
    refine x_aload_n C 16 30 rfl 0 rfl rfl ?_
    refine x_callGVV (ci := 5) (q0 := 0) (q := (RX7, TX7, 8)) C 17 31 (c_X7_advance (xl x) (xD x) (xk x) (xg x) aT u4 _ h) rfl wwGood (mem4 wq_8_8 wq_8_9 wq_8_10 wq_1_15) wq_8_11 0 ok_X7_advance rfl ⟨by decide, by decide⟩ (Nat.le_of_ble_eq_true rfl) ⟨Nat.le_refl _, Nat.le_refl _⟩ ⟨rfl, rfl⟩ rfl rfl [wdB (xk x) aB sB] (fun (u : St) => [wdT (xk x) aT u, wdB (xk x) aB sB]) [1, 0] [1, 0] (show List.Perm [1, 0] (List.range 2) by decide) rfl 2 (fun _ => rfl) (by decide) (fun _ => rfl) (fun u6 h => ?_)
    refine x_aload_n C 18 34 rfl 0 rfl rfl ?_
    refine x_get (v := .int (u6 4 0)) C 19 35 rfl fi_X7 0 rfl rfl 4 (by decide) (mc wq_8_12) rfl ?_
    refine x_topi (fun y7 ey7 => ?_)
    replace h := h y7 ey7
    refine x_istore_n (lv' := [(0, .ref (aT 0)), (1, .ref (aB 0)), (2, .int x2), (3, .int y7)]) C 20 38 rfl rfl (by decide) [1, 2, 3, 0] rfl ?_
    refine x_aload_n C 21 39 rfl 0 rfl rfl ?_
    refine x_aload_n C 22 40 rfl 0 rfl rfl ?_
    refine x_get (v := .int (u6 3 0)) C 23 41 rfl fi_X7 0 rfl rfl 3 (by decide) (mc wq_7_23) rfl ?_
    refine x_iconst (v := (4 : Int32)) C 24 44 rfl (by decide) ?_
    refine x_icmp_ne C 25 45 52 rfl rfl (fun c8 => ?_) (fun c8 => ?_)
    · replace h := h.2 c8
      refine x_iconst (v := (0 : Int32)) C 28 52 rfl (by decide) ?_
      exact x_sub (lv' := [(0, .ref (aT 0)), (1, .ref (aB 0)), (2, .int x2), (3, .int y7)]) [0, 1, 2, 3] rfl (wj_X7_readCall_53 C rt h)
    · replace h := h.1 c8
      refine x_iconst (v := (1 : Int32)) C 26 48 rfl (by decide) ?_
      refine x_goto C 27 49 53 rfl rfl ?_
      exact x_sub (lv' := [(0, .ref (aT 0)), (1, .ref (aB 0)), (2, .int x2), (3, .int y7)]) [0, 1, 2, 3] rfl (wj_X7_readCall_53 C rt h)
  · replace h := h.1 c5
    exact x_vret C rt 15 29 rfl (u4, sB) rfl h
set_option maxHeartbeats 4000000 in
set_option maxRecDepth 100000 in
theorem w_X7_readCall {x : CT} {aT aB : Nat → Nat} {sT : St} {sB : St} {K : (St × St) → Prop} (C : Cx x cX7_readCall tb_X7_readCall 6 RX7 (Cond.code yX7_readCall cX7_readCall 6 none :: wsL_law) ({ frames := 8, cells := 0, slots := 0, locals := 208 } : Room)) (rt : RetV x 0 0 (fun (u : St × St) => fl [wdT (xk x) aT u.1, wdB (xk x) aB u.2]) (fun (u : St × St) => K u)) (h : wp_X7_readCall sT sB K) : Wx x 6 0 0 (fl [wdT (xk x) aT sT, wdB (xk x) aB sB]) [(0, .ref (aT 0)), (1, .ref (aB 0))] 0 [] := by
  unfold wp_X7_readCall at h
  refine x_aload_n C 0 0 rfl 0 rfl rfl ?_
  refine x_callGVV (ci := 5) (q0 := 0) (q := (RX7, TX7, 8)) C 1 1 (c_X7_advance (xl x) (xD x) (xk x) (xg x) aT sT _ h) rfl wwGood (mem4 wq_8_8 wq_8_9 wq_8_10 wq_1_15) wq_8_11 0 ok_X7_advance rfl ⟨by decide, by decide⟩ (Nat.le_of_ble_eq_true rfl) ⟨Nat.le_refl _, Nat.le_refl _⟩ ⟨rfl, rfl⟩ rfl rfl [wdB (xk x) aB sB] (fun (u : St) => [wdT (xk x) aT u, wdB (xk x) aB sB]) [1, 0] [1, 0] (show List.Perm [1, 0] (List.range 2) by decide) rfl 2 (fun _ => rfl) (by decide) (fun _ => rfl) (fun u1 h => ?_)
  refine x_aload_n C 2 4 rfl 0 rfl rfl ?_
  refine x_get (v := .int (u1 4 0)) C 3 5 rfl fi_X7 0 rfl rfl 4 (by decide) (mc wq_8_12) rfl ?_
  refine x_topi (fun y2 ey2 => ?_)
  replace h := h y2 ey2
  refine x_istore_n (lv' := [(0, .ref (aT 0)), (1, .ref (aB 0)), (2, .int y2)]) C 4 8 rfl rfl (by decide) [1, 2, 0] rfl ?_
  refine x_aload_n C 5 9 rfl 0 rfl rfl ?_
  refine x_aload_n C 6 10 rfl 0 rfl rfl ?_
  refine x_get (v := .int (u1 3 0)) C 7 11 rfl fi_X7 0 rfl rfl 3 (by decide) (mc wq_7_23) rfl ?_
  refine x_iconst (v := (4 : Int32)) C 8 14 rfl (by decide) ?_
  refine x_icmp_ne C 9 15 22 rfl rfl (fun c3 => ?_) (fun c3 => ?_)
  · replace h := h.2 c3
    refine x_iconst (v := (0 : Int32)) C 12 22 rfl (by decide) ?_
    exact x_sub (lv' := [(0, .ref (aT 0)), (1, .ref (aB 0)), (2, .int y2)]) [0, 1, 2] rfl (wj_X7_readCall_23 C rt h)
  · replace h := h.1 c3
    refine x_iconst (v := (1 : Int32)) C 10 18 rfl (by decide) ?_
    refine x_goto C 11 19 23 rfl rfl ?_
    exact x_sub (lv' := [(0, .ref (aT 0)), (1, .ref (aB 0)), (2, .int y2)]) [0, 1, 2] rfl (wj_X7_readCall_23 C rt h)
theorem c_X7_readCall (l : Launch) (D : va_G) (k : ClassId × ClassId) (g : Nat → Nat) (aT aB : Nat → Nat) (sT : St) (sB : St) (K : (St × St) → Prop) (h : wp_X7_readCall sT sB K) : ConV l yX7_readCall (Cond.code yX7_readCall cX7_readCall 6 none :: wsL_law) ({ frames := 8, cells := 0, slots := 0, locals := 208 } : Room) D k g [.ref (aT 0), .ref (aB 0)] (fl [wdT k aT sT, wdB k aB sB]) (fun (u : St × St) => fl [wdT k aT u.1, wdB k aB u.2]) (fun (u : St × St) => K u) := by
  refine ConV.of (tb := tb_X7_readCall) (cc := cX7_readCall) (nL := 6) (by decide) rfl tbk_X7_readCall (Nat.le_of_ble_eq_true rfl) ?_
  intro x hl hD hk hg C rt
  subst hl hD hk hg
  exact w_X7_readCall C rt h
set_option maxHeartbeats 4000000 in
set_option maxRecDepth 100000 in
theorem wj_X7_readInto_70 {x : CT} {aT aB : Nat → Nat} {sT : St} {sB : St} {x2 : Int32} {K : Int32 → (St × St) → Prop} {R25 : Int32 × St × St → Prop} (C : Cx x cX7_readInto tb_X7_readInto 3 RX7 (Cond.code yX7_readInto cX7_readInto 3 (some .int) :: wsL_law) ({ frames := 9, cells := 0, slots := 0, locals := 233 } : Room)) (rt : RetI x 0 0 (fun (u : St × St) => fl [wdT (xk x) aT u.1, wdB (xk x) aB u.2]) (fun (r : Int32) (u : St × St) => K r u)) (hR25 : ∀ q : Int32 × St × St, R25 q → Wx x 3 0 0 (fl [wdT (xk x) aT q.2.1, wdB (xk x) aB q.2.2]) [(0, .ref (aT 0)), (1, .ref (aB 0)), (2, .int q.1)] 25 []) (h : J_X7_readInto_70 sT sB x2 R25) : Wx x 3 0 0 (fl [wdT (xk x) aT sT, wdB (xk x) aB sB]) [(0, .ref (aT 0)), (1, .ref (aB 0)), (2, .int x2)] 70 [] := by
  unfold J_X7_readInto_70 at h
  refine x_aload_n C 36 70 rfl 0 rfl rfl ?_
  refine x_get (v := .int (sT 3 0)) C 37 71 rfl fi_X7 0 rfl rfl 3 (by decide) (mc wq_7_23) rfl ?_
  refine x_iconst (v := (3 : Int32)) C 38 74 rfl (by decide) ?_
  refine x_icmp_ne C 39 75 95 rfl rfl (fun c11 => ?_) (fun c11 => ?_)
  · replace h := h.2 c11
    refine x_aload_n C 48 95 rfl 0 rfl rfl ?_
    refine x_aload_n C 49 96 rfl 0 rfl rfl ?_
    refine x_get (v := .int (sT 2 0)) C 50 97 rfl fi_X7 0 rfl rfl 2 (by decide) (mc wq_8_1) rfl ?_
    obtain ⟨z12, ez12⟩ : ∃ z : St, z = us sT 7 (sT 2 0) := ⟨_, rfl⟩
    replace h := h z12 ez12
    refine x_put (ws' := fl [wdT (xk x) aT z12, wdB (xk x) aB sB]) C 51 100 rfl fi_X7 tyX7 tyX7_ok nmX7 0 rfl rfl 7 (by decide) (mc wq_7_21) rfl rfl rfl (Nat.le_of_ble_eq_true rfl) (by rw [ez12]; rfl) ?_
    obtain ⟨y13, ey13⟩ : ∃ y : Int32, y = x2 + (1 : Int32) := ⟨_, rfl⟩
    replace h := h y13 ey13
    refine x_iinc (v := y13) (lv' := [(0, .ref (aT 0)), (1, .ref (aB 0)), (2, .int y13)]) C 52 103 rfl 2 rfl (by rw [ey13]; rfl) (by decide) [1, 2, 0] rfl ?_
    refine x_goto C 53 106 25 rfl rfl ?_
    exact x_sub [0, 1, 2] rfl (hR25 (y13, z12, sB) h)
  · replace h := h.1 c11
    refine x_aload_n C 40 78 rfl 1 rfl rfl ?_
    refine x_get (v := .int (sB 4 0)) C 41 79 rfl fi_X1 2 rfl rfl 4 (by decide) (mc wq_8_0) rfl ?_
    refine x_bipush (v := (8 : Int32)) C 42 82 rfl (by decide) ?_
    refine x_icmp_ge C 43 84 95 rfl rfl (fun c14 => ?_) (fun c14 => ?_)
    · replace h := h.1 c14
      refine x_aload_n C 48 95 rfl 0 rfl rfl ?_
      refine x_aload_n C 49 96 rfl 0 rfl rfl ?_
      refine x_get (v := .int (sT 2 0)) C 50 97 rfl fi_X7 0 rfl rfl 2 (by decide) (mc wq_8_1) rfl ?_
      obtain ⟨z15, ez15⟩ : ∃ z : St, z = us sT 7 (sT 2 0) := ⟨_, rfl⟩
      replace h := h z15 ez15
      refine x_put (ws' := fl [wdT (xk x) aT z15, wdB (xk x) aB sB]) C 51 100 rfl fi_X7 tyX7 tyX7_ok nmX7 0 rfl rfl 7 (by decide) (mc wq_7_21) rfl rfl rfl (Nat.le_of_ble_eq_true rfl) (by rw [ez15]; rfl) ?_
      obtain ⟨y16, ey16⟩ : ∃ y : Int32, y = x2 + (1 : Int32) := ⟨_, rfl⟩
      replace h := h y16 ey16
      refine x_iinc (v := y16) (lv' := [(0, .ref (aT 0)), (1, .ref (aB 0)), (2, .int y16)]) C 52 103 rfl 2 rfl (by rw [ey16]; rfl) (by decide) [1, 2, 0] rfl ?_
      refine x_goto C 53 106 25 rfl rfl ?_
      exact x_sub [0, 1, 2] rfl (hR25 (y16, z15, sB) h)
    · replace h := h.2 c14
      refine x_aload_n C 44 87 rfl 0 rfl rfl ?_
      refine x_aload_n C 45 88 rfl 1 rfl rfl ?_
      refine x_callWVV (ci := 5) (q0 := 0) (q := (RX7, TX7, 8)) C 46 89 (c_X7_readCall (xl x) (xD x) (xk x) (xg x) aT aB sT sB _ h) rfl wwGood (mem4 wq_11_23 wq_12_0 wq_12_1 wq_1_15) wq_12_2 1 ok_X7_readCall rfl ⟨by decide, by decide⟩ (Nat.le_of_ble_eq_true rfl) ⟨Nat.le_refl _, Nat.le_refl _⟩ ⟨rfl, rfl⟩ rfl rfl rfl (fun u17 h => ?_)
      refine x_goto C 47 92 103 rfl rfl ?_
      obtain ⟨y18, ey18⟩ : ∃ y : Int32, y = x2 + (1 : Int32) := ⟨_, rfl⟩
      replace h := h y18 ey18
      refine x_iinc (v := y18) (lv' := [(0, .ref (aT 0)), (1, .ref (aB 0)), (2, .int y18)]) C 52 103 rfl 2 rfl (by rw [ey18]; rfl) (by decide) [1, 2, 0] rfl ?_
      refine x_goto C 53 106 25 rfl rfl ?_
      exact x_sub [0, 1, 2] rfl (hR25 (y18, u17.1, u17.2) h)
set_option maxHeartbeats 4000000 in
set_option maxRecDepth 100000 in
theorem w_X7_readInto_25 {x : CT} {aT aB : Nat → Nat} {K : Int32 → (St × St) → Prop} {E109 : Int32 × St × St → Prop} (C : Cx x cX7_readInto tb_X7_readInto 3 RX7 (Cond.code yX7_readInto cX7_readInto 3 (some .int) :: wsL_law) ({ frames := 9, cells := 0, slots := 0, locals := 233 } : Room)) (rt : RetI x 0 0 (fun (u : St × St) => fl [wdT (xk x) aT u.1, wdB (xk x) aB u.2]) (fun (r : Int32) (u : St × St) => K r u)) (hE109 : ∀ q : Int32 × St × St, E109 q → Wx x 3 0 0 (fl [wdT (xk x) aT q.2.1, wdB (xk x) aB q.2.2]) [(0, .ref (aT 0)), (2, .int q.1)] 109 []) {q6 : Int32 × St × St} (h : Lp (F_X7_readInto_25 E109) q6) : Wx x 3 0 0 (fl [wdT (xk x) aT q6.2.1, wdB (xk x) aB q6.2.2]) [(0, .ref (aT 0)), (1, .ref (aB 0)), (2, .int q6.1)] 25 [] := by
  refine lp_walk (P := fun q6 => Wx x 3 0 0 (fl [wdT (xk x) aT q6.2.1, wdB (xk x) aB q6.2.2]) [(0, .ref (aT 0)), (1, .ref (aB 0)), (2, .int q6.1)] 25 []) (fun q6 R25 hR25 h => ?_) h
  refine x_iload_n C 15 25 rfl 2 rfl rfl ?_
  refine x_sipush (v := (300 : Int32)) C 16 26 rfl (by decide) ?_
  refine x_icmp_ge C 17 29 109 rfl rfl (fun c7 => ?_) (fun c7 => ?_)
  · replace h := h.1 c7
    exact x_sub [0, 2] rfl (hE109 (q6.1, q6.2.1, q6.2.2) h)
  · replace h := h.2 c7
    refine x_aload_n C 18 32 rfl 0 rfl rfl ?_
    refine x_get (v := .int (q6.2.1 3 0)) C 19 33 rfl fi_X7 0 rfl rfl 3 (by decide) (mc wq_7_23) rfl ?_
    refine x_iconst (v := (1 : Int32)) C 20 36 rfl (by decide) ?_
    refine x_icmp_eq C 21 37 109 rfl rfl (fun c8 => ?_) (fun c8 => ?_)
    · replace h := h.1 c8
      exact x_sub [0, 2] rfl (hE109 (q6.1, q6.2.1, q6.2.2) h)
    · replace h := h.2 c8
      refine x_aload_n C 22 40 rfl 0 rfl rfl ?_
      refine x_get (v := .int (q6.2.1 7 0)) C 23 41 rfl fi_X7 0 rfl rfl 7 (by decide) (mc wq_7_21) rfl ?_
      refine x_if_ge C 24 44 109 rfl rfl (fun c9 => ?_) (fun c9 => ?_)
      · replace h := h.1 c9
        exact x_sub [0, 2] rfl (hE109 (q6.1, q6.2.1, q6.2.2) h)
      · replace h := h.2 c9
        refine x_aload_n C 25 47 rfl 0 rfl rfl ?_
        refine x_get (v := .int (q6.2.1 3 0)) C 26 48 rfl fi_X7 0 rfl rfl 3 (by decide) (mc wq_7_23) rfl ?_
        refine x_iconst (v := (2 : Int32)) C 27 51 rfl (by decide) ?_
        refine x_icmp_ne C 28 52 70 rfl rfl (fun c10 => ?_) (fun c10 => ?_)
        · replace h := h.2 c10
          exact x_sub (lv' := [(0, .ref (aT 0)), (1, .ref (aB 0)), (2, .int q6.1)]) [0, 1, 2] rfl (wj_X7_readInto_70 C rt hR25 h)
        · replace h := h.1 c10
          refine x_aload_n C 29 55 rfl 1 rfl rfl ?_
          refine x_get (v := .int (q6.2.2 4 0)) C 30 56 rfl fi_X1 2 rfl rfl 4 (by decide) (mc wq_8_0) rfl ?_
          refine x_if_ne C 31 59 70 rfl rfl (fun c19 => ?_) (fun c19 => ?_)
          · replace h := h.2 c19
            exact x_sub (lv' := [(0, .ref (aT 0)), (1, .ref (aB 0)), (2, .int q6.1)]) [0, 1, 2] rfl (wj_X7_readInto_70 C rt hR25 h)
          · replace h := h.1 c19
            refine x_aload_n C 32 62 rfl 0 rfl rfl ?_
            refine x_aload_n C 33 63 rfl 1 rfl rfl ?_
            refine x_callWVV (ci := 5) (q0 := 0) (q := (RX7, TX7, 8)) C 34 64 (c_X7_readAct (xl x) (xD x) (xk x) (xg x) aT aB q6.2.1 q6.2.2 _ h) rfl wwGood (mem4 wq_11_14 wq_11_15 wq_11_16 wq_1_15) wq_11_17 1 ok_X7_readAct rfl ⟨by decide, by decide⟩ (Nat.le_of_ble_eq_true rfl) ⟨Nat.le_refl _, Nat.le_refl _⟩ ⟨rfl, rfl⟩ rfl rfl rfl (fun u20 h => ?_)
            refine x_goto C 35 67 103 rfl rfl ?_
            obtain ⟨y21, ey21⟩ : ∃ y : Int32, y = q6.1 + (1 : Int32) := ⟨_, rfl⟩
            replace h := h y21 ey21
            refine x_iinc (v := y21) (lv' := [(0, .ref (aT 0)), (1, .ref (aB 0)), (2, .int y21)]) C 52 103 rfl 2 rfl (by rw [ey21]; rfl) (by decide) [1, 2, 0] rfl ?_
            refine x_goto C 53 106 25 rfl rfl ?_
            exact x_sub [0, 1, 2] rfl (hR25 (y21, u20.1, u20.2) h)
set_option maxHeartbeats 4000000 in
set_option maxRecDepth 100000 in
theorem wj_X7_readInto_109 {x : CT} {aT aB : Nat → Nat} {sT : St} {sB : St} {x2 : Int32} {K : Int32 → (St × St) → Prop} (C : Cx x cX7_readInto tb_X7_readInto 3 RX7 (Cond.code yX7_readInto cX7_readInto 3 (some .int) :: wsL_law) ({ frames := 9, cells := 0, slots := 0, locals := 233 } : Room)) (rt : RetI x 0 0 (fun (u : St × St) => fl [wdT (xk x) aT u.1, wdB (xk x) aB u.2]) (fun (r : Int32) (u : St × St) => K r u))  (h : J_X7_readInto_109 sT sB x2 K) : Wx x 3 0 0 (fl [wdT (xk x) aT sT, wdB (xk x) aB sB]) [(0, .ref (aT 0)), (2, .int x2)] 109 [] := by
  unfold J_X7_readInto_109 at h
  refine x_aload_n C 54 109 rfl 0 rfl rfl ?_
  refine x_get (v := .int (sT 7 0)) C 55 110 rfl fi_X7 0 rfl rfl 7 (by decide) (mc wq_7_21) rfl ?_
  refine x_if_ge C 56 113 120 rfl rfl (fun c23 => ?_) (fun c23 => ?_)
  · replace h := h.1 c23
    refine x_bipush (v := (-10 : Int32)) C 59 120 rfl (by decide) ?_
    refine x_aload_n C 60 122 rfl 0 rfl rfl ?_
    refine x_get (v := .int (sT 7 0)) C 61 123 rfl fi_X7 0 rfl rfl 7 (by decide) (mc wq_7_21) rfl ?_
    refine x_isub C 62 126 rfl ?_
    exact x_iret C rt 63 127 rfl (sT, sB) rfl h
  · replace h := h.2 c23
    refine x_iload_n C 57 116 rfl 1 rfl rfl ?_
    refine x_goto C 58 117 127 rfl rfl ?_
    exact x_iret C rt 63 127 rfl (sT, sB) rfl h
set_option maxHeartbeats 4000000 in
set_option maxRecDepth 100000 in
theorem w_X7_readInto {x : CT} {aT aB : Nat → Nat} {sT : St} {sB : St} {K : Int32 → (St × St) → Prop} (C : Cx x cX7_readInto tb_X7_readInto 3 RX7 (Cond.code yX7_readInto cX7_readInto 3 (some .int) :: wsL_law) ({ frames := 9, cells := 0, slots := 0, locals := 233 } : Room)) (rt : RetI x 0 0 (fun (u : St × St) => fl [wdT (xk x) aT u.1, wdB (xk x) aB u.2]) (fun (r : Int32) (u : St × St) => K r u)) (h : wp_X7_readInto sT sB K) : Wx x 3 0 0 (fl [wdT (xk x) aT sT, wdB (xk x) aB sB]) [(0, .ref (aT 0)), (1, .ref (aB 0))] 0 [] := by
  unfold wp_X7_readInto at h
  refine x_aload_n C 0 0 rfl 1 rfl rfl ?_
  refine x_callGVV (ci := 0) (q0 := 0) (q := (RX1, TX1, 5)) C 1 1 (c_X1_wipe (xl x) (xD x) (xk x) (xg x) aB sB _ h) rfl wwGood (mem4 wq_8_2 wq_8_3 wq_8_4 wq_1_19) wq_8_5 0 ok_X1_wipe rfl ⟨by decide, by decide⟩ (Nat.le_of_ble_eq_true rfl) ⟨Nat.le_refl _, Nat.le_refl _⟩ ⟨rfl, rfl⟩ rfl rfl [wdT (xk x) aT sT] (fun (u : St) => [wdT (xk x) aT sT, wdB (xk x) aB u]) [0, 1] [0, 1] (show List.Perm [0, 1] (List.range 2) by decide) rfl 2 (fun _ => rfl) (by decide) (fun _ => rfl) (fun u1 h => ?_)
  refine x_aload_n C 2 4 rfl 0 rfl rfl ?_
  refine x_iconst (v := (0 : Int32)) C 3 5 rfl (by decide) ?_
  obtain ⟨z2, ez2⟩ : ∃ z : St, z = us sT 6 (0 : Int32) := ⟨_, rfl⟩
  replace h := h z2 ez2
  refine x_put (ws' := fl [wdT (xk x) aT z2, wdB (xk x) aB u1]) C 4 6 rfl fi_X7 tyX7 tyX7_ok nmX7 0 rfl rfl 6 (by decide) (mc wq_7_20) rfl rfl rfl (Nat.le_of_ble_eq_true rfl) (by rw [ez2]; rfl) ?_
  refine x_aload_n C 5 9 rfl 0 rfl rfl ?_
  refine x_iconst (v := (-1 : Int32)) C 6 10 rfl (by decide) ?_
  obtain ⟨z3, ez3⟩ : ∃ z : St, z = us z2 7 (-1 : Int32) := ⟨_, rfl⟩
  replace h := h z3 ez3
  refine x_put (ws' := fl [wdT (xk x) aT z3, wdB (xk x) aB u1]) C 7 11 rfl fi_X7 tyX7 tyX7_ok nmX7 0 rfl rfl 7 (by decide) (mc wq_7_21) rfl rfl rfl (Nat.le_of_ble_eq_true rfl) (by rw [ez3]; rfl) ?_
  refine x_aload_n C 8 14 rfl 0 rfl rfl ?_
  refine x_iconst (v := (0 : Int32)) C 9 15 rfl (by decide) ?_
  obtain ⟨z4, ez4⟩ : ∃ z : St, z = us z3 5 (0 : Int32) := ⟨_, rfl⟩
  replace h := h z4 ez4
  refine x_put (ws' := fl [wdT (xk x) aT z4, wdB (xk x) aB u1]) C 10 16 rfl fi_X7 tyX7 tyX7_ok nmX7 0 rfl rfl 5 (by decide) (mc wq_7_22) rfl rfl rfl (Nat.le_of_ble_eq_true rfl) (by rw [ez4]; rfl) ?_
  refine x_aload_n C 11 19 rfl 0 rfl rfl ?_
  refine x_callGVV (ci := 5) (q0 := 0) (q := (RX7, TX7, 8)) C 12 20 (c_X7_advance (xl x) (xD x) (xk x) (xg x) aT z4 _ h) rfl wwGood (mem4 wq_8_8 wq_8_9 wq_8_10 wq_1_15) wq_8_11 0 ok_X7_advance rfl ⟨by decide, by decide⟩ (Nat.le_of_ble_eq_true rfl) ⟨Nat.le_refl _, Nat.le_refl _⟩ ⟨rfl, rfl⟩ rfl rfl [wdB (xk x) aB u1] (fun (u : St) => [wdT (xk x) aT u, wdB (xk x) aB u1]) [1, 0] [1, 0] (show List.Perm [1, 0] (List.range 2) by decide) rfl 2 (fun _ => rfl) (by decide) (fun _ => rfl) (fun u5 h => ?_)
  refine x_iconst (v := (0 : Int32)) C 13 23 rfl (by decide) ?_
  refine x_istore_n (lv' := [(0, .ref (aT 0)), (1, .ref (aB 0)), (2, .int (0 : Int32))]) C 14 24 rfl rfl (by decide) [1, 2, 0] rfl ?_
  refine x_sub (lv' := [(0, .ref (aT 0)), (1, .ref (aB 0)), (2, .int (0 : Int32))]) [0, 1, 2] rfl (w_X7_readInto_25 C rt (fun q22 h => ?_) h)
  · exact x_sub (lv' := [(0, .ref (aT 0)), (2, .int q22.1)]) [0, 1] rfl (wj_X7_readInto_109 C rt h)
theorem c_X7_readInto (l : Launch) (D : va_G) (k : ClassId × ClassId) (g : Nat → Nat) (aT aB : Nat → Nat) (sT : St) (sB : St) (K : Int32 → (St × St) → Prop) (h : wp_X7_readInto sT sB K) : ConI l yX7_readInto (Cond.code yX7_readInto cX7_readInto 3 (some .int) :: wsL_law) ({ frames := 9, cells := 0, slots := 0, locals := 233 } : Room) D k g [.ref (aT 0), .ref (aB 0)] (fl [wdT k aT sT, wdB k aB sB]) (fun (u : St × St) => fl [wdT k aT u.1, wdB k aB u.2]) (fun (r : Int32) (u : St × St) => K r u) := by
  refine ConI.of (tb := tb_X7_readInto) (cc := cX7_readInto) (nL := 3) (by decide) rfl tbk_X7_readInto (Nat.le_of_ble_eq_true rfl) ?_
  intro x hl hD hk hg C rt
  subst hl hD hk hg
  exact w_X7_readInto C rt h
