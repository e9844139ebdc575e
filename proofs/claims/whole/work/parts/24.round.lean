set_option maxHeartbeats 4000000 in
set_option maxRecDepth 100000 in
theorem w_X5_goesOnBy {x : CT} {aR aB : Nat → Nat} {sR : St} {sB : St} {p2 : Int32} {K : Int32 → Prop} (C : Cx x cX5_goesOnBy tb_X5_goesOnBy 3 RX5 (Cond.code yX5_goesOnBy cX5_goesOnBy 3 (some .boolean) :: wsL_law) ({ frames := 0, cells := 0, slots := 0, locals := 0 } : Room)) (rt : RetZ x 0 0 (fun (u : Unit) => fl [wdR (xk x) aR sR, wdB (xk x) aB sB]) (fun (r : Int32) (_ : Unit) => K r)) (h : wp_X5_goesOnBy sR sB p2 K) : Wx x 3 0 0 (fl [wdR (xk x) aR sR, wdB (xk x) aB sB]) [(0, .ref (aR 0)), (1, .ref (aB 0)), (2, .int p2)] 0 [] := by
  unfold wp_X5_goesOnBy at h
  refine x_aload_n C 0 0 rfl 0 rfl rfl ?_
  refine x_get (v := .int (sR 1 0)) C 1 1 rfl fi_X5 0 rfl rfl 1 (by decide) (mc wq_13_13) rfl ?_
  refine x_if_eq C 2 4 32 rfl rfl (fun c1 => ?_) (fun c1 => ?_)
  · replace h := h.1 c1
    refine x_iconst (v := (1 : Int32)) C 18 32 rfl (by decide) ?_
    refine x_goto C 19 33 37 rfl rfl ?_
    exact x_zret C rt 21 37 rfl zb_1 () rfl h
  · replace h := h.2 c1
    refine x_aload_n C 3 7 rfl 1 rfl rfl ?_
    refine x_get (v := .ref (aB 3)) C 4 8 rfl fi_X1 2 rfl rfl 2 (by decide) (mc wq_27_15) rfl ?_
    refine x_aload_n C 5 11 rfl 0 rfl rfl ?_
    refine x_get (v := .ref (aR 1)) C 6 12 rfl fi_X5 0 rfl rfl 0 (by decide) (mc wq_3_10) rfl ?_
    refine x_aload_n C 7 15 rfl 0 rfl rfl ?_
    refine x_get (v := .int (sR 1 0)) C 8 16 rfl fi_X5 0 rfl rfl 1 (by decide) (mc wq_13_13) rfl ?_
    refine x_iconst (v := (1 : Int32)) C 9 19 rfl (by decide) ?_
    refine x_isub C 10 20 rfl ?_
    obtain ⟨hi, h⟩ := h
    refine x_iald (f := sR 0) C 11 21 rfl 1 rfl hi ?_
    obtain ⟨hi, h⟩ := h
    refine x_iald (f := sB 2) C 12 22 rfl 5 rfl hi ?_
    refine x_aload_n C 13 23 rfl 1 rfl rfl ?_
    refine x_get (v := .ref (aB 2)) C 14 24 rfl fi_X1 2 rfl rfl 1 (by decide) (mc wq_27_16) rfl ?_
    refine x_iload_n C 15 27 rfl 2 rfl rfl ?_
    obtain ⟨hi, h⟩ := h
    refine x_iald (f := sB 1) C 16 28 rfl 4 rfl hi ?_
    refine x_icmp_ne C 17 29 36 rfl rfl (fun c2 => ?_) (fun c2 => ?_)
    · replace h := h.2 c2
      refine x_iconst (v := (0 : Int32)) C 20 36 rfl (by decide) ?_
      exact x_zret C rt 21 37 rfl zb_0 () rfl h
    · replace h := h.1 c2
      refine x_iconst (v := (1 : Int32)) C 18 32 rfl (by decide) ?_
      refine x_goto C 19 33 37 rfl rfl ?_
      exact x_zret C rt 21 37 rfl zb_1 () rfl h
theorem c_X5_goesOnBy (l : Launch) (D : va_G) (k : ClassId × ClassId) (g : Nat → Nat) (aR aB : Nat → Nat) (sR : St) (sB : St) (p2 : Int32) (K : Int32 → Prop) (h : wp_X5_goesOnBy sR sB p2 K) : ConZ l yX5_goesOnBy (Cond.code yX5_goesOnBy cX5_goesOnBy 3 (some .boolean) :: wsL_law) ({ frames := 0, cells := 0, slots := 0, locals := 0 } : Room) D k g [.ref (aR 0), .ref (aB 0), .int p2] (fl [wdR k aR sR, wdB k aB sB]) (fun (u : Unit) => fl [wdR k aR sR, wdB k aB sB]) (fun (r : Int32) (_ : Unit) => K r) := by
  refine ConZ.of (tb := tb_X5_goesOnBy) (cc := cX5_goesOnBy) (nL := 3) (by decide) rfl tbk_X5_goesOnBy (Nat.le_of_ble_eq_true rfl) ?_
  intro x hl hD hk hg C rt
  subst hl hD hk hg
  exact w_X5_goesOnBy C rt h
set_option maxHeartbeats 4000000 in
set_option maxRecDepth 100000 in
theorem w_X5_take {x : CT} {aR : Nat → Nat} {sR : St} {p1 : Int32} {K : Int32 → St → Prop} (C : Cx x cX5_take tb_X5_take 2 RX5 (Cond.code yX5_take cX5_take 2 (some .boolean) :: wsL_law) ({ frames := 0, cells := 0, slots := 0, locals := 0 } : Room)) (rt : RetZ x 0 0 (fun (u : St) => fl [wdR (xk x) aR u]) (fun (r : Int32) (u : St) => K r u)) (h : wp_X5_take sR p1 K) : Wx x 2 0 0 (fl [wdR (xk x) aR sR]) [(0, .ref (aR 0)), (1, .int p1)] 0 [] := by
  unfold wp_X5_take at h
  refine x_aload_n C 0 0 rfl 0 rfl rfl ?_
  refine x_get (v := .int (sR 1 0)) C 1 1 rfl fi_X5 0 rfl rfl 1 (by decide) (mc wq_13_13) rfl ?_
  refine x_bipush (v := (12 : Int32)) C 2 4 rfl (by decide) ?_
  refine x_icmp_lt C 3 6 11 rfl rfl (fun c1 => ?_) (fun c1 => ?_)
  · replace h := h.1 c1
    refine x_aload_n C 6 11 rfl 0 rfl rfl ?_
    refine x_get (v := .ref (aR 1)) C 7 12 rfl fi_X5 0 rfl rfl 0 (by decide) (mc wq_3_10) rfl ?_
    refine x_aload_n C 8 15 rfl 0 rfl rfl ?_
    refine x_get (v := .int (sR 1 0)) C 9 16 rfl fi_X5 0 rfl rfl 1 (by decide) (mc wq_13_13) rfl ?_
    refine x_iload_n C 10 19 rfl 1 rfl rfl ?_
    obtain ⟨hi, h⟩ := h
    obtain ⟨z2, ez2⟩ : ∃ z : St, z = ua sR 0 (sR 1 0) p1 := ⟨_, rfl⟩
    replace h := h z2 ez2
    refine x_iast (f := sR 0) (ws' := fl [wdR (xk x) aR z2]) C 11 20 rfl 1 rfl hi (by rw [ez2]; rfl) ?_
    refine x_aload_n C 12 21 rfl 0 rfl rfl ?_
    refine x_dup C 13 22 rfl rfl ?_
    refine x_get (v := .int (z2 1 0)) C 14 23 rfl fi_X5 0 rfl rfl 1 (by decide) (mc wq_13_13) rfl ?_
    refine x_iconst (v := (1 : Int32)) C 15 26 rfl (by decide) ?_
    refine x_iadd C 16 27 rfl ?_
    obtain ⟨z3, ez3⟩ : ∃ z : St, z = us z2 1 (z2 1 0 + (1 : Int32)) := ⟨_, rfl⟩
    replace h := h z3 ez3
    refine x_put (ws' := fl [wdR (xk x) aR z3]) C 17 28 rfl fi_X5 tyX5 tyX5_ok nmX5 0 rfl rfl 1 (by decide) (mc wq_13_13) rfl rfl rfl (Nat.le_of_ble_eq_true rfl) (by rw [ez3]; rfl) ?_
    refine x_iconst (v := (1 : Int32)) C 18 31 rfl (by decide) ?_
    exact x_zret C rt 19 32 rfl zb_1 z3 rfl h
  · replace h := h.2 c1
    refine x_iconst (v := (0 : Int32)) C 4 9 rfl (by decide) ?_
    exact x_zret C rt 5 10 rfl zb_0 sR rfl h
theorem c_X5_take (l : Launch) (D : va_G) (k : ClassId × ClassId) (g : Nat → Nat) (aR : Nat → Nat) (sR : St) (p1 : Int32) (K : Int32 → St → Prop) (h : wp_X5_take sR p1 K) : ConZ l yX5_take (Cond.code yX5_take cX5_take 2 (some .boolean) :: wsL_law) ({ frames := 0, cells := 0, slots := 0, locals := 0 } : Room) D k g [.ref (aR 0), .int p1] (fl [wdR k aR sR]) (fun (u : St) => fl [wdR k aR u]) (fun (r : Int32) (u : St) => K r u) := by
  refine ConZ.of (tb := tb_X5_take) (cc := cX5_take) (nL := 2) (by decide) rfl tbk_X5_take (Nat.le_of_ble_eq_true rfl) ?_
  intro x hl hD hk hg C rt
  subst hl hD hk hg
  exact w_X5_take C rt h
set_option maxHeartbeats 4000000 in
set_option maxRecDepth 100000 in
theorem w_X5_empty {x : CT} {aR : Nat → Nat} {sR : St} {K : Int32 → St → Prop} (C : Cx x cX5_empty tb_X5_empty 2 RX5 (Cond.code yX5_empty cX5_empty 2 (some .int) :: wsL_law) ({ frames := 0, cells := 0, slots := 0, locals := 0 } : Room)) (rt : RetI x 0 0 (fun (u : St) => fl [wdR (xk x) aR u]) (fun (r : Int32) (u : St) => K r u)) (h : wp_X5_empty sR K) : Wx x 2 0 0 (fl [wdR (xk x) aR sR]) [(0, .ref (aR 0))] 0 [] := by
  unfold wp_X5_empty at h
  refine x_aload_n C 0 0 rfl 0 rfl rfl ?_
  refine x_get (v := .int (sR 1 0)) C 1 1 rfl fi_X5 0 rfl rfl 1 (by decide) (mc wq_13_13) rfl ?_
  refine x_topi (fun y1 ey1 => ?_)
  replace h := h y1 ey1
  refine x_istore_n (lv' := [(0, .ref (aR 0)), (1, .int y1)]) C 2 4 rfl rfl (by decide) [1, 0] rfl ?_
  refine x_aload_n C 3 5 rfl 0 rfl rfl ?_
  refine x_iconst (v := (0 : Int32)) C 4 6 rfl (by decide) ?_
  obtain ⟨z2, ez2⟩ : ∃ z : St, z = us sR 1 (0 : Int32) := ⟨_, rfl⟩
  replace h := h z2 ez2
  refine x_put (ws' := fl [wdR (xk x) aR z2]) C 5 7 rfl fi_X5 tyX5 tyX5_ok nmX5 0 rfl rfl 1 (by decide) (mc wq_13_13) rfl rfl rfl (Nat.le_of_ble_eq_true rfl) (by rw [ez2]; rfl) ?_
  refine x_iload_n C 6 10 rfl 1 rfl rfl ?_
  exact x_iret C rt 7 11 rfl z2 rfl h
theorem c_X5_empty (l : Launch) (D : va_G) (k : ClassId × ClassId) (g : Nat → Nat) (aR : Nat → Nat) (sR : St) (K : Int32 → St → Prop) (h : wp_X5_empty sR K) : ConI l yX5_empty (Cond.code yX5_empty cX5_empty 2 (some .int) :: wsL_law) ({ frames := 0, cells := 0, slots := 0, locals := 0 } : Room) D k g [.ref (aR 0)] (fl [wdR k aR sR]) (fun (u : St) => fl [wdR k aR u]) (fun (r : Int32) (u : St) => K r u) := by
  refine ConI.of (tb := tb_X5_empty) (cc := cX5_empty) (nL := 2) (by decide) rfl tbk_X5_empty (Nat.le_of_ble_eq_true rfl) ?_
  intro x hl hD hk hg C rt
  subst hl hD hk hg
  exact w_X5_empty C rt h
set_option maxHeartbeats 4000000 in
set_option maxRecDepth 100000 in
theorem w_X5_comesBack {x : CT} {aR aB : Nat → Nat} {sR : St} {sB : St} {K : Int32 → Prop} (C : Cx x cX5_comesBack tb_X5_comesBack 2 RX5 (Cond.code yX5_comesBack cX5_comesBack 2 (some .boolean) :: wsL_law) ({ frames := 0, cells := 0, slots := 0, locals := 0 } : Room)) (rt : RetZ x 0 0 (fun (u : Unit) => fl [wdR (xk x) aR sR, wdB (xk x) aB sB]) (fun (r : Int32) (_ : Unit) => K r)) (h : wp_X5_comesBack sR sB K) : Wx x 2 0 0 (fl [wdR (xk x) aR sR, wdB (xk x) aB sB]) [(0, .ref (aR 0)), (1, .ref (aB 0))] 0 [] := by
  unfold wp_X5_comesBack at h
  refine x_aload_n C 0 0 rfl 0 rfl rfl ?_
  refine x_get (v := .int (sR 1 0)) C 1 1 rfl fi_X5 0 rfl rfl 1 (by decide) (mc wq_13_13) rfl ?_
  refine x_if_le C 2 4 41 rfl rfl (fun c1 => ?_) (fun c1 => ?_)
  · replace h := h.1 c1
    refine x_iconst (v := (0 : Int32)) C 23 41 rfl (by decide) ?_
    exact x_zret C rt 24 42 rfl zb_0 () rfl h
  · replace h := h.2 c1
    refine x_aload_n C 3 7 rfl 1 rfl rfl ?_
    refine x_get (v := .ref (aB 3)) C 4 8 rfl fi_X1 2 rfl rfl 2 (by decide) (mc wq_27_15) rfl ?_
    refine x_aload_n C 5 11 rfl 0 rfl rfl ?_
    refine x_get (v := .ref (aR 1)) C 6 12 rfl fi_X5 0 rfl rfl 0 (by decide) (mc wq_3_10) rfl ?_
    refine x_aload_n C 7 15 rfl 0 rfl rfl ?_
    refine x_get (v := .int (sR 1 0)) C 8 16 rfl fi_X5 0 rfl rfl 1 (by decide) (mc wq_13_13) rfl ?_
    refine x_iconst (v := (1 : Int32)) C 9 19 rfl (by decide) ?_
    refine x_isub C 10 20 rfl ?_
    obtain ⟨hi, h⟩ := h
    refine x_iald (f := sR 0) C 11 21 rfl 1 rfl hi ?_
    obtain ⟨hi, h⟩ := h
    refine x_iald (f := sB 2) C 12 22 rfl 5 rfl hi ?_
    refine x_aload_n C 13 23 rfl 1 rfl rfl ?_
    refine x_get (v := .ref (aB 2)) C 14 24 rfl fi_X1 2 rfl rfl 1 (by decide) (mc wq_27_16) rfl ?_
    refine x_aload_n C 15 27 rfl 0 rfl rfl ?_
    refine x_get (v := .ref (aR 1)) C 16 28 rfl fi_X5 0 rfl rfl 0 (by decide) (mc wq_3_10) rfl ?_
    refine x_iconst (v := (0 : Int32)) C 17 31 rfl (by decide) ?_
    refine x_iald (f := sR 0) C 18 32 rfl 1 rfl (vpi rfl) ?_
    obtain ⟨hi, h⟩ := h
    refine x_iald (f := sB 1) C 19 33 rfl 4 rfl hi ?_
    refine x_icmp_ne C 20 34 41 rfl rfl (fun c2 => ?_) (fun c2 => ?_)
    · replace h := h.2 c2
      refine x_iconst (v := (0 : Int32)) C 23 41 rfl (by decide) ?_
      exact x_zret C rt 24 42 rfl zb_0 () rfl h
    · replace h := h.1 c2
      refine x_iconst (v := (1 : Int32)) C 21 37 rfl (by decide) ?_
      refine x_goto C 22 38 42 rfl rfl ?_
      exact x_zret C rt 24 42 rfl zb_1 () rfl h
theorem c_X5_comesBack (l : Launch) (D : va_G) (k : ClassId × ClassId) (g : Nat → Nat) (aR aB : Nat → Nat) (sR : St) (sB : St) (K : Int32 → Prop) (h : wp_X5_comesBack sR sB K) : ConZ l yX5_comesBack (Cond.code yX5_comesBack cX5_comesBack 2 (some .boolean) :: wsL_law) ({ frames := 0, cells := 0, slots := 0, locals := 0 } : Room) D k g [.ref (aR 0), .ref (aB 0)] (fl [wdR k aR sR, wdB k aB sB]) (fun (u : Unit) => fl [wdR k aR sR, wdB k aB sB]) (fun (r : Int32) (_ : Unit) => K r) := by
  refine ConZ.of (tb := tb_X5_comesBack) (cc := cX5_comesBack) (nL := 2) (by decide) rfl tbk_X5_comesBack (Nat.le_of_ble_eq_true rfl) ?_
  intro x hl hD hk hg C rt
  subst hl hD hk hg
  exact w_X5_comesBack C rt h
set_option maxHeartbeats 4000000 in
set_option maxRecDepth 100000 in
theorem w_X5_arcsOfAll_14 {x : CT} {aR aB : Nat → Nat} {sR : St} {sB : St} {K : Int32 → Prop} (C : Cx x cX5_arcsOfAll tb_X5_arcsOfAll 4 RX5 (Cond.code yX5_arcsOfAll cX5_arcsOfAll 4 (some .int) :: wsL_law) ({ frames := 2, cells := 0, slots := 0, locals := 48 } : Room)) (rt : RetI x 0 0 (fun (u : Unit) => fl [wdR (xk x) aR sR, wdB (xk x) aB sB]) (fun (r : Int32) (_ : Unit) => K r))  {q2 : Int32 × Int32} (h : Lp (F_X5_arcsOfAll_14 sR sB K) q2) : Wx x 4 0 0 (fl [wdR (xk x) aR sR, wdB (xk x) aB sB]) [(0, .ref (aR 0)), (1, .ref (aB 0)), (2, .int q2.1), (3, .int q2.2)] 14 [] := by
  refine lp_walk (P := fun q2 => Wx x 4 0 0 (fl [wdR (xk x) aR sR, wdB (xk x) aB sB]) [(0, .ref (aR 0)), (1, .ref (aB 0)), (2, .int q2.1), (3, .int q2.2)] 14 []) (fun q2 R14 hR14 h => ?_) h
  refine x_iload_n C 10 14 rfl 3 rfl rfl ?_
  refine x_aload_n C 11 15 rfl 0 rfl rfl ?_
  refine x_get (v := .int (sR 1 0)) C 12 16 rfl fi_X5 0 rfl rfl 1 (by decide) (mc wq_13_13) rfl ?_
  refine x_icmp_ge C 13 19 44 rfl rfl (fun c3 => ?_) (fun c3 => ?_)
  · replace h := h.1 c3
    refine x_iload_n C 26 44 rfl 2 rfl rfl ?_
    exact x_iret C rt 27 45 rfl () rfl h
  · replace h := h.2 c3
    refine x_iload_n C 14 22 rfl 2 rfl rfl ?_
    refine x_aload_n C 15 23 rfl 1 rfl rfl ?_
    refine x_get (v := .ref (aB 4)) C 16 24 rfl fi_X1 2 rfl rfl 3 (by decide) (mc wq_28_21) rfl ?_
    refine x_aload_n C 17 27 rfl 0 rfl rfl ?_
    refine x_get (v := .ref (aR 1)) C 18 28 rfl fi_X5 0 rfl rfl 0 (by decide) (mc wq_3_10) rfl ?_
    refine x_iload_n C 19 31 rfl 3 rfl rfl ?_
    obtain ⟨hi, h⟩ := h
    refine x_iald (f := sR 0) C 20 32 rfl 1 rfl hi ?_
    obtain ⟨hi, h⟩ := h
    refine x_iald (f := sB 3) C 21 33 rfl 6 rfl hi ?_
    refine x_call0SI C 22 34 (c_X0_join (xl x) (xD x) (xk x) (xg x) q2.1 (sB 3 (sR 0 q2.2.toNatClampNeg).toNatClampNeg) _ h) rfl wwGood (mem3 wq_28_22 wq_21_7 wq_12_20) wq_21_8 2 ok_X0_join rfl ⟨by decide, by decide⟩ (Nat.le_of_ble_eq_true rfl) ⟨Nat.le_refl _, Nat.le_refl _⟩ ⟨rfl, rfl⟩ rfl (fun r4 _ h => ?_)
    refine x_istore_n (lv' := [(0, .ref (aR 0)), (1, .ref (aB 0)), (2, .int r4), (3, .int q2.2)]) C 23 37 rfl rfl (by decide) [1, 2, 0, 3] rfl ?_
    obtain ⟨y5, ey5⟩ : ∃ y : Int32, y = q2.2 + (1 : Int32) := ⟨_, rfl⟩
    replace h := h y5 ey5
    refine x_iinc (v := y5) (lv' := [(0, .ref (aR 0)), (1, .ref (aB 0)), (2, .int r4), (3, .int y5)]) C 24 38 rfl 3 rfl (by rw [ey5]; rfl) (by decide) [1, 2, 3, 0] rfl ?_
    refine x_goto C 25 41 14 rfl rfl ?_
    exact x_sub [0, 1, 2, 3] rfl (hR14 (r4, y5) h)
set_option maxHeartbeats 4000000 in
set_option maxRecDepth 100000 in
theorem w_X5_arcsOfAll {x : CT} {aR aB : Nat → Nat} {sR : St} {sB : St} {K : Int32 → Prop} (C : Cx x cX5_arcsOfAll tb_X5_arcsOfAll 4 RX5 (Cond.code yX5_arcsOfAll cX5_arcsOfAll 4 (some .int) :: wsL_law) ({ frames := 2, cells := 0, slots := 0, locals := 48 } : Room)) (rt : RetI x 0 0 (fun (u : Unit) => fl [wdR (xk x) aR sR, wdB (xk x) aB sB]) (fun (r : Int32) (_ : Unit) => K r)) (h : wp_X5_arcsOfAll sR sB K) : Wx x 4 0 0 (fl [wdR (xk x) aR sR, wdB (xk x) aB sB]) [(0, .ref (aR 0)), (1, .ref (aB 0))] 0 [] := by
  unfold wp_X5_arcsOfAll at h
  refine x_aload_n C 0 0 rfl 1 rfl rfl ?_
  refine x_get (v := .ref (aB 4)) C 1 1 rfl fi_X1 2 rfl rfl 3 (by decide) (mc wq_28_21) rfl ?_
  refine x_aload_n C 2 4 rfl 0 rfl rfl ?_
  refine x_get (v := .ref (aR 1)) C 3 5 rfl fi_X5 0 rfl rfl 0 (by decide) (mc wq_3_10) rfl ?_
  refine x_iconst (v := (0 : Int32)) C 4 8 rfl (by decide) ?_
  refine x_iald (f := sR 0) C 5 9 rfl 1 rfl (vpi rfl) ?_
  obtain ⟨hi, h⟩ := h
  refine x_iald (f := sB 3) C 6 10 rfl 6 rfl hi ?_
  refine x_topi (fun y1 ey1 => ?_)
  replace h := h y1 ey1
  refine x_istore_n (lv' := [(0, .ref (aR 0)), (1, .ref (aB 0)), (2, .int y1)]) C 7 11 rfl rfl (by decide) [1, 2, 0] rfl ?_
  refine x_iconst (v := (1 : Int32)) C 8 12 rfl (by decide) ?_
  refine x_istore_n (lv' := [(0, .ref (aR 0)), (1, .ref (aB 0)), (2, .int y1), (3, .int (1 : Int32))]) C 9 13 rfl rfl (by decide) [1, 2, 3, 0] rfl ?_
  refine x_sub (lv' := [(0, .ref (aR 0)), (1, .ref (aB 0)), (2, .int y1), (3, .int (1 : Int32))]) [0, 1, 2, 3] rfl (w_X5_arcsOfAll_14 C rt h)
theorem c_X5_arcsOfAll (l : Launch) (D : va_G) (k : ClassId × ClassId) (g : Nat → Nat) (aR aB : Nat → Nat) (sR : St) (sB : St) (K : Int32 → Prop) (h : wp_X5_arcsOfAll sR sB K) : ConI l yX5_arcsOfAll (Cond.code yX5_arcsOfAll cX5_arcsOfAll 4 (some .int) :: wsL_law) ({ frames := 2, cells := 0, slots := 0, locals := 48 } : Room) D k g [.ref (aR 0), .ref (aB 0)] (fl [wdR k aR sR, wdB k aB sB]) (fun (u : Unit) => fl [wdR k aR sR, wdB k aB sB]) (fun (r : Int32) (_ : Unit) => K r) := by
  refine ConI.of (tb := tb_X5_arcsOfAll) (cc := cX5_arcsOfAll) (nL := 4) (by decide) rfl tbk_X5_arcsOfAll (Nat.le_of_ble_eq_true rfl) ?_
  intro x hl hD hk hg C rt
  subst hl hD hk hg
  exact w_X5_arcsOfAll C rt h
