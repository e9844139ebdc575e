set_option maxHeartbeats 4000000 in
set_option maxRecDepth 100000 in
theorem w_X8_ofCall {x : CT} {aW aB : Nat → Nat} {sW : Int64} {sB : St} {p2 : Int32} {K : Int32 → Int64 → Prop} (C : Cx x cX8_ofCall tb_X8_ofCall 3 RX8 (Cond.code yX8_ofCall cX8_ofCall 3 (some .int) :: wsL_law) ({ frames := 1, cells := 0, slots := 0, locals := 23 } : Room)) (rt : RetI x 0 0 (fun (u : Int64) => fl [wdW (xk x) aW u, wdB (xk x) aB sB]) (fun (r : Int32) (u : Int64) => K r u)) (h : wp_X8_ofCall sW sB p2 K) : Wx x 3 0 0 (fl [wdW (xk x) aW sW, wdB (xk x) aB sB]) [(0, .ref (aW 0)), (1, .ref (aB 0)), (2, .int p2)] 0 [] := by
  unfold wp_X8_ofCall at h
  refine x_aload_n C 0 0 rfl 0 rfl rfl ?_
  refine x_dup C 1 1 rfl rfl ?_
  refine x_get (v := .long sW) C 2 2 rfl fi_X8 0 rfl rfl 0 (by decide) (mc wq_38_11) rfl ?_
  refine x_lconst (v := (1 : Int64)) C 3 5 rfl (by decide) ?_
  refine x_ladd C 4 6 rfl ?_
  refine x_put (ws' := fl [wdW (xk x) aW (sW + (1 : Int64)), wdB (xk x) aB sB]) C 5 7 rfl fi_X8 tyX8 tyX8_ok nmX8 0 rfl rfl 0 (by decide) (mc wq_38_11) rfl rfl rfl (Nat.le_of_ble_eq_true rfl) rfl ?_
  refine x_aload_n C 6 10 rfl 1 rfl rfl ?_
  refine x_get (v := .ref (aB 4)) C 7 11 rfl fi_X1 1 rfl rfl 3 (by decide) (mc wq_38_12) rfl ?_
  refine x_iload_n C 8 14 rfl 2 rfl rfl ?_
  obtain ⟨hi, h⟩ := h
  refine x_iald (f := sB 3) C 9 15 rfl 5 rfl hi ?_
  refine x_iconst (v := (1 : Int32)) C 10 16 rfl (by decide) ?_
  refine x_call0SI C 11 17 (c_X0_howMany (xl x) (xD x) (xk x) (xg x) (sB 3 p2.toNatClampNeg) (1 : Int32) _ h) rfl wwGood (mem3 wq_38_13 wq_38_14 wq_12_20) wq_38_15 2 ok_X0_howMany rfl ⟨by decide, by decide⟩ (Nat.le_of_ble_eq_true rfl) ⟨Nat.le_refl _, Nat.le_refl _⟩ ⟨rfl, rfl⟩ rfl (fun r1 _ h => ?_)
  exact x_iret C rt 12 20 rfl (sW + (1 : Int64)) rfl h
theorem c_X8_ofCall (l : Launch) (D : va_G) (k : ClassId × ClassId) (g : Nat → Nat) (aW aB : Nat → Nat) (sW : Int64) (sB : St) (p2 : Int32) (K : Int32 → Int64 → Prop) (h : wp_X8_ofCall sW sB p2 K) : ConI l yX8_ofCall (Cond.code yX8_ofCall cX8_ofCall 3 (some .int) :: wsL_law) ({ frames := 1, cells := 0, slots := 0, locals := 23 } : Room) D k g [.ref (aW 0), .ref (aB 0), .int p2] (fl [wdW k aW sW, wdB k aB sB]) (fun (u : Int64) => fl [wdW k aW u, wdB k aB sB]) (fun (r : Int32) (u : Int64) => K r u) := by
  refine ConI.of (tb := tb_X8_ofCall) (cc := cX8_ofCall) (nL := 3) (by decide) rfl tbk_X8_ofCall (Nat.le_of_ble_eq_true rfl) ?_
  intro x hl hD hk hg C rt
  subst hl hD hk hg
  exact w_X8_ofCall C rt h
set_option maxHeartbeats 4000000 in
set_option maxRecDepth 100000 in
theorem w_X8_ofSelf {x : CT} {aW aB : Nat → Nat} {sW : Int64} {sB : St} {p2 : Int32} {K : Int32 → Int64 → Prop} (C : Cx x cX8_ofSelf tb_X8_ofSelf 3 RX8 (Cond.code yX8_ofSelf cX8_ofSelf 3 (some .int) :: wsL_law) ({ frames := 2, cells := 0, slots := 0, locals := 45 } : Room)) (rt : RetI x 0 0 (fun (u : Int64) => fl [wdW (xk x) aW u, wdB (xk x) aB sB]) (fun (r : Int32) (u : Int64) => K r u)) (h : wp_X8_ofSelf sW sB p2 K) : Wx x 3 0 0 (fl [wdW (xk x) aW sW, wdB (xk x) aB sB]) [(0, .ref (aW 0)), (1, .ref (aB 0)), (2, .int p2)] 0 [] := by
  unfold wp_X8_ofSelf at h
  refine x_aload_n C 0 0 rfl 0 rfl rfl ?_
  refine x_dup C 1 1 rfl rfl ?_
  refine x_get (v := .long sW) C 2 2 rfl fi_X8 0 rfl rfl 0 (by decide) (mc wq_38_11) rfl ?_
  refine x_ldc2 (v := (10 : Int64)) C 3 5 rfl (mc wq_38_20) ?_
  refine x_ladd C 4 8 rfl ?_
  refine x_put (ws' := fl [wdW (xk x) aW (sW + (10 : Int64)), wdB (xk x) aB sB]) C 5 9 rfl fi_X8 tyX8 tyX8_ok nmX8 0 rfl rfl 0 (by decide) (mc wq_38_11) rfl rfl rfl (Nat.le_of_ble_eq_true rfl) rfl ?_
  refine x_aload_n C 6 12 rfl 0 rfl rfl ?_
  refine x_aload_n C 7 13 rfl 1 rfl rfl ?_
  refine x_iload_n C 8 14 rfl 2 rfl rfl ?_
  refine x_callWVI (ci := 6) (q0 := 0) (q := (RX8, TX8, 1)) C 9 15 (c_X8_ofCall (xl x) (xD x) (xk x) (xg x) aW aB (sW + (10 : Int64)) sB p2 _ h) rfl wwGood (mem4 wq_38_21 wq_38_8 wq_38_9 wq_2_16) wq_38_10 2 ok_X8_ofCall rfl ⟨by decide, by decide⟩ (Nat.le_of_ble_eq_true rfl) ⟨Nat.le_refl _, Nat.le_refl _⟩ ⟨rfl, rfl⟩ rfl rfl rfl (fun r1 u1 h => ?_)
  refine x_aload_n C 10 18 rfl 1 rfl rfl ?_
  refine x_get (v := .ref (aB 4)) C 11 19 rfl fi_X1 1 rfl rfl 3 (by decide) (mc wq_38_12) rfl ?_
  refine x_iload_n C 12 22 rfl 2 rfl rfl ?_
  obtain ⟨hi, h⟩ := h
  refine x_iald (f := sB 3) C 13 23 rfl 5 rfl hi ?_
  refine x_iconst (v := (2 : Int32)) C 14 24 rfl (by decide) ?_
  refine x_call0SI C 15 25 (c_X0_howMany (xl x) (xD x) (xk x) (xg x) (sB 3 p2.toNatClampNeg) (2 : Int32) _ h) rfl wwGood (mem3 wq_38_13 wq_38_14 wq_12_20) wq_38_15 2 ok_X0_howMany rfl ⟨by decide, by decide⟩ (Nat.le_of_ble_eq_true rfl) ⟨Nat.le_refl _, Nat.le_refl _⟩ ⟨rfl, rfl⟩ rfl (fun r2 _ h => ?_)
  refine x_iadd C 16 28 rfl ?_
  exact x_iret C rt 17 29 rfl u1 rfl h
theorem c_X8_ofSelf (l : Launch) (D : va_G) (k : ClassId × ClassId) (g : Nat → Nat) (aW aB : Nat → Nat) (sW : Int64) (sB : St) (p2 : Int32) (K : Int32 → Int64 → Prop) (h : wp_X8_ofSelf sW sB p2 K) : ConI l yX8_ofSelf (Cond.code yX8_ofSelf cX8_ofSelf 3 (some .int) :: wsL_law) ({ frames := 2, cells := 0, slots := 0, locals := 45 } : Room) D k g [.ref (aW 0), .ref (aB 0), .int p2] (fl [wdW k aW sW, wdB k aB sB]) (fun (u : Int64) => fl [wdW k aW u, wdB k aB sB]) (fun (r : Int32) (u : Int64) => K r u) := by
  refine ConI.of (tb := tb_X8_ofSelf) (cc := cX8_ofSelf) (nL := 3) (by decide) rfl tbk_X8_ofSelf (Nat.le_of_ble_eq_true rfl) ?_
  intro x hl hD hk hg C rt
  subst hl hD hk hg
  exact w_X8_ofSelf C rt h
set_option maxHeartbeats 4000000 in
set_option maxRecDepth 100000 in
theorem w_X8_ofOther {x : CT} {aW aB : Nat → Nat} {sW : Int64} {sB : St} {p2 : Int32} {K : Int32 → Int64 → Prop} (C : Cx x cX8_ofOther tb_X8_ofOther 3 RX8 (Cond.code yX8_ofOther cX8_ofOther 3 (some .int) :: wsL_law) ({ frames := 2, cells := 0, slots := 0, locals := 45 } : Room)) (rt : RetI x 0 0 (fun (u : Int64) => fl [wdW (xk x) aW u, wdB (xk x) aB sB]) (fun (r : Int32) (u : Int64) => K r u)) (h : wp_X8_ofOther sW sB p2 K) : Wx x 3 0 0 (fl [wdW (xk x) aW sW, wdB (xk x) aB sB]) [(0, .ref (aW 0)), (1, .ref (aB 0)), (2, .int p2)] 0 [] := by
  unfold wp_X8_ofOther at h
  refine x_aload_n C 0 0 rfl 0 rfl rfl ?_
  refine x_dup C 1 1 rfl rfl ?_
  refine x_get (v := .long sW) C 2 2 rfl fi_X8 0 rfl rfl 0 (by decide) (mc wq_38_11) rfl ?_
  refine x_ldc2 (v := (100 : Int64)) C 3 5 rfl (mc wq_39_2) ?_
  refine x_ladd C 4 8 rfl ?_
  refine x_put (ws' := fl [wdW (xk x) aW (sW + (100 : Int64)), wdB (xk x) aB sB]) C 5 9 rfl fi_X8 tyX8 tyX8_ok nmX8 0 rfl rfl 0 (by decide) (mc wq_38_11) rfl rfl rfl (Nat.le_of_ble_eq_true rfl) rfl ?_
  refine x_aload_n C 6 12 rfl 0 rfl rfl ?_
  refine x_aload_n C 7 13 rfl 1 rfl rfl ?_
  refine x_iload_n C 8 14 rfl 2 rfl rfl ?_
  refine x_callWVI (ci := 6) (q0 := 0) (q := (RX8, TX8, 1)) C 9 15 (c_X8_ofCall (xl x) (xD x) (xk x) (xg x) aW aB (sW + (100 : Int64)) sB p2 _ h) rfl wwGood (mem4 wq_38_21 wq_38_8 wq_38_9 wq_2_16) wq_38_10 2 ok_X8_ofCall rfl ⟨by decide, by decide⟩ (Nat.le_of_ble_eq_true rfl) ⟨Nat.le_refl _, Nat.le_refl _⟩ ⟨rfl, rfl⟩ rfl rfl rfl (fun r1 u1 h => ?_)
  refine x_iconst (v := (2 : Int32)) C 10 18 rfl (by decide) ?_
  refine x_imul C 11 19 rfl ?_
  exact x_iret C rt 12 20 rfl u1 rfl h
theorem c_X8_ofOther (l : Launch) (D : va_G) (k : ClassId × ClassId) (g : Nat → Nat) (aW aB : Nat → Nat) (sW : Int64) (sB : St) (p2 : Int32) (K : Int32 → Int64 → Prop) (h : wp_X8_ofOther sW sB p2 K) : ConI l yX8_ofOther (Cond.code yX8_ofOther cX8_ofOther 3 (some .int) :: wsL_law) ({ frames := 2, cells := 0, slots := 0, locals := 45 } : Room) D k g [.ref (aW 0), .ref (aB 0), .int p2] (fl [wdW k aW sW, wdB k aB sB]) (fun (u : Int64) => fl [wdW k aW u, wdB k aB sB]) (fun (r : Int32) (u : Int64) => K r u) := by
  refine ConI.of (tb := tb_X8_ofOther) (cc := cX8_ofOther) (nL := 3) (by decide) rfl tbk_X8_ofOther (Nat.le_of_ble_eq_true rfl) ?_
  intro x hl hD hk hg C rt
  subst hl hD hk hg
  exact w_X8_ofOther C rt h
set_option maxHeartbeats 4000000 in
set_option maxRecDepth 100000 in
theorem w_X8_ofPlain {x : CT} {aW aB : Nat → Nat} {sW : Int64} {sB : St} {p2 : Int32} {K : Int32 → Int64 → Prop} (C : Cx x cX8_ofPlain tb_X8_ofPlain 3 RX8 (Cond.code yX8_ofPlain cX8_ofPlain 3 (some .int) :: wsL_law) ({ frames := 3, cells := 0, slots := 0, locals := 67 } : Room)) (rt : RetI x 0 0 (fun (u : Int64) => fl [wdW (xk x) aW u, wdB (xk x) aB sB]) (fun (r : Int32) (u : Int64) => K r u)) (h : wp_X8_ofPlain sW sB p2 K) : Wx x 3 0 0 (fl [wdW (xk x) aW sW, wdB (xk x) aB sB]) [(0, .ref (aW 0)), (1, .ref (aB 0)), (2, .int p2)] 0 [] := by
  unfold wp_X8_ofPlain at h
  refine x_aload_n C 0 0 rfl 0 rfl rfl ?_
  refine x_dup C 1 1 rfl rfl ?_
  refine x_get (v := .long sW) C 2 2 rfl fi_X8 0 rfl rfl 0 (by decide) (mc wq_38_11) rfl ?_
  refine x_ldc2 (v := (1000 : Int64)) C 3 5 rfl (mc wq_39_7) ?_
  refine x_ladd C 4 8 rfl ?_
  refine x_put (ws' := fl [wdW (xk x) aW (sW + (1000 : Int64)), wdB (xk x) aB sB]) C 5 9 rfl fi_X8 tyX8 tyX8_ok nmX8 0 rfl rfl 0 (by decide) (mc wq_38_11) rfl rfl rfl (Nat.le_of_ble_eq_true rfl) rfl ?_
  refine x_aload_n C 6 12 rfl 0 rfl rfl ?_
  refine x_aload_n C 7 13 rfl 1 rfl rfl ?_
  refine x_iload_n C 8 14 rfl 2 rfl rfl ?_
  refine x_callWVI (ci := 6) (q0 := 0) (q := (RX8, TX8, 1)) C 9 15 (c_X8_ofSelf (xl x) (xD x) (xk x) (xg x) aW aB (sW + (1000 : Int64)) sB p2 _ h) rfl wwGood (mem4 wq_39_8 wq_38_17 wq_38_18 wq_2_16) wq_38_19 2 ok_X8_ofSelf rfl ⟨by decide, by decide⟩ (Nat.le_of_ble_eq_true rfl) ⟨Nat.le_refl _, Nat.le_refl _⟩ ⟨rfl, rfl⟩ rfl rfl rfl (fun r1 u1 h => ?_)
  refine x_aload_n C 10 18 rfl 1 rfl rfl ?_
  refine x_get (v := .ref (aB 4)) C 11 19 rfl fi_X1 1 rfl rfl 3 (by decide) (mc wq_38_12) rfl ?_
  refine x_iload_n C 12 22 rfl 2 rfl rfl ?_
  obtain ⟨hi, h⟩ := h
  refine x_iald (f := sB 3) C 13 23 rfl 5 rfl hi ?_
  refine x_call0SI C 14 24 (c_X0_howManyToThemselves (xl x) (xD x) (xk x) (xg x) (sB 3 p2.toNatClampNeg) _ h) rfl wwGood (mem3 wq_39_9 wq_39_10 wq_12_20) wq_39_11 1 ok_X0_howManyToThemselves rfl ⟨by decide, by decide⟩ (Nat.le_of_ble_eq_true rfl) ⟨Nat.le_refl _, Nat.le_refl _⟩ ⟨rfl, rfl⟩ rfl (fun r2 _ h => ?_)
  refine x_isub C 15 27 rfl ?_
  exact x_iret C rt 16 28 rfl u1 rfl h
theorem c_X8_ofPlain (l : Launch) (D : va_G) (k : ClassId × ClassId) (g : Nat → Nat) (aW aB : Nat → Nat) (sW : Int64) (sB : St) (p2 : Int32) (K : Int32 → Int64 → Prop) (h : wp_X8_ofPlain sW sB p2 K) : ConI l yX8_ofPlain (Cond.code yX8_ofPlain cX8_ofPlain 3 (some .int) :: wsL_law) ({ frames := 3, cells := 0, slots := 0, locals := 67 } : Room) D k g [.ref (aW 0), .ref (aB 0), .int p2] (fl [wdW k aW sW, wdB k aB sB]) (fun (u : Int64) => fl [wdW k aW u, wdB k aB sB]) (fun (r : Int32) (u : Int64) => K r u) := by
  refine ConI.of (tb := tb_X8_ofPlain) (cc := cX8_ofPlain) (nL := 3) (by decide) rfl tbk_X8_ofPlain (Nat.le_of_ble_eq_true rfl) ?_
  intro x hl hD hk hg C rt
  subst hl hD hk hg
  exact w_X8_ofPlain C rt h
set_option maxHeartbeats 4000000 in
set_option maxRecDepth 100000 in
theorem w_X8_ofFar {x : CT} {aW aB : Nat → Nat} {sW : Int64} {sB : St} {p2 : Int32} {K : Int32 → Int64 → Prop} (C : Cx x cX8_ofFar tb_X8_ofFar 3 RX8 (Cond.code yX8_ofFar cX8_ofFar 3 (some .int) :: wsL_law) ({ frames := 3, cells := 0, slots := 0, locals := 67 } : Room)) (rt : RetI x 0 0 (fun (u : Int64) => fl [wdW (xk x) aW u, wdB (xk x) aB sB]) (fun (r : Int32) (u : Int64) => K r u)) (h : wp_X8_ofFar sW sB p2 K) : Wx x 3 0 0 (fl [wdW (xk x) aW sW, wdB (xk x) aB sB]) [(0, .ref (aW 0)), (1, .ref (aB 0)), (2, .int p2)] 0 [] := by
  unfold wp_X8_ofFar at h
  refine x_aload_n C 0 0 rfl 0 rfl rfl ?_
  refine x_dup C 1 1 rfl rfl ?_
  refine x_get (v := .long sW) C 2 2 rfl fi_X8 0 rfl rfl 0 (by decide) (mc wq_38_11) rfl ?_
  refine x_ldc2 (v := (10000 : Int64)) C 3 5 rfl (mc wq_39_16) ?_
  refine x_ladd C 4 8 rfl ?_
  refine x_put (ws' := fl [wdW (xk x) aW (sW + (10000 : Int64)), wdB (xk x) aB sB]) C 5 9 rfl fi_X8 tyX8 tyX8_ok nmX8 0 rfl rfl 0 (by decide) (mc wq_38_11) rfl rfl rfl (Nat.le_of_ble_eq_true rfl) rfl ?_
  refine x_aload_n C 6 12 rfl 0 rfl rfl ?_
  refine x_aload_n C 7 13 rfl 1 rfl rfl ?_
  refine x_iload_n C 8 14 rfl 2 rfl rfl ?_
  refine x_callWVI (ci := 6) (q0 := 0) (q := (RX8, TX8, 1)) C 9 15 (c_X8_ofOther (xl x) (xD x) (xk x) (xg x) aW aB (sW + (10000 : Int64)) sB p2 _ h) rfl wwGood (mem4 wq_39_19 wq_38_23 wq_39_0 wq_2_16) wq_39_1 2 ok_X8_ofOther rfl ⟨by decide, by decide⟩ (Nat.le_of_ble_eq_true rfl) ⟨Nat.le_refl _, Nat.le_refl _⟩ ⟨rfl, rfl⟩ rfl rfl rfl (fun r1 u1 h => ?_)
  refine x_aload_n C 10 18 rfl 1 rfl rfl ?_
  refine x_get (v := .ref (aB 1)) C 11 19 rfl fi_X1 1 rfl rfl 0 (by decide) (mc wq_39_17) rfl ?_
  refine x_aload_n C 12 22 rfl 1 rfl rfl ?_
  refine x_get (v := .ref (aB 3)) C 13 23 rfl fi_X1 1 rfl rfl 2 (by decide) (mc wq_39_18) rfl ?_
  refine x_iload_n C 14 26 rfl 2 rfl rfl ?_
  obtain ⟨hi, h⟩ := h
  refine x_iald (f := sB 2) C 15 27 rfl 4 rfl hi ?_
  obtain ⟨hi, h⟩ := h
  refine x_iald (f := sB 0) C 16 28 rfl 2 rfl hi ?_
  refine x_iadd C 17 29 rfl ?_
  exact x_iret C rt 18 30 rfl u1 rfl h
theorem c_X8_ofFar (l : Launch) (D : va_G) (k : ClassId × ClassId) (g : Nat → Nat) (aW aB : Nat → Nat) (sW : Int64) (sB : St) (p2 : Int32) (K : Int32 → Int64 → Prop) (h : wp_X8_ofFar sW sB p2 K) : ConI l yX8_ofFar (Cond.code yX8_ofFar cX8_ofFar 3 (some .int) :: wsL_law) ({ frames := 3, cells := 0, slots := 0, locals := 67 } : Room) D k g [.ref (aW 0), .ref (aB 0), .int p2] (fl [wdW k aW sW, wdB k aB sB]) (fun (u : Int64) => fl [wdW k aW u, wdB k aB sB]) (fun (r : Int32) (u : Int64) => K r u) := by
  refine ConI.of (tb := tb_X8_ofFar) (cc := cX8_ofFar) (nL := 3) (by decide) rfl tbk_X8_ofFar (Nat.le_of_ble_eq_true rfl) ?_
  intro x hl hD hk hg C rt
  subst hl hD hk hg
  exact w_X8_ofFar C rt h
