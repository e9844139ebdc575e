set_option maxHeartbeats 4000000 in
set_option maxRecDepth 100000 in
theorem w_X1_wipe {x : CT} {aB : Nat → Nat} {sB : St} {K : St → Prop} (C : Cx x cX1_wipe tb_X1_wipe 1 RX1 (Cond.code yX1_wipe cX1_wipe 1 none :: wsL_law) ({ frames := 1, cells := 0, slots := 0, locals := 23 } : Room)) (rt : RetV x 0 0 (fun (u : St) => fl [wdB (xk x) aB u]) (fun (u : St) => K u)) (h : wp_X1_wipe sB K) : Wx x 1 0 0 (fl [wdB (xk x) aB sB]) [(0, .ref (aB 0))] 0 [] := by
  unfold wp_X1_wipe at h
  refine x_aload_n C 0 0 rfl 0 rfl rfl ?_
  refine x_get (v := .ref (aB 1)) C 1 1 rfl fi_X1 0 rfl rfl 0 (by decide) (mc wq_3_3) rfl ?_
  refine x_iconst (v := (0 : Int32)) C 2 4 rfl (by decide) ?_
  obtain ⟨z1, ez1⟩ : ∃ z : St, z = uf sB 0 4 (0 : Int32) := ⟨_, rfl⟩
  replace h := h z1 ez1
  refine x_fill (f := sB 0) (ws' := fl [wdB (xk x) aB z1]) C 3 5 rfl (mem3 wq_8_7 wq_4_0 wq_4_1) ⟨by decide, by decide⟩ (Nat.le_of_ble_eq_true rfl) ⟨Nat.le_refl _, Nat.le_refl _⟩ 1 rfl (by decide) (by rw [ez1]; rfl) ?_
  refine x_aload_n C 4 8 rfl 0 rfl rfl ?_
  refine x_iconst (v := (0 : Int32)) C 5 9 rfl (by decide) ?_
  obtain ⟨z2, ez2⟩ : ∃ z : St, z = us z1 4 (0 : Int32) := ⟨_, rfl⟩
  replace h := h z2 ez2
  refine x_put (ws' := fl [wdB (xk x) aB z2]) C 6 10 rfl fi_X1 tyX1 tyX1_ok nmX1 0 rfl rfl 4 (by decide) (mc wq_8_6) rfl rfl rfl (Nat.le_of_ble_eq_true rfl) (by rw [ez2]; rfl) ?_
  exact x_vret C rt 7 13 rfl z2 rfl h
theorem c_X1_wipe (l : Launch) (D : va_G) (k : ClassId × ClassId) (g : Nat → Nat) (aB : Nat → Nat) (sB : St) (K : St → Prop) (h : wp_X1_wipe sB K) : ConV l yX1_wipe (Cond.code yX1_wipe cX1_wipe 1 none :: wsL_law) ({ frames := 1, cells := 0, slots := 0, locals := 23 } : Room) D k g [.ref (aB 0)] (fl [wdB k aB sB]) (fun (u : St) => fl [wdB k aB u]) (fun (u : St) => K u) := by
  refine ConV.of (tb := tb_X1_wipe) (cc := cX1_wipe) (nL := 1) (by decide) rfl tbk_X1_wipe (Nat.le_of_ble_eq_true rfl) ?_
  intro x hl hD hk hg C rt
  subst hl hD hk hg
  exact w_X1_wipe C rt h
set_option maxHeartbeats 4000000 in
set_option maxRecDepth 100000 in
theorem w_X1_copyFrom {x : CT} {aB aO : Nat → Nat} {sB : St} {sO : St} {K : St → Prop} (C : Cx x cX1_copyFrom tb_X1_copyFrom 2 RX1 (Cond.code yX1_copyFrom cX1_copyFrom 2 none :: wsL_law) ({ frames := 1, cells := 0, slots := 0, locals := 60 } : Room)) (rt : RetV x 0 0 (fun (u : St) => fl [wdB (xk x) aB u, wdB (xk x) aO sO]) (fun (u : St) => K u)) (h : wp_X1_copyFrom sB sO K) : Wx x 2 0 0 (fl [wdB (xk x) aB sB, wdB (xk x) aO sO]) [(0, .ref (aB 0)), (1, .ref (aO 0))] 0 [] := by
  unfold wp_X1_copyFrom at h
  refine x_aload_n C 0 0 rfl 1 rfl rfl ?_
  refine x_get (v := .ref (aO 1)) C 1 1 rfl fi_X1 5 rfl rfl 0 (by decide) (mc wq_3_3) rfl ?_
  refine x_iconst (v := (0 : Int32)) C 2 4 rfl (by decide) ?_
  refine x_aload_n C 3 5 rfl 0 rfl rfl ?_
  refine x_get (v := .ref (aB 1)) C 4 6 rfl fi_X1 0 rfl rfl 0 (by decide) (mc wq_3_3) rfl ?_
  refine x_iconst (v := (0 : Int32)) C 5 9 rfl (by decide) ?_
  refine x_iconst (v := (4 : Int32)) C 6 10 rfl (by decide) ?_
  obtain ⟨hn, h5, h6, h⟩ := h
  obtain ⟨z1, ez1⟩ : ∃ z : St, z = uc sB 0 (sO 0) (0 : Int32) (0 : Int32) (4 : Int32) := ⟨_, rfl⟩
  replace h := h z1 ez1
  refine x_copy (f0 := sO 0) (f1 := sB 0) (ws' := fl [wdB (xk x) aB z1, wdB (xk x) aO sO]) C 7 11 rfl (mc wq_13_5) (mc wq_13_6) (mc wq_13_7) (mc wq_13_8) 6 1 rfl rfl (by decide) (by decide) hn h5 h6 ⟨by decide, Nat.le_of_ble_eq_true rfl⟩ (by rw [ez1]; rfl) ?_
  refine x_aload_n C 8 14 rfl 1 rfl rfl ?_
  refine x_get (v := .ref (aO 2)) C 9 15 rfl fi_X1 5 rfl rfl 1 (by decide) (mc wq_3_4) rfl ?_
  refine x_iconst (v := (0 : Int32)) C 10 18 rfl (by decide) ?_
  refine x_aload_n C 11 19 rfl 0 rfl rfl ?_
  refine x_get (v := .ref (aB 2)) C 12 20 rfl fi_X1 0 rfl rfl 1 (by decide) (mc wq_3_4) rfl ?_
  refine x_iconst (v := (0 : Int32)) C 13 23 rfl (by decide) ?_
  refine x_bipush (v := (8 : Int32)) C 14 24 rfl (by decide) ?_
  obtain ⟨hn, h5, h6, h⟩ := h
  obtain ⟨z2, ez2⟩ : ∃ z : St, z = uc z1 1 (sO 1) (0 : Int32) (0 : Int32) (8 : Int32) := ⟨_, rfl⟩
  replace h := h z2 ez2
  refine x_copy (f0 := sO 1) (f1 := z1 1) (ws' := fl [wdB (xk x) aB z2, wdB (xk x) aO sO]) C 15 26 rfl (mc wq_13_5) (mc wq_13_6) (mc wq_13_7) (mc wq_13_8) 7 2 rfl rfl (by decide) (by decide) hn h5 h6 ⟨by decide, Nat.le_of_ble_eq_true rfl⟩ (by rw [ez2]; rfl) ?_
  refine x_aload_n C 16 29 rfl 1 rfl rfl ?_
  refine x_get (v := .ref (aO 3)) C 17 30 rfl fi_X1 5 rfl rfl 2 (by decide) (mc wq_3_5) rfl ?_
  refine x_iconst (v := (0 : Int32)) C 18 33 rfl (by decide) ?_
  refine x_aload_n C 19 34 rfl 0 rfl rfl ?_
  refine x_get (v := .ref (aB 3)) C 20 35 rfl fi_X1 0 rfl rfl 2 (by decide) (mc wq_3_5) rfl ?_
  refine x_iconst (v := (0 : Int32)) C 21 38 rfl (by decide) ?_
  refine x_bipush (v := (8 : Int32)) C 22 39 rfl (by decide) ?_
  obtain ⟨hn, h5, h6, h⟩ := h
  obtain ⟨z3, ez3⟩ : ∃ z : St, z = uc z2 2 (sO 2) (0 : Int32) (0 : Int32) (8 : Int32) := ⟨_, rfl⟩
  replace h := h z3 ez3
  refine x_copy (f0 := sO 2) (f1 := z2 2) (ws' := fl [wdB (xk x) aB z3, wdB (xk x) aO sO]) C 23 41 rfl (mc wq_13_5) (mc wq_13_6) (mc wq_13_7) (mc wq_13_8) 8 3 rfl rfl (by decide) (by decide) hn h5 h6 ⟨by decide, Nat.le_of_ble_eq_true rfl⟩ (by rw [ez3]; rfl) ?_
  refine x_aload_n C 24 44 rfl 1 rfl rfl ?_
  refine x_get (v := .ref (aO 4)) C 25 45 rfl fi_X1 5 rfl rfl 3 (by decide) (mc wq_3_6) rfl ?_
  refine x_iconst (v := (0 : Int32)) C 26 48 rfl (by decide) ?_
  refine x_aload_n C 27 49 rfl 0 rfl rfl ?_
  refine x_get (v := .ref (aB 4)) C 28 50 rfl fi_X1 0 rfl rfl 3 (by decide) (mc wq_3_6) rfl ?_
  refine x_iconst (v := (0 : Int32)) C 29 53 rfl (by decide) ?_
  refine x_bipush (v := (8 : Int32)) C 30 54 rfl (by decide) ?_
  obtain ⟨hn, h5, h6, h⟩ := h
  obtain ⟨z4, ez4⟩ : ∃ z : St, z = uc z3 3 (sO 3) (0 : Int32) (0 : Int32) (8 : Int32) := ⟨_, rfl⟩
  replace h := h z4 ez4
  refine x_copy (f0 := sO 3) (f1 := z3 3) (ws' := fl [wdB (xk x) aB z4, wdB (xk x) aO sO]) C 31 56 rfl (mc wq_13_5) (mc wq_13_6) (mc wq_13_7) (mc wq_13_8) 9 4 rfl rfl (by decide) (by decide) hn h5 h6 ⟨by decide, Nat.le_of_ble_eq_true rfl⟩ (by rw [ez4]; rfl) ?_
  refine x_aload_n C 32 59 rfl 0 rfl rfl ?_
  refine x_aload_n C 33 60 rfl 1 rfl rfl ?_
  refine x_get (v := .int (sO 4 0)) C 34 61 rfl fi_X1 5 rfl rfl 4 (by decide) (mc wq_8_6) rfl ?_
  obtain ⟨z5, ez5⟩ : ∃ z : St, z = us z4 4 (sO 4 0) := ⟨_, rfl⟩
  replace h := h z5 ez5
  refine x_put (ws' := fl [wdB (xk x) aB z5, wdB (xk x) aO sO]) C 35 64 rfl fi_X1 tyX1 tyX1_ok nmX1 0 rfl rfl 4 (by decide) (mc wq_8_6) rfl rfl rfl (Nat.le_of_ble_eq_true rfl) (by rw [ez5]; rfl) ?_
  exact x_vret C rt 36 67 rfl z5 rfl h
theorem c_X1_copyFrom (l : Launch) (D : va_G) (k : ClassId × ClassId) (g : Nat → Nat) (aB aO : Nat → Nat) (sB : St) (sO : St) (K : St → Prop) (h : wp_X1_copyFrom sB sO K) : ConV l yX1_copyFrom (Cond.code yX1_copyFrom cX1_copyFrom 2 none :: wsL_law) ({ frames := 1, cells := 0, slots := 0, locals := 60 } : Room) D k g [.ref (aB 0), .ref (aO 0)] (fl [wdB k aB sB, wdB k aO sO]) (fun (u : St) => fl [wdB k aB u, wdB k aO sO]) (fun (u : St) => K u) := by
  refine ConV.of (tb := tb_X1_copyFrom) (cc := cX1_copyFrom) (nL := 2) (by decide) rfl tbk_X1_copyFrom (Nat.le_of_ble_eq_true rfl) ?_
  intro x hl hD hk hg C rt
  subst hl hD hk hg
  exact w_X1_copyFrom C rt h
set_option maxHeartbeats 4000000 in
set_option maxRecDepth 100000 in
theorem w_X1_hasCall {x : CT} {aB : Nat → Nat} {sB : St} {p1 : Int32} {K : Int32 → Prop} (C : Cx x cX1_hasCall tb_X1_hasCall 2 RX1 (Cond.code yX1_hasCall cX1_hasCall 2 (some .boolean) :: wsL_law) ({ frames := 0, cells := 0, slots := 0, locals := 0 } : Room)) (rt : RetZ x 0 0 (fun (u : Unit) => fl [wdB (xk x) aB sB]) (fun (r : Int32) (_ : Unit) => K r)) (h : wp_X1_hasCall sB p1 K) : Wx x 2 0 0 (fl [wdB (xk x) aB sB]) [(0, .ref (aB 0)), (1, .int p1)] 0 [] := by
  unfold wp_X1_hasCall at h
  refine x_iload_n C 0 0 rfl 1 rfl rfl ?_
  refine x_if_lt C 1 1 16 rfl rfl (fun c1 => ?_) (fun c1 => ?_)
  · replace h := h.1 c1
    refine x_iconst (v := (0 : Int32)) C 8 16 rfl (by decide) ?_
    exact x_zret C rt 9 17 rfl zb_0 () rfl h
  · replace h := h.2 c1
    refine x_iload_n C 2 4 rfl 1 rfl rfl ?_
    refine x_aload_n C 3 5 rfl 0 rfl rfl ?_
    refine x_get (v := .int (sB 4 0)) C 4 6 rfl fi_X1 0 rfl rfl 4 (by decide) (mc wq_8_6) rfl ?_
    refine x_icmp_ge C 5 9 16 rfl rfl (fun c2 => ?_) (fun c2 => ?_)
    · replace h := h.1 c2
      refine x_iconst (v := (0 : Int32)) C 8 16 rfl (by decide) ?_
      exact x_zret C rt 9 17 rfl zb_0 () rfl h
    · replace h := h.2 c2
      refine x_iconst (v := (1 : Int32)) C 6 12 rfl (by decide) ?_
      refine x_goto C 7 13 17 rfl rfl ?_
      exact x_zret C rt 9 17 rfl zb_1 () rfl h
theorem c_X1_hasCall (l : Launch) (D : va_G) (k : ClassId × ClassId) (g : Nat → Nat) (aB : Nat → Nat) (sB : St) (p1 : Int32) (K : Int32 → Prop) (h : wp_X1_hasCall sB p1 K) : ConZ l yX1_hasCall (Cond.code yX1_hasCall cX1_hasCall 2 (some .boolean) :: wsL_law) ({ frames := 0, cells := 0, slots := 0, locals := 0 } : Room) D k g [.ref (aB 0), .int p1] (fl [wdB k aB sB]) (fun (u : Unit) => fl [wdB k aB sB]) (fun (r : Int32) (_ : Unit) => K r) := by
  refine ConZ.of (tb := tb_X1_hasCall) (cc := cX1_hasCall) (nL := 2) (by decide) rfl tbk_X1_hasCall (Nat.le_of_ble_eq_true rfl) ?_
  intro x hl hD hk hg C rt
  subst hl hD hk hg
  exact w_X1_hasCall C rt h
set_option maxHeartbeats 4000000 in
set_option maxRecDepth 100000 in
theorem w_X1_hasPair {x : CT} {aB : Nat → Nat} {sB : St} {p1 : Int32} {p2 : Int32} {p3 : Int32} {K : Int32 → Prop} (C : Cx x cX1_hasPair tb_X1_hasPair 4 RX1 (Cond.code yX1_hasPair cX1_hasPair 4 (some .boolean) :: wsL_law) ({ frames := 1, cells := 0, slots := 0, locals := 21 } : Room)) (rt : RetZ x 0 0 (fun (u : Unit) => fl [wdB (xk x) aB sB]) (fun (r : Int32) (_ : Unit) => K r)) (h : wp_X1_hasPair sB p1 p2 p3 K) : Wx x 4 0 0 (fl [wdB (xk x) aB sB]) [(0, .ref (aB 0)), (1, .int p1), (2, .int p2), (3, .int p3)] 0 [] := by
  unfold wp_X1_hasPair at h
  refine x_aload_n C 0 0 rfl 0 rfl rfl ?_
  refine x_iload_n C 1 1 rfl 1 rfl rfl ?_
  refine x_callWVZ (ci := 0) (q0 := 0) (q := (RX1, TX1, 5)) C 2 2 (c_X1_hasCall (xl x) (xD x) (xk x) (xg x) aB sB p1 _ h) rfl wwGood (mem4 wq_18_3 wq_17_0 wq_17_1 wq_1_19) wq_17_2 1 ok_X1_hasCall rfl ⟨by decide, by decide⟩ (Nat.le_of_ble_eq_true rfl) ⟨Nat.le_refl _, Nat.le_refl _⟩ ⟨rfl, rfl⟩ rfl rfl rfl (fun r1 _ h => ?_)
  refine x_if_eq C 3 5 50 rfl rfl (fun c2 => ?_) (fun c2 => ?_)
  · replace h := h.1 c2
    refine x_iconst (v := (0 : Int32)) C 28 50 rfl (by decide) ?_
    exact x_zret C rt 29 51 rfl zb_0 () rfl h
  · replace h := h.2 c2
    refine x_iload_n C 4 8 rfl 2 rfl rfl ?_
    refine x_if_lt C 5 9 50 rfl rfl (fun c3 => ?_) (fun c3 => ?_)
    · replace h := h.1 c3
      refine x_iconst (v := (0 : Int32)) C 28 50 rfl (by decide) ?_
      exact x_zret C rt 29 51 rfl zb_0 () rfl h
    · replace h := h.2 c3
      refine x_iload_n C 6 12 rfl 2 rfl rfl ?_
      refine x_aload_n C 7 13 rfl 0 rfl rfl ?_
      refine x_get (v := .ref (aB 1)) C 8 14 rfl fi_X1 0 rfl rfl 0 (by decide) (mc wq_3_3) rfl ?_
      refine x_aload_n C 9 17 rfl 0 rfl rfl ?_
      refine x_get (v := .ref (aB 2)) C 10 18 rfl fi_X1 0 rfl rfl 1 (by decide) (mc wq_3_4) rfl ?_
      refine x_iload_n C 11 21 rfl 1 rfl rfl ?_
      obtain ⟨hi, h⟩ := h
      refine x_iald (f := sB 1) C 12 22 rfl 2 rfl hi ?_
      obtain ⟨hi, h⟩ := h
      refine x_iald (f := sB 0) C 13 23 rfl 1 rfl hi ?_
      refine x_icmp_ge C 14 24 50 rfl rfl (fun c4 => ?_) (fun c4 => ?_)
      · replace h := h.1 c4
        refine x_iconst (v := (0 : Int32)) C 28 50 rfl (by decide) ?_
        exact x_zret C rt 29 51 rfl zb_0 () rfl h
      · replace h := h.2 c4
        refine x_iload_n C 15 27 rfl 3 rfl rfl ?_
        refine x_if_lt C 16 28 50 rfl rfl (fun c5 => ?_) (fun c5 => ?_)
        · replace h := h.1 c5
          refine x_iconst (v := (0 : Int32)) C 28 50 rfl (by decide) ?_
          exact x_zret C rt 29 51 rfl zb_0 () rfl h
        · replace h := h.2 c5
          refine x_iload_n C 17 31 rfl 3 rfl rfl ?_
          refine x_aload_n C 18 32 rfl 0 rfl rfl ?_
          refine x_get (v := .ref (aB 1)) C 19 33 rfl fi_X1 0 rfl rfl 0 (by decide) (mc wq_3_3) rfl ?_
          refine x_aload_n C 20 36 rfl 0 rfl rfl ?_
          refine x_get (v := .ref (aB 3)) C 21 37 rfl fi_X1 0 rfl rfl 2 (by decide) (mc wq_3_5) rfl ?_
          refine x_iload_n C 22 40 rfl 1 rfl rfl ?_
          obtain ⟨hi, h⟩ := h
          refine x_iald (f := sB 2) C 23 41 rfl 3 rfl hi ?_
          obtain ⟨hi, h⟩ := h
          refine x_iald (f := sB 0) C 24 42 rfl 1 rfl hi ?_
          refine x_icmp_ge C 25 43 50 rfl rfl (fun c6 => ?_) (fun c6 => ?_)
          · replace h := h.1 c6
            refine x_iconst (v := (0 : Int32)) C 28 50 rfl (by decide) ?_
            exact x_zret C rt 29 51 rfl zb_0 () rfl h
          · replace h := h.2 c6
            refine x_iconst (v := (1 : Int32)) C 26 46 rfl (by decide) ?_
            refine x_goto C 27 47 51 rfl rfl ?_
            exact x_zret C rt 29 51 rfl zb_1 () rfl h
theorem c_X1_hasPair (l : Launch) (D : va_G) (k : ClassId × ClassId) (g : Nat → Nat) (aB : Nat → Nat) (sB : St) (p1 : Int32) (p2 : Int32) (p3 : Int32) (K : Int32 → Prop) (h : wp_X1_hasPair sB p1 p2 p3 K) : ConZ l yX1_hasPair (Cond.code yX1_hasPair cX1_hasPair 4 (some .boolean) :: wsL_law) ({ frames := 1, cells := 0, slots := 0, locals := 21 } : Room) D k g [.ref (aB 0), .int p1, .int p2, .int p3] (fl [wdB k aB sB]) (fun (u : Unit) => fl [wdB k aB sB]) (fun (r : Int32) (_ : Unit) => K r) := by
  refine ConZ.of (tb := tb_X1_hasPair) (cc := cX1_hasPair) (nL := 4) (by decide) rfl tbk_X1_hasPair (Nat.le_of_ble_eq_true rfl) ?_
  intro x hl hD hk hg C rt
  subst hl hD hk hg
  exact w_X1_hasPair C rt h
set_option maxHeartbeats 4000000 in
set_option maxRecDepth 100000 in
theorem w_X1_add {x : CT} {aB : Nat → Nat} {sB : St} {p1 : Int32} {p2 : Int32} {K : St → Prop} (C : Cx x cX1_add tb_X1_add 3 RX1 (Cond.code yX1_add cX1_add 3 none :: wsL_law) ({ frames := 0, cells := 0, slots := 0, locals := 0 } : Room)) (rt : RetV x 0 0 (fun (u : St) => fl [wdB (xk x) aB u]) (fun (u : St) => K u)) (h : wp_X1_add sB p1 p2 K) : Wx x 3 0 0 (fl [wdB (xk x) aB sB]) [(0, .ref (aB 0)), (1, .int p1), (2, .int p2)] 0 [] := by
  unfold wp_X1_add at h
  refine x_aload_n C 0 0 rfl 0 rfl rfl ?_
  refine x_get (v := .int (sB 4 0)) C 1 1 rfl fi_X1 0 rfl rfl 4 (by decide) (mc wq_8_6) rfl ?_
  refine x_bipush (v := (8 : Int32)) C 2 4 rfl (by decide) ?_
  refine x_icmp_ge C 3 6 49 rfl rfl (fun c1 => ?_) (fun c1 => ?_)
  · replace h := h.1 c1
    exact x_vret C rt 28 49 rfl sB rfl h
  · replace h := h.2 c1
    refine x_aload_n C 4 9 rfl 0 rfl rfl ?_
    refine x_get (v := .ref (aB 2)) C 5 10 rfl fi_X1 0 rfl rfl 1 (by decide) (mc wq_3_4) rfl ?_
    refine x_aload_n C 6 13 rfl 0 rfl rfl ?_
    refine x_get (v := .int (sB 4 0)) C 7 14 rfl fi_X1 0 rfl rfl 4 (by decide) (mc wq_8_6) rfl ?_
    refine x_iload_n C 8 17 rfl 1 rfl rfl ?_
    obtain ⟨hi, h⟩ := h
    obtain ⟨z2, ez2⟩ : ∃ z : St, z = ua sB 1 (sB 4 0) p1 := ⟨_, rfl⟩
    replace h := h z2 ez2
    refine x_iast (f := sB 1) (ws' := fl [wdB (xk x) aB z2]) C 9 18 rfl 2 rfl hi (by rw [ez2]; rfl) ?_
    refine x_aload_n C 10 19 rfl 0 rfl rfl ?_
    refine x_get (v := .ref (aB 3)) C 11 20 rfl fi_X1 0 rfl rfl 2 (by decide) (mc wq_3_5) rfl ?_
    refine x_aload_n C 12 23 rfl 0 rfl rfl ?_
    refine x_get (v := .int (z2 4 0)) C 13 24 rfl fi_X1 0 rfl rfl 4 (by decide) (mc wq_8_6) rfl ?_
    refine x_iload_n C 14 27 rfl 2 rfl rfl ?_
    obtain ⟨hi, h⟩ := h
    obtain ⟨z3, ez3⟩ : ∃ z : St, z = ua z2 2 (z2 4 0) p2 := ⟨_, rfl⟩
    replace h := h z3 ez3
    refine x_iast (f := z2 2) (ws' := fl [wdB (xk x) aB z3]) C 15 28 rfl 3 rfl hi (by rw [ez3]; rfl) ?_
    refine x_aload_n C 16 29 rfl 0 rfl rfl ?_
    refine x_get (v := .ref (aB 4)) C 17 30 rfl fi_X1 0 rfl rfl 3 (by decide) (mc wq_3_6) rfl ?_
    refine x_aload_n C 18 33 rfl 0 rfl rfl ?_
    refine x_get (v := .int (z3 4 0)) C 19 34 rfl fi_X1 0 rfl rfl 4 (by decide) (mc wq_8_6) rfl ?_
    refine x_iconst (v := (0 : Int32)) C 20 37 rfl (by decide) ?_
    obtain ⟨hi, h⟩ := h
    obtain ⟨z4, ez4⟩ : ∃ z : St, z = ua z3 3 (z3 4 0) (0 : Int32) := ⟨_, rfl⟩
    replace h := h z4 ez4
    refine x_iast (f := z3 3) (ws' := fl [wdB (xk x) aB z4]) C 21 38 rfl 4 rfl hi (by rw [ez4]; rfl) ?_
    refine x_aload_n C 22 39 rfl 0 rfl rfl ?_
    refine x_dup C 23 40 rfl rfl ?_
    refine x_get (v := .int (z4 4 0)) C 24 41 rfl fi_X1 0 rfl rfl 4 (by decide) (mc wq_8_6) rfl ?_
    refine x_iconst (v := (1 : Int32)) C 25 44 rfl (by decide) ?_
    refine x_iadd C 26 45 rfl ?_
    obtain ⟨z5, ez5⟩ : ∃ z : St, z = us z4 4 (z4 4 0 + (1 : Int32)) := ⟨_, rfl⟩
    replace h := h z5 ez5
    refine x_put (ws' := fl [wdB (xk x) aB z5]) C 27 46 rfl fi_X1 tyX1 tyX1_ok nmX1 0 rfl rfl 4 (by decide) (mc wq_8_6) rfl rfl rfl (Nat.le_of_ble_eq_true rfl) (by rw [ez5]; rfl) ?_
    exact x_vret C rt 28 49 rfl z5 rfl h
theorem c_X1_add (l : Launch) (D : va_G) (k : ClassId × ClassId) (g : Nat → Nat) (aB : Nat → Nat) (sB : St) (p1 : Int32) (p2 : Int32) (K : St → Prop) (h : wp_X1_add sB p1 p2 K) : ConV l yX1_add (Cond.code yX1_add cX1_add 3 none :: wsL_law) ({ frames := 0, cells := 0, slots := 0, locals := 0 } : Room) D k g [.ref (aB 0), .int p1, .int p2] (fl [wdB k aB sB]) (fun (u : St) => fl [wdB k aB u]) (fun (u : St) => K u) := by
  refine ConV.of (tb := tb_X1_add) (cc := cX1_add) (nL := 3) (by decide) rfl tbk_X1_add (Nat.le_of_ble_eq_true rfl) ?_
  intro x hl hD hk hg C rt
  subst hl hD hk hg
  exact w_X1_add C rt h
set_option maxHeartbeats 4000000 in
set_option maxRecDepth 100000 in
theorem w_X1_placesOfAll_4 {x : CT} {aB : Nat → Nat} {sB : St} {K : Int32 → Prop} (C : Cx x cX1_placesOfAll tb_X1_placesOfAll 3 RX1 (Cond.code yX1_placesOfAll cX1_placesOfAll 3 (some .int) :: wsL_law) ({ frames := 0, cells := 0, slots := 0, locals := 0 } : Room)) (rt : RetI x 0 0 (fun (u : Unit) => fl [wdB (xk x) aB sB]) (fun (r : Int32) (_ : Unit) => K r))  {q1 : Int32 × Int32} (h : Lp (F_X1_placesOfAll_4 sB K) q1) : Wx x 3 0 0 (fl [wdB (xk x) aB sB]) [(0, .ref (aB 0)), (1, .int q1.1), (2, .int q1.2)] 4 [] := by
  refine lp_walk (P := fun q1 => Wx x 3 0 0 (fl [wdB (xk x) aB sB]) [(0, .ref (aB 0)), (1, .int q1.1), (2, .int q1.2)] 4 []) (fun q1 R4 hR4 h => ?_) h
  refine x_iload_n C 4 4 rfl 2 rfl rfl ?_
  refine x_iconst (v := (4 : Int32)) C 5 5 rfl (by decide) ?_
  refine x_icmp_ge C 6 6 24 rfl rfl (fun c2 => ?_) (fun c2 => ?_)
  · replace h := h.1 c2
    refine x_iload_n C 16 24 rfl 1 rfl rfl ?_
    exact x_iret C rt 17 25 rfl () rfl h
  · replace h := h.2 c2
    refine x_iload_n C 7 9 rfl 1 rfl rfl ?_
    refine x_aload_n C 8 10 rfl 0 rfl rfl ?_
    refine x_get (v := .ref (aB 1)) C 9 11 rfl fi_X1 0 rfl rfl 0 (by decide) (mc wq_3_3) rfl ?_
    refine x_iload_n C 10 14 rfl 2 rfl rfl ?_
    obtain ⟨hi, h⟩ := h
    refine x_iald (f := sB 0) C 11 15 rfl 1 rfl hi ?_
    refine x_iadd C 12 16 rfl ?_
    refine x_topi (fun y3 ey3 => ?_)
    replace h := h y3 ey3
    refine x_istore_n (lv' := [(0, .ref (aB 0)), (1, .int y3), (2, .int q1.2)]) C 13 17 rfl rfl (by decide) [1, 0, 2] rfl ?_
    obtain ⟨y4, ey4⟩ : ∃ y : Int32, y = q1.2 + (1 : Int32) := ⟨_, rfl⟩
    replace h := h y4 ey4
    refine x_iinc (v := y4) (lv' := [(0, .ref (aB 0)), (1, .int y3), (2, .int y4)]) C 14 18 rfl 2 rfl (by rw [ey4]; rfl) (by decide) [1, 2, 0] rfl ?_
    refine x_goto C 15 21 4 rfl rfl ?_
    exact x_sub [0, 1, 2] rfl (hR4 (y3, y4) h)
set_option maxHeartbeats 4000000 in
set_option maxRecDepth 100000 in
theorem w_X1_placesOfAll {x : CT} {aB : Nat → Nat} {sB : St} {K : Int32 → Prop} (C : Cx x cX1_placesOfAll tb_X1_placesOfAll 3 RX1 (Cond.code yX1_placesOfAll cX1_placesOfAll 3 (some .int) :: wsL_law) ({ frames := 0, cells := 0, slots := 0, locals := 0 } : Room)) (rt : RetI x 0 0 (fun (u : Unit) => fl [wdB (xk x) aB sB]) (fun (r : Int32) (_ : Unit) => K r)) (h : wp_X1_placesOfAll sB K) : Wx x 3 0 0 (fl [wdB (xk x) aB sB]) [(0, .ref (aB 0))] 0 [] := by
  unfold wp_X1_placesOfAll at h
  refine x_iconst (v := (0 : Int32)) C 0 0 rfl (by decide) ?_
  refine x_istore_n (lv' := [(0, .ref (aB 0)), (1, .int (0 : Int32))]) C 1 1 rfl rfl (by decide) [1, 0] rfl ?_
  refine x_iconst (v := (0 : Int32)) C 2 2 rfl (by decide) ?_
  refine x_istore_n (lv' := [(0, .ref (aB 0)), (1, .int (0 : Int32)), (2, .int (0 : Int32))]) C 3 3 rfl rfl (by decide) [1, 2, 0] rfl ?_
  refine x_sub (lv' := [(0, .ref (aB 0)), (1, .int (0 : Int32)), (2, .int (0 : Int32))]) [0, 1, 2] rfl (w_X1_placesOfAll_4 C rt h)
theorem c_X1_placesOfAll (l : Launch) (D : va_G) (k : ClassId × ClassId) (g : Nat → Nat) (aB : Nat → Nat) (sB : St) (K : Int32 → Prop) (h : wp_X1_placesOfAll sB K) : ConI l yX1_placesOfAll (Cond.code yX1_placesOfAll cX1_placesOfAll 3 (some .int) :: wsL_law) ({ frames := 0, cells := 0, slots := 0, locals := 0 } : Room) D k g [.ref (aB 0)] (fl [wdB k aB sB]) (fun (u : Unit) => fl [wdB k aB sB]) (fun (r : Int32) (_ : Unit) => K r) := by
  refine ConI.of (tb := tb_X1_placesOfAll) (cc := cX1_placesOfAll) (nL := 3) (by decide) rfl tbk_X1_placesOfAll (Nat.le_of_ble_eq_true rfl) ?_
  intro x hl hD hk hg C rt
  subst hl hD hk hg
  exact w_X1_placesOfAll C rt h
set_option maxHeartbeats 4000000 in
set_option maxRecDepth 100000 in
theorem w_X1_arcsOfAll_4 {x : CT} {aB : Nat → Nat} {sB : St} {K : Int32 → Prop} (C : Cx x cX1_arcsOfAll tb_X1_arcsOfAll 3 RX1 (Cond.code yX1_arcsOfAll cX1_arcsOfAll 3 (some .int) :: wsL_law) ({ frames := 1, cells := 0, slots := 0, locals := 23 } : Room)) (rt : RetI x 0 0 (fun (u : Unit) => fl [wdB (xk x) aB sB]) (fun (r : Int32) (_ : Unit) => K r))  {q1 : Int32 × Int32} (h : Lp (F_X1_arcsOfAll_4 sB K) q1) : Wx x 3 0 0 (fl [wdB (xk x) aB sB]) [(0, .ref (aB 0)), (1, .int q1.1), (2, .int q1.2)] 4 [] := by
  refine lp_walk (P := fun q1 => Wx x 3 0 0 (fl [wdB (xk x) aB sB]) [(0, .ref (aB 0)), (1, .int q1.1), (2, .int q1.2)] 4 []) (fun q1 R4 hR4 h => ?_) h
  refine x_iload_n C 4 4 rfl 2 rfl rfl ?_
  refine x_aload_n C 5 5 rfl 0 rfl rfl ?_
  refine x_get (v := .int (sB 4 0)) C 6 6 rfl fi_X1 0 rfl rfl 4 (by decide) (mc wq_8_6) rfl ?_
  refine x_icmp_ge C 7 9 31 rfl rfl (fun c2 => ?_) (fun c2 => ?_)
  · replace h := h.1 c2
    refine x_iload_n C 19 31 rfl 1 rfl rfl ?_
    exact x_iret C rt 20 32 rfl () rfl h
  · replace h := h.2 c2
    refine x_iload_n C 8 12 rfl 1 rfl rfl ?_
    refine x_aload_n C 9 13 rfl 0 rfl rfl ?_
    refine x_get (v := .ref (aB 4)) C 10 14 rfl fi_X1 0 rfl rfl 3 (by decide) (mc wq_3_6) rfl ?_
    refine x_iload_n C 11 17 rfl 2 rfl rfl ?_
    obtain ⟨hi, h⟩ := h
    refine x_iald (f := sB 3) C 12 18 rfl 4 rfl hi ?_
    refine x_iconst (v := (1 : Int32)) C 13 19 rfl (by decide) ?_
    refine x_call0SI C 14 20 (c_X0_howMany (xl x) (xD x) (xk x) (xg x) (sB 3 q1.2.toNatClampNeg) (1 : Int32) _ h) rfl wwGood (mem3 wq_41_10 wq_38_14 wq_12_20) wq_38_15 2 ok_X0_howMany rfl ⟨by decide, by decide⟩ (Nat.le_of_ble_eq_true rfl) ⟨Nat.le_refl _, Nat.le_refl _⟩ ⟨rfl, rfl⟩ rfl (fun r3 _ h => ?_)
    refine x_iadd C 15 23 rfl ?_
    refine x_topi (fun y4 ey4 => ?_)
    replace h := h y4 ey4
    refine x_istore_n (lv' := [(0, .ref (aB 0)), (1, .int y4), (2, .int q1.2)]) C 16 24 rfl rfl (by decide) [1, 0, 2] rfl ?_
    obtain ⟨y5, ey5⟩ : ∃ y : Int32, y = q1.2 + (1 : Int32) := ⟨_, rfl⟩
    replace h := h y5 ey5
    refine x_iinc (v := y5) (lv' := [(0, .ref (aB 0)), (1, .int y4), (2, .int y5)]) C 17 25 rfl 2 rfl (by rw [ey5]; rfl) (by decide) [1, 2, 0] rfl ?_
    refine x_goto C 18 28 4 rfl rfl ?_
    exact x_sub [0, 1, 2] rfl (hR4 (y4, y5) h)
set_option maxHeartbeats 4000000 in
set_option maxRecDepth 100000 in
theorem w_X1_arcsOfAll {x : CT} {aB : Nat → Nat} {sB : St} {K : Int32 → Prop} (C : Cx x cX1_arcsOfAll tb_X1_arcsOfAll 3 RX1 (Cond.code yX1_arcsOfAll cX1_arcsOfAll 3 (some .int) :: wsL_law) ({ frames := 1, cells := 0, slots := 0, locals := 23 } : Room)) (rt : RetI x 0 0 (fun (u : Unit) => fl [wdB (xk x) aB sB]) (fun (r : Int32) (_ : Unit) => K r)) (h : wp_X1_arcsOfAll sB K) : Wx x 3 0 0 (fl [wdB (xk x) aB sB]) [(0, .ref (aB 0))] 0 [] := by
  unfold wp_X1_arcsOfAll at h
  refine x_iconst (v := (0 : Int32)) C 0 0 rfl (by decide) ?_
  refine x_istore_n (lv' := [(0, .ref (aB 0)), (1, .int (0 : Int32))]) C 1 1 rfl rfl (by decide) [1, 0] rfl ?_
  refine x_iconst (v := (0 : Int32)) C 2 2 rfl (by decide) ?_
  refine x_istore_n (lv' := [(0, .ref (aB 0)), (1, .int (0 : Int32)), (2, .int (0 : Int32))]) C 3 3 rfl rfl (by decide) [1, 2, 0] rfl ?_
  refine x_sub (lv' := [(0, .ref (aB 0)), (1, .int (0 : Int32)), (2, .int (0 : Int32))]) [0, 1, 2] rfl (w_X1_arcsOfAll_4 C rt h)
theorem c_X1_arcsOfAll (l : Launch) (D : va_G) (k : ClassId × ClassId) (g : Nat → Nat) (aB : Nat → Nat) (sB : St) (K : Int32 → Prop) (h : wp_X1_arcsOfAll sB K) : ConI l yX1_arcsOfAll (Cond.code yX1_arcsOfAll cX1_arcsOfAll 3 (some .int) :: wsL_law) ({ frames := 1, cells := 0, slots := 0, locals := 23 } : Room) D k g [.ref (aB 0)] (fl [wdB k aB sB]) (fun (u : Unit) => fl [wdB k aB sB]) (fun (r : Int32) (_ : Unit) => K r) := by
  refine ConI.of (tb := tb_X1_arcsOfAll) (cc := cX1_arcsOfAll) (nL := 3) (by decide) rfl tbk_X1_arcsOfAll (Nat.le_of_ble_eq_true rfl) ?_
  intro x hl hD hk hg C rt
  subst hl hD hk hg
  exact w_X1_arcsOfAll C rt h
