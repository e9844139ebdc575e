set_option maxHeartbeats 4000000 in
set_option maxRecDepth 100000 in
theorem w_X4_forget {x : CT} {aM aJ : Nat → Nat} {sM : St} {sJ : St} {K : St → Prop} (C : Cx x cX4_forget tb_X4_forget 1 RX4 (Cond.code yX4_forget cX4_forget 1 none :: wsL_law) ({ frames := 0, cells := 0, slots := 0, locals := 0 } : Room)) (rt : RetV x 0 0 (fun (u : St) => fl [wdM (xk x) aM aJ u, wdK (xk x) aJ sJ]) (fun (u : St) => K u)) (h : wp_X4_forget sM sJ K) : Wx x 1 0 0 (fl [wdM (xk x) aM aJ sM, wdK (xk x) aJ sJ]) [(0, .ref (aM 0))] 0 [] := by
  unfold wp_X4_forget at h
  refine x_aload_n C 0 0 rfl 0 rfl rfl ?_
  refine x_iconst (v := (-1 : Int32)) C 1 1 rfl (by decide) ?_
  obtain ⟨z1, ez1⟩ : ∃ z : St, z = us sM 3 (-1 : Int32) := ⟨_, rfl⟩
  replace h := h z1 ez1
  refine x_put (ws' := fl [wdM (xk x) aM aJ z1, wdK (xk x) aJ sJ]) C 2 2 rfl fi_X4 tyX4 tyX4_ok nmX4 0 rfl rfl 3 (by decide) (mc wq_4_9) rfl rfl rfl (Nat.le_of_ble_eq_true rfl) (by rw [ez1]; rfl) ?_
  refine x_aload_n C 3 5 rfl 0 rfl rfl ?_
  refine x_iconst (v := (0 : Int32)) C 4 6 rfl (by decide) ?_
  obtain ⟨z2, ez2⟩ : ∃ z : St, z = us z1 6 (0 : Int32) := ⟨_, rfl⟩
  replace h := h z2 ez2
  refine x_put (ws' := fl [wdM (xk x) aM aJ z2, wdK (xk x) aJ sJ]) C 5 7 rfl fi_X4 tyX4 tyX4_ok nmX4 0 rfl rfl 6 (by decide) (mc wq_13_22) rfl (zb_n zb_0) (zb_f zb_0) (Nat.le_of_ble_eq_true rfl) (by rw [ez2]; rfl) ?_
  exact x_vret C rt 6 10 rfl z2 rfl h
theorem c_X4_forget (l : Launch) (D : va_G) (k : ClassId × ClassId) (g : Nat → Nat) (aM aJ : Nat → Nat) (sM : St) (sJ : St) (K : St → Prop) (h : wp_X4_forget sM sJ K) : ConV l yX4_forget (Cond.code yX4_forget cX4_forget 1 none :: wsL_law) ({ frames := 0, cells := 0, slots := 0, locals := 0 } : Room) D k g [.ref (aM 0)] (fl [wdM k aM aJ sM, wdK k aJ sJ]) (fun (u : St) => fl [wdM k aM aJ u, wdK k aJ sJ]) (fun (u : St) => K u) := by
  refine ConV.of (tb := tb_X4_forget) (cc := cX4_forget) (nL := 1) (by decide) rfl tbk_X4_forget (Nat.le_of_ble_eq_true rfl) ?_
  intro x hl hD hk hg C rt
  subst hl hD hk hg
  exact w_X4_forget C rt h
set_option maxHeartbeats 4000000 in
set_option maxRecDepth 100000 in
theorem w_X4_mends_2 {x : CT} {aM aJ aB : Nat → Nat} {sM : St} {sJ : St} {sB : St} {x2 : Int32} {K : Int32 → (St × St) → Prop} {E29 : Unit → Prop} (C : Cx x cX4_mends tb_X4_mends 4 RX4 (Cond.code yX4_mends cX4_mends 4 (some .boolean) :: wsL_law) ({ frames := 4, cells := 0, slots := 0, locals := 99 } : Room)) (rt : RetZ x 0 0 (fun (u : St × St) => fl [wdM (xk x) aM aJ u.1, wdK (xk x) aJ u.2, wdB (xk x) aB sB]) (fun (r : Int32) (u : St × St) => K r u)) (hE29 : ∀ q : Unit, E29 q → Wx x 4 0 0 (fl [wdM (xk x) aM aJ sM, wdK (xk x) aJ sJ, wdB (xk x) aB sB]) [(0, .ref (aM 0)), (1, .ref (aB 0)), (2, .int x2)] 29 []) {q1 : Int32} (h : Lp (F_X4_mends_2 sM sJ x2 K E29) q1) : Wx x 4 0 0 (fl [wdM (xk x) aM aJ sM, wdK (xk x) aJ sJ, wdB (xk x) aB sB]) [(0, .ref (aM 0)), (1, .ref (aB 0)), (2, .int x2), (3, .int q1)] 2 [] := by
  refine lp_walk (P := fun q1 => Wx x 4 0 0 (fl [wdM (xk x) aM aJ sM, wdK (xk x) aJ sJ, wdB (xk x) aB sB]) [(0, .ref (aM 0)), (1, .ref (aB 0)), (2, .int x2), (3, .int q1)] 2 []) (fun q1 R2 hR2 h => ?_) h
  refine x_iload_n C 2 2 rfl 3 rfl rfl ?_
  refine x_aload_n C 3 3 rfl 0 rfl rfl ?_
  refine x_get (v := .int (sM 2 0)) C 4 4 rfl fi_X4 0 rfl rfl 2 (by decide) (mc wq_31_12) rfl ?_
  refine x_icmp_ge C 5 7 29 rfl rfl (fun c2 => ?_) (fun c2 => ?_)
  · replace h := h.1 c2
    exact x_sub [0, 1, 2] rfl (hE29 () h)
  · replace h := h.2 c2
    refine x_aload_n C 6 10 rfl 0 rfl rfl ?_
    refine x_get (v := .ref (aM 1)) C 7 11 rfl fi_X4 0 rfl rfl 1 (by decide) (mc wq_4_8) rfl ?_
    refine x_iload_n C 8 14 rfl 3 rfl rfl ?_
    obtain ⟨hi, h⟩ := h
    refine x_iald (f := sM 1) C 9 15 rfl 1 rfl hi ?_
    refine x_iload_n C 10 16 rfl 2 rfl rfl ?_
    refine x_iand C 11 17 rfl ?_
    refine x_if_ne C 12 18 23 rfl rfl (fun c3 => ?_) (fun c3 => ?_)
    · replace h := h.2 c3
      obtain ⟨y4, ey4⟩ : ∃ y : Int32, y = q1 + (1 : Int32) := ⟨_, rfl⟩
      replace h := h y4 ey4
      refine x_iinc (v := y4) (lv' := [(0, .ref (aM 0)), (1, .ref (aB 0)), (2, .int x2), (3, .int y4)]) C 15 23 rfl 3 rfl (by rw [ey4]; rfl) (by decide) [1, 2, 3, 0] rfl ?_
      refine x_goto C 16 26 2 rfl rfl ?_
      exact x_sub [0, 1, 2, 3] rfl (hR2 y4 h)
    · replace h := h.1 c3
      refine x_iconst (v := (0 : Int32)) C 13 21 rfl (by decide) ?_
      exact x_zret C rt 14 22 rfl zb_0 (sM, sJ) rfl h
set_option maxHeartbeats 4000000 in
set_option maxRecDepth 100000 in
theorem w_X4_mends {x : CT} {aM aJ aB : Nat → Nat} {sM : St} {sJ : St} {sB : St} {p2 : Int32} {K : Int32 → (St × St) → Prop} (C : Cx x cX4_mends tb_X4_mends 4 RX4 (Cond.code yX4_mends cX4_mends 4 (some .boolean) :: wsL_law) ({ frames := 4, cells := 0, slots := 0, locals := 99 } : Room)) (rt : RetZ x 0 0 (fun (u : St × St) => fl [wdM (xk x) aM aJ u.1, wdK (xk x) aJ u.2, wdB (xk x) aB sB]) (fun (r : Int32) (u : St × St) => K r u)) (h : wp_X4_mends sM sJ sB p2 K) : Wx x 4 0 0 (fl [wdM (xk x) aM aJ sM, wdK (xk x) aJ sJ, wdB (xk x) aB sB]) [(0, .ref (aM 0)), (1, .ref (aB 0)), (2, .int p2)] 0 [] := by
  unfold wp_X4_mends at h
  refine x_iconst (v := (0 : Int32)) C 0 0 rfl (by decide) ?_
  refine x_istore_n (lv' := [(0, .ref (aM 0)), (1, .ref (aB 0)), (2, .int p2), (3, .int (0 : Int32))]) C 1 1 rfl rfl (by decide) [1, 2, 3, 0] rfl ?_
  refine x_sub (lv' := [(0, .ref (aM 0)), (1, .ref (aB 0)), (2, .int p2), (3, .int (0 : Int32))]) [0, 1, 2, 3] rfl (w_X4_mends_2 C rt (fun q5 h => ?_) h)
  · refine x_aload_n C 17 29 rfl 0 rfl rfl ?_
    refine x_get (v := .ref (aJ 0)) C 18 30 rfl fi_X4 0 rfl rfl 0 (by decide) (mc wq_4_7) rfl ?_
    refine x_aload_n C 19 33 rfl 1 rfl rfl ?_
    refine x_iload_n C 20 34 rfl 2 rfl rfl ?_
    refine x_iconst (v := (1 : Int32)) C 21 35 rfl (by decide) ?_
    refine x_callGVV (ci := 1) (q0 := 0) (q := (RX2, TX2, 12)) C 22 36 (c_X2_grow (xl x) (xD x) (xk x) (xg x) aJ aB sJ sB p2 (1 : Int32) _ h) rfl wwGood (mem4 wq_32_2 wq_19_9 wq_19_10 wq_2_4) wq_19_11 3 ok_X2_grow rfl ⟨by decide, by decide⟩ (Nat.le_of_ble_eq_true rfl) ⟨Nat.le_refl _, Nat.le_refl _⟩ ⟨rfl, rfl⟩ rfl rfl [wdM (xk x) aM aJ sM] (fun (u : St) => [wdM (xk x) aM aJ sM, wdK (xk x) aJ u, wdB (xk x) aB sB]) [0, 1, 2] [0, 1, 2] (show List.Perm [0, 1, 2] (List.range 3) by decide) rfl 3 (fun _ => rfl) (by decide) (fun _ => rfl) (fun u6 h => ?_)
    refine x_aload_n C 23 39 rfl 0 rfl rfl ?_
    refine x_get (v := .ref (aJ 0)) C 24 40 rfl fi_X4 0 rfl rfl 0 (by decide) (mc wq_4_7) rfl ?_
    refine x_get (v := .int (u6 10 0)) C 25 43 rfl fi_X2 3 rfl rfl 10 (by decide) (mc wq_32_1) rfl ?_
    refine x_if_ge C 26 46 51 rfl rfl (fun c7 => ?_) (fun c7 => ?_)
    · replace h := h.1 c7
      refine x_aload_n C 29 51 rfl 0 rfl rfl ?_
      refine x_get (v := .int (sM 2 0)) C 30 52 rfl fi_X4 0 rfl rfl 2 (by decide) (mc wq_31_12) rfl ?_
      refine x_sipush (v := (256 : Int32)) C 31 55 rfl (by decide) ?_
      refine x_icmp_ge C 32 58 94 rfl rfl (fun c8 => ?_) (fun c8 => ?_)
      · replace h := h.1 c8
        refine x_iconst (v := (0 : Int32)) C 50 94 rfl (by decide) ?_
        exact x_zret C rt 51 95 rfl zb_0 (sM, u6) rfl h
      · replace h := h.2 c8
        refine x_aload_n C 33 61 rfl 0 rfl rfl ?_
        refine x_get (v := .ref (aM 1)) C 34 62 rfl fi_X4 0 rfl rfl 1 (by decide) (mc wq_4_8) rfl ?_
        refine x_aload_n C 35 65 rfl 0 rfl rfl ?_
        refine x_get (v := .int (sM 2 0)) C 36 66 rfl fi_X4 0 rfl rfl 2 (by decide) (mc wq_31_12) rfl ?_
        refine x_aload_n C 37 69 rfl 0 rfl rfl ?_
        refine x_get (v := .ref (aJ 0)) C 38 70 rfl fi_X4 0 rfl rfl 0 (by decide) (mc wq_4_7) rfl ?_
        refine x_aload_n C 39 73 rfl 0 rfl rfl ?_
        refine x_get (v := .ref (aJ 0)) C 40 74 rfl fi_X4 0 rfl rfl 0 (by decide) (mc wq_4_7) rfl ?_
        refine x_get (v := .int (u6 10 0)) C 41 77 rfl fi_X2 3 rfl rfl 10 (by decide) (mc wq_32_1) rfl ?_
        refine x_callGVI (ci := 1) (q0 := 0) (q := (RX2, TX2, 12)) C 42 80 (c_X2_callsOnWay (xl x) (xD x) (xk x) (xg x) aJ u6 (u6 10 0) _ h) rfl wwGood (mem4 wq_32_3 wq_32_4 wq_32_5 wq_2_4) wq_32_6 1 ok_X2_callsOnWay rfl ⟨by decide, by decide⟩ (Nat.le_of_ble_eq_true rfl) ⟨Nat.le_refl _, Nat.le_refl _⟩ ⟨rfl, rfl⟩ rfl rfl [wdM (xk x) aM aJ sM, wdB (xk x) aB sB] (fun (u : Unit) => [wdM (xk x) aM aJ sM, wdK (xk x) aJ u6, wdB (xk x) aB sB]) [0, 2, 1] [0, 2, 1] (show List.Perm [0, 2, 1] (List.range 3) by decide) rfl 3 (fun _ => rfl) (by decide) (fun _ => rfl) (fun r9 _ h => ?_)
        obtain ⟨hi, h⟩ := h
        obtain ⟨z10, ez10⟩ : ∃ z : St, z = ua sM 1 (sM 2 0) r9 := ⟨_, rfl⟩
        replace h := h z10 ez10
        refine x_iast (f := sM 1) (ws' := fl [wdM (xk x) aM aJ z10, wdK (xk x) aJ u6, wdB (xk x) aB sB]) C 43 83 rfl 1 rfl hi (by rw [ez10]; rfl) ?_
        refine x_aload_n C 44 84 rfl 0 rfl rfl ?_
        refine x_dup C 45 85 rfl rfl ?_
        refine x_get (v := .int (z10 2 0)) C 46 86 rfl fi_X4 0 rfl rfl 2 (by decide) (mc wq_31_12) rfl ?_
        refine x_iconst (v := (1 : Int32)) C 47 89 rfl (by decide) ?_
        refine x_iadd C 48 90 rfl ?_
        obtain ⟨z11, ez11⟩ : ∃ z : St, z = us z10 2 (z10 2 0 + (1 : Int32)) := ⟨_, rfl⟩
        replace h := h z11 ez11
        refine x_put (ws' := fl [wdM (xk x) aM aJ z11, wdK (xk x) aJ u6, wdB (xk x) aB sB]) C 49 91 rfl fi_X4 tyX4 tyX4_ok nmX4 0 rfl rfl 2 (by decide) (mc wq_31_12) rfl rfl rfl (Nat.le_of_ble_eq_true rfl) (by rw [ez11]; rfl) ?_
        refine x_iconst (v := (0 : Int32)) C 50 94 rfl (by decide) ?_
        exact x_zret C rt 51 95 rfl zb_0 (z11, u6) rfl h
    · replace h := h.2 c7
      refine x_iconst (v := (1 : Int32)) C 27 49 rfl (by decide) ?_
      exact x_zret C rt 28 50 rfl zb_1 (sM, u6) rfl h
theorem c_X4_mends (l : Launch) (D : va_G) (k : ClassId × ClassId) (g : Nat → Nat) (aM aJ aB : Nat → Nat) (sM : St) (sJ : St) (sB : St) (p2 : Int32) (K : Int32 → (St × St) → Prop) (h : wp_X4_mends sM sJ sB p2 K) : ConZ l yX4_mends (Cond.code yX4_mends cX4_mends 4 (some .boolean) :: wsL_law) ({ frames := 4, cells := 0, slots := 0, locals := 99 } : Room) D k g [.ref (aM 0), .ref (aB 0), .int p2] (fl [wdM k aM aJ sM, wdK k aJ sJ, wdB k aB sB]) (fun (u : St × St) => fl [wdM k aM aJ u.1, wdK k aJ u.2, wdB k aB sB]) (fun (r : Int32) (u : St × St) => K r u) := by
  refine ConZ.of (tb := tb_X4_mends) (cc := cX4_mends) (nL := 4) (by decide) rfl tbk_X4_mends (Nat.le_of_ble_eq_true rfl) ?_
  intro x hl hD hk hg C rt
  subst hl hD hk hg
  exact w_X4_mends C rt h
set_option maxHeartbeats 4000000 in
set_option maxRecDepth 100000 in
theorem w_X4_leastSet_37 {x : CT} {aM aJ aB : Nat → Nat} {sB : St} {x2 : Int32} {x3 : Int32} {K : Int32 → (St × St) → Prop} {R26 : Int32 × St × St → Prop} (C : Cx x cX4_leastSet tb_X4_leastSet 5 RX4 (Cond.code yX4_leastSet cX4_leastSet 5 (some .int) :: wsL_law) ({ frames := 5, cells := 0, slots := 0, locals := 122 } : Room)) (rt : RetI x 0 0 (fun (u : St × St) => fl [wdM (xk x) aM aJ u.1, wdK (xk x) aJ u.2, wdB (xk x) aB sB]) (fun (r : Int32) (u : St × St) => K r u)) (hR26 : ∀ q : Int32 × St × St, R26 q → Wx x 5 0 0 (fl [wdM (xk x) aM aJ q.2.1, wdK (xk x) aJ q.2.2, wdB (xk x) aB sB]) [(0, .ref (aM 0)), (1, .ref (aB 0)), (2, .int x2), (3, .int q.1)] 26 []) {q6 : Int32 × St × St} (h : Lp (F_X4_leastSet_37 sB x2 x3 K R26) q6) : Wx x 5 0 0 (fl [wdM (xk x) aM aJ q6.2.1, wdK (xk x) aJ q6.2.2, wdB (xk x) aB sB]) [(0, .ref (aM 0)), (1, .ref (aB 0)), (2, .int x2), (3, .int x3), (4, .int q6.1)] 37 [] := by
  refine lp_walk (P := fun q6 => Wx x 5 0 0 (fl [wdM (xk x) aM aJ q6.2.1, wdK (xk x) aJ q6.2.2, wdB (xk x) aB sB]) [(0, .ref (aM 0)), (1, .ref (aB 0)), (2, .int x2), (3, .int x3), (4, .int q6.1)] 37 []) (fun q6 R37 hR37 h => ?_) h
  refine x_iload C 22 37 rfl 4 rfl ?_
  refine x_iload_n C 23 39 rfl 2 rfl rfl ?_
  refine x_icmp_ge C 24 40 79 rfl rfl (fun c7 => ?_) (fun c7 => ?_)
  · replace h := h.1 c7
    obtain ⟨y8, ey8⟩ : ∃ y : Int32, y = x3 + (1 : Int32) := ⟨_, rfl⟩
    replace h := h y8 ey8
    refine x_iinc (v := y8) (lv' := [(0, .ref (aM 0)), (1, .ref (aB 0)), (2, .int x2), (3, .int y8)]) C 42 79 rfl 3 rfl (by rw [ey8]; rfl) (by decide) [1, 2, 3, 0] rfl ?_
    refine x_goto C 43 82 26 rfl rfl ?_
    exact x_sub [0, 1, 2, 3] rfl (hR26 (y8, q6.2.1, q6.2.2) h)
  · replace h := h.2 c7
    refine x_iload C 25 43 rfl 4 rfl ?_
    refine x_call0SI C 26 45 (c_J6_bitCount_0f7a4 (xl x) (xD x) (xk x) (xg x) q6.1 _ h) rfl wwGood (mem3 wq_31_14 wq_31_15 wq_31_16) wq_31_17 1 ok_J6_bitCount_0f7a4 rfl ⟨by decide, by decide⟩ (Nat.le_of_ble_eq_true rfl) ⟨Nat.le_refl _, Nat.le_refl _⟩ ⟨rfl, rfl⟩ rfl (fun r9 _ h => ?_)
    refine x_iload_n C 27 48 rfl 3 rfl rfl ?_
    refine x_icmp_ne C 28 49 73 rfl rfl (fun c10 => ?_) (fun c10 => ?_)
    · replace h := h.2 c10
      obtain ⟨y11, ey11⟩ : ∃ y : Int32, y = q6.1 + (1 : Int32) := ⟨_, rfl⟩
      replace h := h y11 ey11
      refine x_iinc (v := y11) (lv' := [(0, .ref (aM 0)), (1, .ref (aB 0)), (2, .int x2), (3, .int x3), (4, .int y11)]) C 40 73 rfl 4 rfl (by rw [ey11]; rfl) (by decide) [1, 2, 3, 4, 0] rfl ?_
      refine x_goto C 41 76 37 rfl rfl ?_
      exact x_sub [0, 1, 2, 3, 4] rfl (hR37 (y11, q6.2.1, q6.2.2) h)
    · replace h := h.1 c10
      refine x_aload_n C 29 52 rfl 0 rfl rfl ?_
      refine x_aload_n C 30 53 rfl 1 rfl rfl ?_
      refine x_iload C 31 54 rfl 4 rfl ?_
      refine x_callWVZ (ci := 2) (q0 := 0) (q := (RX4, TX4, 8)) C 32 56 (c_X4_mends (xl x) (xD x) (xk x) (xg x) aM aJ aB q6.2.1 q6.2.2 sB q6.1 _ h) rfl wwGood (mem4 wq_31_21 wq_31_22 wq_31_23 wq_2_8) wq_32_0 2 ok_X4_mends rfl ⟨by decide, by decide⟩ (Nat.le_of_ble_eq_true rfl) ⟨Nat.le_refl _, Nat.le_refl _⟩ ⟨rfl, rfl⟩ rfl rfl rfl (fun r12 u12 h => ?_)
      refine x_if_eq C 33 59 73 rfl rfl (fun c13 => ?_) (fun c13 => ?_)
      · replace h := h.1 c13
        obtain ⟨y14, ey14⟩ : ∃ y : Int32, y = q6.1 + (1 : Int32) := ⟨_, rfl⟩
        replace h := h y14 ey14
        refine x_iinc (v := y14) (lv' := [(0, .ref (aM 0)), (1, .ref (aB 0)), (2, .int x2), (3, .int x3), (4, .int y14)]) C 40 73 rfl 4 rfl (by rw [ey14]; rfl) (by decide) [1, 2, 3, 4, 0] rfl ?_
        refine x_goto C 41 76 37 rfl rfl ?_
        exact x_sub [0, 1, 2, 3, 4] rfl (hR37 (y14, u12.1, u12.2) h)
      · replace h := h.2 c13
        refine x_aload_n C 34 62 rfl 0 rfl rfl ?_
        refine x_iload C 35 63 rfl 4 rfl ?_
        obtain ⟨z15, ez15⟩ : ∃ z : St, z = us u12.1 3 q6.1 := ⟨_, rfl⟩
        replace h := h z15 ez15
        refine x_put (ws' := fl [wdM (xk x) aM aJ z15, wdK (xk x) aJ u12.2, wdB (xk x) aB sB]) C 36 65 rfl fi_X4 tyX4 tyX4_ok nmX4 0 rfl rfl 3 (by decide) (mc wq_4_9) rfl rfl rfl (Nat.le_of_ble_eq_true rfl) (by rw [ez15]; rfl) ?_
        refine x_aload_n C 37 68 rfl 0 rfl rfl ?_
        refine x_get (v := .int (z15 3 0)) C 38 69 rfl fi_X4 0 rfl rfl 3 (by decide) (mc wq_4_9) rfl ?_
        exact x_iret C rt 39 72 rfl (z15, u12.2) rfl h
set_option maxHeartbeats 4000000 in
set_option maxRecDepth 100000 in
theorem w_X4_leastSet_26 {x : CT} {aM aJ aB : Nat → Nat} {sB : St} {x2 : Int32} {K : Int32 → (St × St) → Prop} {E85 : St × St → Prop} (C : Cx x cX4_leastSet tb_X4_leastSet 5 RX4 (Cond.code yX4_leastSet cX4_leastSet 5 (some .int) :: wsL_law) ({ frames := 5, cells := 0, slots := 0, locals := 122 } : Room)) (rt : RetI x 0 0 (fun (u : St × St) => fl [wdM (xk x) aM aJ u.1, wdK (xk x) aJ u.2, wdB (xk x) aB sB]) (fun (r : Int32) (u : St × St) => K r u)) (hE85 : ∀ q : St × St, E85 q → Wx x 5 0 0 (fl [wdM (xk x) aM aJ q.1, wdK (xk x) aJ q.2, wdB (xk x) aB sB]) [(0, .ref (aM 0)), (2, .int x2)] 85 []) {q4 : Int32 × St × St} (h : Lp (F_X4_leastSet_26 sB x2 K E85) q4) : Wx x 5 0 0 (fl [wdM (xk x) aM aJ q4.2.1, wdK (xk x) aJ q4.2.2, wdB (xk x) aB sB]) [(0, .ref (aM 0)), (1, .ref (aB 0)), (2, .int x2), (3, .int q4.1)] 26 [] := by
  refine lp_walk (P := fun q4 => Wx x 5 0 0 (fl [wdM (xk x) aM aJ q4.2.1, wdK (xk x) aJ q4.2.2, wdB (xk x) aB sB]) [(0, .ref (aM 0)), (1, .ref (aB 0)), (2, .int x2), (3, .int q4.1)] 26 []) (fun q4 R26 hR26 h => ?_) h
  refine x_iload_n C 16 26 rfl 3 rfl rfl ?_
  refine x_aload_n C 17 27 rfl 1 rfl rfl ?_
  refine x_get (v := .int (sB 4 0)) C 18 28 rfl fi_X1 11 rfl rfl 4 (by decide) (mc wq_31_13) rfl ?_
  refine x_icmp_ge C 19 31 85 rfl rfl (fun c5 => ?_) (fun c5 => ?_)
  · replace h := h.1 c5
    exact x_sub [0, 2] rfl (hE85 (q4.2.1, q4.2.2) h)
  · replace h := h.2 c5
    refine x_iconst (v := (0 : Int32)) C 20 34 rfl (by decide) ?_
    refine x_istore (lv' := [(0, .ref (aM 0)), (1, .ref (aB 0)), (2, .int x2), (3, .int q4.1), (4, .int (0 : Int32))]) C 21 35 rfl (by decide) [1, 2, 3, 4, 0] rfl ?_
    refine x_sub (lv' := [(0, .ref (aM 0)), (1, .ref (aB 0)), (2, .int x2), (3, .int q4.1), (4, .int (0 : Int32))]) [0, 1, 2, 3, 4] rfl (w_X4_leastSet_37 C rt hR26 h)
set_option maxHeartbeats 4000000 in
set_option maxRecDepth 100000 in
theorem w_X4_leastSet {x : CT} {aM aJ aB : Nat → Nat} {sM : St} {sJ : St} {sB : St} {K : Int32 → (St × St) → Prop} (C : Cx x cX4_leastSet tb_X4_leastSet 5 RX4 (Cond.code yX4_leastSet cX4_leastSet 5 (some .int) :: wsL_law) ({ frames := 5, cells := 0, slots := 0, locals := 122 } : Room)) (rt : RetI x 0 0 (fun (u : St × St) => fl [wdM (xk x) aM aJ u.1, wdK (xk x) aJ u.2, wdB (xk x) aB sB]) (fun (r : Int32) (u : St × St) => K r u)) (h : wp_X4_leastSet sM sJ sB K) : Wx x 5 0 0 (fl [wdM (xk x) aM aJ sM, wdK (xk x) aJ sJ, wdB (xk x) aB sB]) [(0, .ref (aM 0)), (1, .ref (aB 0))] 0 [] := by
  unfold wp_X4_leastSet at h
  refine x_aload_n C 0 0 rfl 0 rfl rfl ?_
  refine x_get (v := .int (sM 3 0)) C 1 1 rfl fi_X4 0 rfl rfl 3 (by decide) (mc wq_4_9) rfl ?_
  refine x_if_lt C 2 4 12 rfl rfl (fun c1 => ?_) (fun c1 => ?_)
  · replace h := h.1 c1
    refine x_aload_n C 6 12 rfl 0 rfl rfl ?_
    refine x_iconst (v := (0 : Int32)) C 7 13 rfl (by decide) ?_
    obtain ⟨z2, ez2⟩ : ∃ z : St, z = us sM 2 (0 : Int32) := ⟨_, rfl⟩
    replace h := h z2 ez2
    refine x_put (ws' := fl [wdM (xk x) aM aJ z2, wdK (xk x) aJ sJ, wdB (xk x) aB sB]) C 8 14 rfl fi_X4 tyX4 tyX4_ok nmX4 0 rfl rfl 2 (by decide) (mc wq_31_12) rfl rfl rfl (Nat.le_of_ble_eq_true rfl) (by rw [ez2]; rfl) ?_
    refine x_iconst (v := (1 : Int32)) C 9 17 rfl (by decide) ?_
    refine x_aload_n C 10 18 rfl 1 rfl rfl ?_
    refine x_get (v := .int (sB 4 0)) C 11 19 rfl fi_X1 11 rfl rfl 4 (by decide) (mc wq_31_13) rfl ?_
    refine x_ishl C 12 22 rfl ?_
    refine x_topi (fun y3 ey3 => ?_)
    replace h := h y3 ey3
    refine x_istore_n (lv' := [(0, .ref (aM 0)), (1, .ref (aB 0)), (2, .int y3)]) C 13 23 rfl rfl (by decide) [1, 2, 0] rfl ?_
    refine x_iconst (v := (0 : Int32)) C 14 24 rfl (by decide) ?_
    refine x_istore_n (lv' := [(0, .ref (aM 0)), (1, .ref (aB 0)), (2, .int y3), (3, .int (0 : Int32))]) C 15 25 rfl rfl (by decide) [1, 2, 3, 0] rfl ?_
    refine x_sub (lv' := [(0, .ref (aM 0)), (1, .ref (aB 0)), (2, .int y3), (3, .int (0 : Int32))]) [0, 1, 2, 3] rfl (w_X4_leastSet_26 C rt (fun q16 h => ?_) h)
    · refine x_aload_n C 44 85 rfl 0 rfl rfl ?_
      refine x_iload_n C 45 86 rfl 1 rfl rfl ?_
      refine x_iconst (v := (1 : Int32)) C 46 87 rfl (by decide) ?_
      refine x_isub C 47 88 rfl ?_
      obtain ⟨z17, ez17⟩ : ∃ z : St, z = us q16.1 3 (y3 - (1 : Int32)) := ⟨_, rfl⟩
      replace h := h z17 ez17
      refine x_put (ws' := fl [wdM (xk x) aM aJ z17, wdK (xk x) aJ q16.2, wdB (xk x) aB sB]) C 48 89 rfl fi_X4 tyX4 tyX4_ok nmX4 0 rfl rfl 3 (by decide) (mc wq_4_9) rfl rfl rfl (Nat.le_of_ble_eq_true rfl) (by rw [ez17]; rfl) ?_
      refine x_aload_n C 49 92 rfl 0 rfl rfl ?_
      refine x_get (v := .int (z17 3 0)) C 50 93 rfl fi_X4 0 rfl rfl 3 (by decide) (mc wq_4_9) rfl ?_
      exact x_iret C rt 51 96 rfl (z17, q16.2) rfl h
  · replace h := h.2 c1
    refine x_aload_n C 3 7 rfl 0 rfl rfl ?_
    refine x_get (v := .int (sM 3 0)) C 4 8 rfl fi_X4 0 rfl rfl 3 (by decide) (mc wq_4_9) rfl ?_
    exact x_iret C rt 5 11 rfl (sM, sJ) rfl h
theorem c_X4_leastSet (l : Launch) (D : va_G) (k : ClassId × ClassId) (g : Nat → Nat) (aM aJ aB : Nat → Nat) (sM : St) (sJ : St) (sB : St) (K : Int32 → (St × St) → Prop) (h : wp_X4_leastSet sM sJ sB K) : ConI l yX4_leastSet (Cond.code yX4_leastSet cX4_leastSet 5 (some .int) :: wsL_law) ({ frames := 5, cells := 0, slots := 0, locals := 122 } : Room) D k g [.ref (aM 0), .ref (aB 0)] (fl [wdM k aM aJ sM, wdK k aJ sJ, wdB k aB sB]) (fun (u : St × St) => fl [wdM k aM aJ u.1, wdK k aJ u.2, wdB k aB sB]) (fun (r : Int32) (u : St × St) => K r u) := by
  refine ConI.of (tb := tb_X4_leastSet) (cc := cX4_leastSet) (nL := 5) (by decide) rfl tbk_X4_leastSet (Nat.le_of_ble_eq_true rfl) ?_
  intro x hl hD hk hg C rt
  subst hl hD hk hg
  exact w_X4_leastSet C rt h
set_option maxHeartbeats 4000000 in
set_option maxRecDepth 100000 in
theorem wj_X4_tryKept_106 {x : CT} {aM aJ aB : Nat → Nat} {sM : St} {sJ : St} {sB : St} {x2 : Int32} {t1 : Int32} {K : (St × St × St) → Prop} (C : Cx x cX4_tryKept tb_X4_tryKept 7 RX4 (Cond.code yX4_tryKept cX4_tryKept 7 none :: wsL_law) ({ frames := 4, cells := 0, slots := 0, locals := 99 } : Room)) (rt : RetV x 0 0 (fun (u : St × St × St) => fl [wdM (xk x) aM aJ u.1, wdK (xk x) aJ u.2.1, wdB (xk x) aB u.2.2]) (fun (u : St × St × St) => K u))  (h : J_X4_tryKept_106 sM sJ sB x2 t1 K) : Wx x 7 0 0 (fl [wdM (xk x) aM aJ sM, wdK (xk x) aJ sJ, wdB (xk x) aB sB]) [(0, .ref (aM 0)), (2, .int x2)] 106 [.int t1, .ref (aM 0)] := by
  unfold J_X4_tryKept_106 at h
  obtain ⟨hz, h⟩ := h
  obtain ⟨z14, ez14⟩ : ∃ z : St, z = us sM 7 t1 := ⟨_, rfl⟩
  replace h := h z14 ez14
  refine x_put (ws' := fl [wdM (xk x) aM aJ z14, wdK (xk x) aJ sJ, wdB (xk x) aB sB]) C 63 106 rfl fi_X4 tyX4 tyX4_ok nmX4 0 rfl rfl 7 (by decide) (mc wq_33_1) rfl (zb_n hz) (zb_f hz) (Nat.le_of_ble_eq_true rfl) (by rw [ez14]; rfl) ?_
  refine x_aload_n C 64 109 rfl 0 rfl rfl ?_
  refine x_get (v := .ref (aJ 0)) C 65 110 rfl fi_X4 0 rfl rfl 0 (by decide) (mc wq_4_7) rfl ?_
  refine x_get (v := .int (sJ 10 0)) C 66 113 rfl fi_X2 3 rfl rfl 10 (by decide) (mc wq_32_1) rfl ?_
  refine x_if_lt C 67 116 151 rfl rfl (fun c15 => ?_) (fun c15 => ?_)
  · replace h := h.1 c15
    exact x_vret C rt 86 151 rfl (z14, sJ, sB) rfl h
  · replace h := h.2 c15
    refine x_aload_n C 68 119 rfl 0 rfl rfl ?_
    refine x_get (v := .int (z14 5 0)) C 69 120 rfl fi_X4 0 rfl rfl 5 (by decide) (mc wq_33_0) rfl ?_
    refine x_aload_n C 70 123 rfl 0 rfl rfl ?_
    refine x_get (v := .ref (aM 2)) C 71 124 rfl fi_X4 0 rfl rfl 4 (by decide) (mc wq_4_10) rfl ?_
    refine x_alen (f := z14 4) (v := (72 : Int32)) C 72 127 rfl 2 rfl rfl ?_
    refine x_icmp_ge C 73 128 151 rfl rfl (fun c16 => ?_) (fun c16 => ?_)
    · replace h := h.1 c16
      exact x_vret C rt 86 151 rfl (z14, sJ, sB) rfl h
    · replace h := h.2 c16
      refine x_aload_n C 74 131 rfl 0 rfl rfl ?_
      refine x_get (v := .ref (aM 2)) C 75 132 rfl fi_X4 0 rfl rfl 4 (by decide) (mc wq_4_10) rfl ?_
      refine x_aload_n C 76 135 rfl 0 rfl rfl ?_
      refine x_get (v := .int (z14 5 0)) C 77 136 rfl fi_X4 0 rfl rfl 5 (by decide) (mc wq_33_0) rfl ?_
      refine x_iload_n C 78 139 rfl 1 rfl rfl ?_
      obtain ⟨hi, h⟩ := h
      obtain ⟨z17, ez17⟩ : ∃ z : St, z = ua z14 4 (z14 5 0) x2 := ⟨_, rfl⟩
      replace h := h z17 ez17
      refine x_iast (f := z14 4) (ws' := fl [wdM (xk x) aM aJ z17, wdK (xk x) aJ sJ, wdB (xk x) aB sB]) C 79 140 rfl 2 rfl hi (by rw [ez17]; rfl) ?_
      refine x_aload_n C 80 141 rfl 0 rfl rfl ?_
      refine x_dup C 81 142 rfl rfl ?_
      refine x_get (v := .int (z17 5 0)) C 82 143 rfl fi_X4 0 rfl rfl 5 (by decide) (mc wq_33_0) rfl ?_
      refine x_iconst (v := (1 : Int32)) C 83 146 rfl (by decide) ?_
      refine x_iadd C 84 147 rfl ?_
      obtain ⟨z18, ez18⟩ : ∃ z : St, z = us z17 5 (z17 5 0 + (1 : Int32)) := ⟨_, rfl⟩
      replace h := h z18 ez18
      refine x_put (ws' := fl [wdM (xk x) aM aJ z18, wdK (xk x) aJ sJ, wdB (xk x) aB sB]) C 85 148 rfl fi_X4 tyX4 tyX4_ok nmX4 0 rfl rfl 5 (by decide) (mc wq_33_0) rfl rfl rfl (Nat.le_of_ble_eq_true rfl) (by rw [ez18]; rfl) ?_
      exact x_vret C rt 86 151 rfl (z18, sJ, sB) rfl h
set_option maxHeartbeats 4000000 in
set_option maxRecDepth 100000 in
theorem w_X4_tryKept {x : CT} {aM aJ aB : Nat → Nat} {sM : St} {sJ : St} {sB : St} {p2 : Int32} {K : (St × St × St) → Prop} (C : Cx x cX4_tryKept tb_X4_tryKept 7 RX4 (Cond.code yX4_tryKept cX4_tryKept 7 none :: wsL_law) ({ frames := 4, cells := 0, slots := 0, locals := 99 } : Room)) (rt : RetV x 0 0 (fun (u : St × St × St) => fl [wdM (xk x) aM aJ u.1, wdK (xk x) aJ u.2.1, wdB (xk x) aB u.2.2]) (fun (u : St × St × St) => K u)) (h : wp_X4_tryKept sM sJ sB p2 K) : Wx x 7 0 0 (fl [wdM (xk x) aM aJ sM, wdK (xk x) aJ sJ, wdB (xk x) aB sB]) [(0, .ref (aM 0)), (1, .ref (aB 0)), (2, .int p2)] 0 [] := by
  unfold wp_X4_tryKept at h
  refine x_iload_n C 0 0 rfl 2 rfl rfl ?_
  refine x_bipush (v := (9 : Int32)) C 1 1 rfl (by decide) ?_
  refine x_idiv C 2 3 rfl (by decide) ?_
  refine x_topi (fun y1 ey1 => ?_)
  replace h := h y1 ey1
  refine x_istore_n (lv' := [(0, .ref (aM 0)), (1, .ref (aB 0)), (2, .int p2), (3, .int y1)]) C 3 4 rfl rfl (by decide) [1, 2, 3, 0] rfl ?_
  refine x_iload_n C 4 5 rfl 2 rfl rfl ?_
  refine x_bipush (v := (9 : Int32)) C 5 6 rfl (by decide) ?_
  refine x_irem C 6 8 rfl (by decide) ?_
  refine x_iconst (v := (3 : Int32)) C 7 9 rfl (by decide) ?_
  refine x_idiv C 8 10 rfl (by decide) ?_
  refine x_topi (fun y2 ey2 => ?_)
  replace h := h y2 ey2
  refine x_istore (lv' := [(0, .ref (aM 0)), (1, .ref (aB 0)), (2, .int p2), (3, .int y1), (4, .int y2)]) C 9 11 rfl (by decide) [1, 2, 3, 4, 0] rfl ?_
  refine x_iload_n C 10 13 rfl 2 rfl rfl ?_
  refine x_iconst (v := (3 : Int32)) C 11 14 rfl (by decide) ?_
  refine x_irem C 12 15 rfl (by decide) ?_
  refine x_topi (fun y3 ey3 => ?_)
  replace h := h y3 ey3
  refine x_istore (lv' := [(0, .ref (aM 0)), (1, .ref (aB 0)), (2, .int p2), (3, .int y1), (4, .int y2), (5, .int y3)]) C 13 16 rfl (by decide) [1, 2, 3, 4, 5, 0] rfl ?_
  refine x_aload_n C 14 18 rfl 1 rfl rfl ?_
  refine x_iload_n C 15 19 rfl 3 rfl rfl ?_
  refine x_iload C 16 20 rfl 4 rfl ?_
  refine x_iload C 17 22 rfl 5 rfl ?_
  refine x_callGVZ (ci := 0) (q0 := 0) (q := (RX1, TX1, 5)) C 18 24 (c_X1_hasPair (xl x) (xD x) (xk x) (xg x) aB sB y1 y2 y3 _ h) rfl wwGood (mem4 wq_33_8 wq_18_0 wq_18_1 wq_1_19) wq_18_2 3 ok_X1_hasPair rfl ⟨by decide, by decide⟩ (Nat.le_of_ble_eq_true rfl) ⟨Nat.le_refl _, Nat.le_refl _⟩ ⟨rfl, rfl⟩ rfl rfl [wdM (xk x) aM aJ sM, wdK (xk x) aJ sJ] (fun (u : Unit) => [wdM (xk x) aM aJ sM, wdK (xk x) aJ sJ, wdB (xk x) aB sB]) [0, 1, 2] [0, 1, 2] (show List.Perm [0, 1, 2] (List.range 3) by decide) rfl 3 (fun _ => rfl) (by decide) (fun _ => rfl) (fun r4 _ h => ?_)
  refine x_if_eq C 19 27 47 rfl rfl (fun c5 => ?_) (fun c5 => ?_)
  · replace h := h.1 c5
    exact x_vret C rt 29 47 rfl (sM, sJ, sB) rfl h
  · replace h := h.2 c5
    refine x_aload_n C 20 30 rfl 1 rfl rfl ?_
    refine x_get (v := .ref (aB 4)) C 21 31 rfl fi_X1 11 rfl rfl 3 (by decide) (mc wq_33_6) rfl ?_
    refine x_iload_n C 22 34 rfl 3 rfl rfl ?_
    obtain ⟨hi, h⟩ := h
    refine x_iald (f := sB 3) C 23 35 rfl 15 rfl hi ?_
    refine x_iload C 24 36 rfl 4 rfl ?_
    refine x_iload C 25 38 rfl 5 rfl ?_
    refine x_call0SI C 26 40 (c_X0_at (xl x) (xD x) (xk x) (xg x) (sB 3 y1.toNatClampNeg) y2 y3 _ h) rfl wwGood (mem3 wq_33_9 wq_12_19 wq_12_20) wq_12_21 3 ok_X0_at rfl ⟨by decide, by decide⟩ (Nat.le_of_ble_eq_true rfl) ⟨Nat.le_refl _, Nat.le_refl _⟩ ⟨rfl, rfl⟩ rfl (fun r6 _ h => ?_)
    refine x_iconst (v := (2 : Int32)) C 27 43 rfl (by decide) ?_
    refine x_icmp_eq C 28 44 48 rfl rfl (fun c7 => ?_) (fun c7 => ?_)
    · replace h := h.1 c7
      refine x_aload_n C 30 48 rfl 1 rfl rfl ?_
      refine x_get (v := .ref (aB 4)) C 31 49 rfl fi_X1 11 rfl rfl 3 (by decide) (mc wq_33_6) rfl ?_
      refine x_iload_n C 32 52 rfl 3 rfl rfl ?_
      obtain ⟨hi, h⟩ := h
      refine x_iald (f := sB 3) C 33 53 rfl 15 rfl hi ?_
      refine x_topi (fun y8 ey8 => ?_)
      replace h := h y8 ey8
      refine x_istore (lv' := [(0, .ref (aM 0)), (1, .ref (aB 0)), (2, .int p2), (3, .int y1), (4, .int y2), (5, .int y3), (6, .int y8)]) C 34 54 rfl (by decide) [1, 2, 3, 4, 5, 6, 0] rfl ?_
      refine x_aload_n C 35 56 rfl 1 rfl rfl ?_
      refine x_get (v := .ref (aB 4)) C 36 57 rfl fi_X1 11 rfl rfl 3 (by decide) (mc wq_33_6) rfl ?_
      refine x_iload_n C 37 60 rfl 3 rfl rfl ?_
      refine x_iload C 38 61 rfl 6 rfl ?_
      refine x_iload C 39 63 rfl 4 rfl ?_
      refine x_iload C 40 65 rfl 5 rfl ?_
      refine x_iconst (v := (1 : Int32)) C 41 67 rfl (by decide) ?_
      refine x_call0SI C 42 68 (c_X0_with (xl x) (xD x) (xk x) (xg x) y8 y2 y3 (1 : Int32) _ h) rfl wwGood (mem3 wq_33_10 wq_12_23 wq_12_20) wq_13_0 4 ok_X0_with rfl ⟨by decide, by decide⟩ (Nat.le_of_ble_eq_true rfl) ⟨Nat.le_refl _, Nat.le_refl _⟩ ⟨rfl, rfl⟩ rfl (fun r9 _ h => ?_)
      obtain ⟨hi, h⟩ := h
      obtain ⟨z10, ez10⟩ : ∃ z : St, z = ua sB 3 y1 r9 := ⟨_, rfl⟩
      replace h := h z10 ez10
      refine x_iast (f := sB 3) (ws' := fl [wdM (xk x) aM aJ sM, wdK (xk x) aJ sJ, wdB (xk x) aB z10]) C 43 71 rfl 15 rfl hi (by rw [ez10]; rfl) ?_
      refine x_aload_n C 44 72 rfl 0 rfl rfl ?_
      refine x_get (v := .ref (aJ 0)) C 45 73 rfl fi_X4 0 rfl rfl 0 (by decide) (mc wq_4_7) rfl ?_
      refine x_aload_n C 46 76 rfl 1 rfl rfl ?_
      refine x_iconst (v := (0 : Int32)) C 47 77 rfl (by decide) ?_
      refine x_iconst (v := (0 : Int32)) C 48 78 rfl (by decide) ?_
      refine x_callGVV (ci := 1) (q0 := 0) (q := (RX2, TX2, 12)) C 49 79 (c_X2_grow (xl x) (xD x) (xk x) (xg x) aJ aB sJ z10 (0 : Int32) (0 : Int32) _ h) rfl wwGood (mem4 wq_32_2 wq_19_9 wq_19_10 wq_2_4) wq_19_11 3 ok_X2_grow rfl ⟨by decide, by decide⟩ (Nat.le_of_ble_eq_true rfl) ⟨Nat.le_refl _, Nat.le_refl _⟩ ⟨rfl, rfl⟩ rfl rfl [wdM (xk x) aM aJ sM] (fun (u : St) => [wdM (xk x) aM aJ sM, wdK (xk x) aJ u, wdB (xk x) aB z10]) [0, 1, 2] [0, 1, 2] (show List.Perm [0, 1, 2] (List.range 3) by decide) rfl 3 (fun _ => rfl) (by decide) (fun _ => rfl) (fun u11 h => ?_)
      refine x_aload_n C 50 82 rfl 1 rfl rfl ?_
      refine x_get (v := .ref (aB 4)) C 51 83 rfl fi_X1 11 rfl rfl 3 (by decide) (mc wq_33_6) rfl ?_
      refine x_iload_n C 52 86 rfl 3 rfl rfl ?_
      refine x_iload C 53 87 rfl 6 rfl ?_
      obtain ⟨hi, h⟩ := h
      obtain ⟨z12, ez12⟩ : ∃ z : St, z = ua z10 3 y1 y8 := ⟨_, rfl⟩
      replace h := h z12 ez12
      refine x_iast (f := z10 3) (ws' := fl [wdM (xk x) aM aJ sM, wdK (xk x) aJ u11, wdB (xk x) aB z12]) C 54 89 rfl 15 rfl hi (by rw [ez12]; rfl) ?_
      refine x_aload_n C 55 90 rfl 0 rfl rfl ?_
      refine x_aload_n C 56 91 rfl 0 rfl rfl ?_
      refine x_get (v := .ref (aJ 0)) C 57 92 rfl fi_X4 0 rfl rfl 0 (by decide) (mc wq_4_7) rfl ?_
      refine x_get (v := .int (u11 8 0)) C 58 95 rfl fi_X2 3 rfl rfl 8 (by decide) (mc wq_33_7) rfl ?_
      refine x_if_ne C 59 98 105 rfl rfl (fun c13 => ?_) (fun c13 => ?_)
      · replace h := h.2 c13
        refine x_iconst (v := (0 : Int32)) C 62 105 rfl (by decide) ?_
        exact x_sub (lv' := [(0, .ref (aM 0)), (2, .int p2)]) [0, 2] rfl (wj_X4_tryKept_106 C rt h)
      · replace h := h.1 c13
        refine x_iconst (v := (1 : Int32)) C 60 101 rfl (by decide) ?_
        refine x_goto C 61 102 106 rfl rfl ?_
        exact x_sub (lv' := [(0, .ref (aM 0)), (2, .int p2)]) [0, 2] rfl (wj_X4_tryKept_106 C rt h)
    · replace h := h.2 c7
      exact x_vret C rt 29 47 rfl (sM, sJ, sB) rfl h
theorem c_X4_tryKept (l : Launch) (D : va_G) (k : ClassId × ClassId) (g : Nat → Nat) (aM aJ aB : Nat → Nat) (sM : St) (sJ : St) (sB : St) (p2 : Int32) (K : (St × St × St) → Prop) (h : wp_X4_tryKept sM sJ sB p2 K) : ConV l yX4_tryKept (Cond.code yX4_tryKept cX4_tryKept 7 none :: wsL_law) ({ frames := 4, cells := 0, slots := 0, locals := 99 } : Room) D k g [.ref (aM 0), .ref (aB 0), .int p2] (fl [wdM k aM aJ sM, wdK k aJ sJ, wdB k aB sB]) (fun (u : St × St × St) => fl [wdM k aM aJ u.1, wdK k aJ u.2.1, wdB k aB u.2.2]) (fun (u : St × St × St) => K u) := by
  refine ConV.of (tb := tb_X4_tryKept) (cc := cX4_tryKept) (nL := 7) (by decide) rfl tbk_X4_tryKept (Nat.le_of_ble_eq_true rfl) ?_
  intro x hl hD hk hg C rt
  subst hl hD hk hg
  exact w_X4_tryKept C rt h
set_option maxHeartbeats 4000000 in
set_option maxRecDepth 100000 in
theorem w_X4_findsNeeded_19 {x : CT} {aM aJ aB : Nat → Nat} {K : Int32 → (St × St × St) → Prop} (C : Cx x cX4_findsNeeded tb_X4_findsNeeded 3 RX4 (Cond.code yX4_findsNeeded cX4_findsNeeded 3 (some .boolean) :: wsL_law) ({ frames := 5, cells := 0, slots := 0, locals := 125 } : Room)) (rt : RetZ x 0 0 (fun (u : St × St × St) => fl [wdM (xk x) aM aJ u.1, wdK (xk x) aJ u.2.1, wdB (xk x) aB u.2.2]) (fun (r : Int32) (u : St × St × St) => K r u))  {q4 : Int32 × St × St × St} (h : Lp (F_X4_findsNeeded_19 K) q4) : Wx x 3 0 0 (fl [wdM (xk x) aM aJ q4.2.1, wdK (xk x) aJ q4.2.2.1, wdB (xk x) aB q4.2.2.2]) [(0, .ref (aM 0)), (1, .ref (aB 0)), (2, .int q4.1)] 19 [] := by
  refine lp_walk (P := fun q4 => Wx x 3 0 0 (fl [wdM (xk x) aM aJ q4.2.1, wdK (xk x) aJ q4.2.2.1, wdB (xk x) aB q4.2.2.2]) [(0, .ref (aM 0)), (1, .ref (aB 0)), (2, .int q4.1)] 19 []) (fun q4 R19 hR19 h => ?_) h
  refine x_iload_n C 11 19 rfl 2 rfl rfl ?_
  refine x_bipush (v := (72 : Int32)) C 12 20 rfl (by decide) ?_
  refine x_icmp_ge C 13 22 44 rfl rfl (fun c5 => ?_) (fun c5 => ?_)
  · replace h := h.1 c5
    refine x_aload_n C 23 44 rfl 0 rfl rfl ?_
    refine x_iconst (v := (1 : Int32)) C 24 45 rfl (by decide) ?_
    obtain ⟨z6, ez6⟩ : ∃ z : St, z = us q4.2.1 6 (1 : Int32) := ⟨_, rfl⟩
    replace h := h z6 ez6
    refine x_put (ws' := fl [wdM (xk x) aM aJ z6, wdK (xk x) aJ q4.2.2.1, wdB (xk x) aB q4.2.2.2]) C 25 46 rfl fi_X4 tyX4 tyX4_ok nmX4 0 rfl rfl 6 (by decide) (mc wq_13_22) rfl (zb_n zb_1) (zb_f zb_1) (Nat.le_of_ble_eq_true rfl) (by rw [ez6]; rfl) ?_
    refine x_aload_n C 26 49 rfl 0 rfl rfl ?_
    refine x_get (v := .int (z6 7 0)) C 27 50 rfl fi_X4 0 rfl rfl 7 (by decide) (mc wq_33_1) rfl ?_
    exact x_zret C rt 28 53 rfl h.1 (z6, q4.2.2.1, q4.2.2.2) rfl h.2
  · replace h := h.2 c5
    refine x_aload_n C 14 25 rfl 0 rfl rfl ?_
    refine x_get (v := .int (q4.2.1 7 0)) C 15 26 rfl fi_X4 0 rfl rfl 7 (by decide) (mc wq_33_1) rfl ?_
    refine x_if_eq C 16 29 44 rfl rfl (fun c7 => ?_) (fun c7 => ?_)
    · replace h := h.1 c7
      refine x_aload_n C 23 44 rfl 0 rfl rfl ?_
      refine x_iconst (v := (1 : Int32)) C 24 45 rfl (by decide) ?_
      obtain ⟨z8, ez8⟩ : ∃ z : St, z = us q4.2.1 6 (1 : Int32) := ⟨_, rfl⟩
      replace h := h z8 ez8
      refine x_put (ws' := fl [wdM (xk x) aM aJ z8, wdK (xk x) aJ q4.2.2.1, wdB (xk x) aB q4.2.2.2]) C 25 46 rfl fi_X4 tyX4 tyX4_ok nmX4 0 rfl rfl 6 (by decide) (mc wq_13_22) rfl (zb_n zb_1) (zb_f zb_1) (Nat.le_of_ble_eq_true rfl) (by rw [ez8]; rfl) ?_
      refine x_aload_n C 26 49 rfl 0 rfl rfl ?_
      refine x_get (v := .int (z8 7 0)) C 27 50 rfl fi_X4 0 rfl rfl 7 (by decide) (mc wq_33_1) rfl ?_
      exact x_zret C rt 28 53 rfl h.1 (z8, q4.2.2.1, q4.2.2.2) rfl h.2
    · replace h := h.2 c7
      refine x_aload_n C 17 32 rfl 0 rfl rfl ?_
      refine x_aload_n C 18 33 rfl 1 rfl rfl ?_
      refine x_iload_n C 19 34 rfl 2 rfl rfl ?_
      refine x_callWVV (ci := 2) (q0 := 0) (q := (RX4, TX4, 8)) C 20 35 (c_X4_tryKept (xl x) (xD x) (xk x) (xg x) aM aJ aB q4.2.1 q4.2.2.1 q4.2.2.2 q4.1 _ h) rfl wwGood (mem4 wq_33_2 wq_33_3 wq_33_4 wq_2_8) wq_33_5 2 ok_X4_tryKept rfl ⟨by decide, by decide⟩ (Nat.le_of_ble_eq_true rfl) ⟨Nat.le_refl _, Nat.le_refl _⟩ ⟨rfl, rfl⟩ rfl rfl rfl (fun u9 h => ?_)
      obtain ⟨y10, ey10⟩ : ∃ y : Int32, y = q4.1 + (1 : Int32) := ⟨_, rfl⟩
      replace h := h y10 ey10
      refine x_iinc (v := y10) (lv' := [(0, .ref (aM 0)), (1, .ref (aB 0)), (2, .int y10)]) C 21 38 rfl 2 rfl (by rw [ey10]; rfl) (by decide) [1, 2, 0] rfl ?_
      refine x_goto C 22 41 19 rfl rfl ?_
      exact x_sub [0, 1, 2] rfl (hR19 (y10, u9.1, u9.2.1, u9.2.2) h)
set_option maxHeartbeats 4000000 in
set_option maxRecDepth 100000 in
theorem w_X4_findsNeeded {x : CT} {aM aJ aB : Nat → Nat} {sM : St} {sJ : St} {sB : St} {K : Int32 → (St × St × St) → Prop} (C : Cx x cX4_findsNeeded tb_X4_findsNeeded 3 RX4 (Cond.code yX4_findsNeeded cX4_findsNeeded 3 (some .boolean) :: wsL_law) ({ frames := 5, cells := 0, slots := 0, locals := 125 } : Room)) (rt : RetZ x 0 0 (fun (u : St × St × St) => fl [wdM (xk x) aM aJ u.1, wdK (xk x) aJ u.2.1, wdB (xk x) aB u.2.2]) (fun (r : Int32) (u : St × St × St) => K r u)) (h : wp_X4_findsNeeded sM sJ sB K) : Wx x 3 0 0 (fl [wdM (xk x) aM aJ sM, wdK (xk x) aJ sJ, wdB (xk x) aB sB]) [(0, .ref (aM 0)), (1, .ref (aB 0))] 0 [] := by
  unfold wp_X4_findsNeeded at h
  refine x_aload_n C 0 0 rfl 0 rfl rfl ?_
  refine x_get (v := .int (sM 6 0)) C 1 1 rfl fi_X4 0 rfl rfl 6 (by decide) (mc wq_13_22) rfl ?_
  refine x_if_ne C 2 4 49 rfl rfl (fun c1 => ?_) (fun c1 => ?_)
  · replace h := h.2 c1
    refine x_aload_n C 26 49 rfl 0 rfl rfl ?_
    refine x_get (v := .int (sM 7 0)) C 27 50 rfl fi_X4 0 rfl rfl 7 (by decide) (mc wq_33_1) rfl ?_
    exact x_zret C rt 28 53 rfl h.1 (sM, sJ, sB) rfl h.2
  · replace h := h.1 c1
    refine x_aload_n C 3 7 rfl 0 rfl rfl ?_
    refine x_iconst (v := (0 : Int32)) C 4 8 rfl (by decide) ?_
    obtain ⟨z2, ez2⟩ : ∃ z : St, z = us sM 5 (0 : Int32) := ⟨_, rfl⟩
    replace h := h z2 ez2
    refine x_put (ws' := fl [wdM (xk x) aM aJ z2, wdK (xk x) aJ sJ, wdB (xk x) aB sB]) C 5 9 rfl fi_X4 tyX4 tyX4_ok nmX4 0 rfl rfl 5 (by decide) (mc wq_33_0) rfl rfl rfl (Nat.le_of_ble_eq_true rfl) (by rw [ez2]; rfl) ?_
    refine x_aload_n C 6 12 rfl 0 rfl rfl ?_
    refine x_iconst (v := (1 : Int32)) C 7 13 rfl (by decide) ?_
    obtain ⟨z3, ez3⟩ : ∃ z : St, z = us z2 7 (1 : Int32) := ⟨_, rfl⟩
    replace h := h z3 ez3
    refine x_put (ws' := fl [wdM (xk x) aM aJ z3, wdK (xk x) aJ sJ, wdB (xk x) aB sB]) C 8 14 rfl fi_X4 tyX4 tyX4_ok nmX4 0 rfl rfl 7 (by decide) (mc wq_33_1) rfl (zb_n zb_1) (zb_f zb_1) (Nat.le_of_ble_eq_true rfl) (by rw [ez3]; rfl) ?_
    refine x_iconst (v := (0 : Int32)) C 9 17 rfl (by decide) ?_
    refine x_istore_n (lv' := [(0, .ref (aM 0)), (1, .ref (aB 0)), (2, .int (0 : Int32))]) C 10 18 rfl rfl (by decide) [1, 2, 0] rfl ?_
    refine x_sub (lv' := [(0, .ref (aM 0)), (1, .ref (aB 0)), (2, .int (0 : Int32))]) [0, 1, 2] rfl (w_X4_findsNeeded_19 C rt h)
theorem c_X4_findsNeeded (l : Launch) (D : va_G) (k : ClassId × ClassId) (g : Nat → Nat) (aM aJ aB : Nat → Nat) (sM : St) (sJ : St) (sB : St) (K : Int32 → (St × St × St) → Prop) (h : wp_X4_findsNeeded sM sJ sB K) : ConZ l yX4_findsNeeded (Cond.code yX4_findsNeeded cX4_findsNeeded 3 (some .boolean) :: wsL_law) ({ frames := 5, cells := 0, slots := 0, locals := 125 } : Room) D k g [.ref (aM 0), .ref (aB 0)] (fl [wdM k aM aJ sM, wdK k aJ sJ, wdB k aB sB]) (fun (u : St × St × St) => fl [wdM k aM aJ u.1, wdK k aJ u.2.1, wdB k aB u.2.2]) (fun (r : Int32) (u : St × St × St) => K r u) := by
  refine ConZ.of (tb := tb_X4_findsNeeded) (cc := cX4_findsNeeded) (nL := 3) (by decide) rfl tbk_X4_findsNeeded (Nat.le_of_ble_eq_true rfl) ?_
  intro x hl hD hk hg C rt
  subst hl hD hk hg
  exact w_X4_findsNeeded C rt h
set_option maxHeartbeats 4000000 in
set_option maxRecDepth 100000 in
theorem w_X4_neededAt {x : CT} {aM aJ : Nat → Nat} {sM : St} {sJ : St} {p1 : Int32} {K : Int32 → Prop} (C : Cx x cX4_neededAt tb_X4_neededAt 2 RX4 (Cond.code yX4_neededAt cX4_neededAt 2 (some .int) :: wsL_law) ({ frames := 0, cells := 0, slots := 0, locals := 0 } : Room)) (rt : RetI x 0 0 (fun (u : Unit) => fl [wdM (xk x) aM aJ sM, wdK (xk x) aJ sJ]) (fun (r : Int32) (_ : Unit) => K r)) (h : wp_X4_neededAt sM sJ p1 K) : Wx x 2 0 0 (fl [wdM (xk x) aM aJ sM, wdK (xk x) aJ sJ]) [(0, .ref (aM 0)), (1, .int p1)] 0 [] := by
  unfold wp_X4_neededAt at h
  refine x_iload_n C 0 0 rfl 1 rfl rfl ?_
  refine x_if_lt C 1 1 21 rfl rfl (fun c1 => ?_) (fun c1 => ?_)
  · replace h := h.1 c1
    refine x_iconst (v := (-1 : Int32)) C 11 21 rfl (by decide) ?_
    exact x_iret C rt 12 22 rfl () rfl h
  · replace h := h.2 c1
    refine x_iload_n C 2 4 rfl 1 rfl rfl ?_
    refine x_aload_n C 3 5 rfl 0 rfl rfl ?_
    refine x_get (v := .int (sM 5 0)) C 4 6 rfl fi_X4 0 rfl rfl 5 (by decide) (mc wq_33_0) rfl ?_
    refine x_icmp_ge C 5 9 21 rfl rfl (fun c2 => ?_) (fun c2 => ?_)
    · replace h := h.1 c2
      refine x_iconst (v := (-1 : Int32)) C 11 21 rfl (by decide) ?_
      exact x_iret C rt 12 22 rfl () rfl h
    · replace h := h.2 c2
      refine x_aload_n C 6 12 rfl 0 rfl rfl ?_
      refine x_get (v := .ref (aM 2)) C 7 13 rfl fi_X4 0 rfl rfl 4 (by decide) (mc wq_4_10) rfl ?_
      refine x_iload_n C 8 16 rfl 1 rfl rfl ?_
      obtain ⟨hi, h⟩ := h
      refine x_iald (f := sM 4) C 9 17 rfl 2 rfl hi ?_
      refine x_goto C 10 18 22 rfl rfl ?_
      exact x_iret C rt 12 22 rfl () rfl h
theorem c_X4_neededAt (l : Launch) (D : va_G) (k : ClassId × ClassId) (g : Nat → Nat) (aM aJ : Nat → Nat) (sM : St) (sJ : St) (p1 : Int32) (K : Int32 → Prop) (h : wp_X4_neededAt sM sJ p1 K) : ConI l yX4_neededAt (Cond.code yX4_neededAt cX4_neededAt 2 (some .int) :: wsL_law) ({ frames := 0, cells := 0, slots := 0, locals := 0 } : Room) D k g [.ref (aM 0), .int p1] (fl [wdM k aM aJ sM, wdK k aJ sJ]) (fun (u : Unit) => fl [wdM k aM aJ sM, wdK k aJ sJ]) (fun (r : Int32) (_ : Unit) => K r) := by
  refine ConI.of (tb := tb_X4_neededAt) (cc := cX4_neededAt) (nL := 2) (by decide) rfl tbk_X4_neededAt (Nat.le_of_ble_eq_true rfl) ?_
  intro x hl hD hk hg C rt
  subst hl hD hk hg
  exact w_X4_neededAt C rt h
