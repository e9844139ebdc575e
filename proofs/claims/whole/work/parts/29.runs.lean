set_option maxHeartbeats 4000000 in
set_option maxRecDepth 100000 in
theorem w_X6_fits {x : CT} {aV : Nat → Nat} {sV : St} {p1 : Int32} {p2 : Int32} {K : Int32 → Prop} (C : Cx x cX6_fits tb_X6_fits 3 RX6 (Cond.code yX6_fits cX6_fits 3 (some .boolean) :: wsL_law) ({ frames := 0, cells := 0, slots := 0, locals := 0 } : Room)) (rt : RetZ x 0 0 (fun (u : Unit) => fl [wdV (xk x) aV sV]) (fun (r : Int32) (_ : Unit) => K r)) (h : wp_X6_fits sV p1 p2 K) : Wx x 3 0 0 (fl [wdV (xk x) aV sV]) [(0, .ref (aV 0)), (1, .int p1), (2, .int p2)] 0 [] := by
  unfold wp_X6_fits at h
  refine x_iload_n C 0 0 rfl 1 rfl rfl ?_
  refine x_if_lt C 1 1 24 rfl rfl (fun c1 => ?_) (fun c1 => ?_)
  · replace h := h.1 c1
    refine x_iconst (v := (0 : Int32)) C 12 24 rfl (by decide) ?_
    exact x_zret C rt 13 25 rfl zb_0 () rfl h
  · replace h := h.2 c1
    refine x_iload_n C 2 4 rfl 1 rfl rfl ?_
    refine x_iload_n C 3 5 rfl 2 rfl rfl ?_
    refine x_if_eq C 4 6 16 rfl rfl (fun c2 => ?_) (fun c2 => ?_)
    · replace h := h.1 c2
      refine x_iconst (v := (0 : Int32)) C 8 16 rfl (by decide) ?_
      refine x_icmp_gt C 9 17 24 rfl rfl (fun c3 => ?_) (fun c3 => ?_)
      · replace h := h.1 c3
        refine x_iconst (v := (0 : Int32)) C 12 24 rfl (by decide) ?_
        exact x_zret C rt 13 25 rfl zb_0 () rfl h
      · replace h := h.2 c3
        refine x_iconst (v := (1 : Int32)) C 10 20 rfl (by decide) ?_
        refine x_goto C 11 21 25 rfl rfl ?_
        exact x_zret C rt 13 25 rfl zb_1 () rfl h
    · replace h := h.2 c2
      refine x_aload_n C 5 9 rfl 0 rfl rfl ?_
      refine x_get (v := .int (sV 0 0)) C 6 10 rfl fi_X6 0 rfl rfl 0 (by decide) (mc wq_4_15) rfl ?_
      refine x_goto C 7 13 17 rfl rfl ?_
      refine x_icmp_gt C 9 17 24 rfl rfl (fun c4 => ?_) (fun c4 => ?_)
      · replace h := h.1 c4
        refine x_iconst (v := (0 : Int32)) C 12 24 rfl (by decide) ?_
        exact x_zret C rt 13 25 rfl zb_0 () rfl h
      · replace h := h.2 c4
        refine x_iconst (v := (1 : Int32)) C 10 20 rfl (by decide) ?_
        refine x_goto C 11 21 25 rfl rfl ?_
        exact x_zret C rt 13 25 rfl zb_1 () rfl h
theorem c_X6_fits (l : Launch) (D : va_G) (k : ClassId × ClassId) (g : Nat → Nat) (aV : Nat → Nat) (sV : St) (p1 : Int32) (p2 : Int32) (K : Int32 → Prop) (h : wp_X6_fits sV p1 p2 K) : ConZ l yX6_fits (Cond.code yX6_fits cX6_fits 3 (some .boolean) :: wsL_law) ({ frames := 0, cells := 0, slots := 0, locals := 0 } : Room) D k g [.ref (aV 0), .int p1, .int p2] (fl [wdV k aV sV]) (fun (u : Unit) => fl [wdV k aV sV]) (fun (r : Int32) (_ : Unit) => K r) := by
  refine ConZ.of (tb := tb_X6_fits) (cc := cX6_fits) (nL := 3) (by decide) rfl tbk_X6_fits (Nat.le_of_ble_eq_true rfl) ?_
  intro x hl hD hk hg C rt
  subst hl hD hk hg
  exact w_X6_fits C rt h
set_option maxHeartbeats 4000000 in
set_option maxRecDepth 100000 in
theorem wj_X6_stateOf_60 {x : CT} {aV aB : Nat → Nat} {sV : St} {sB : St} {x2 : Int32} {x3 : Int32} {x4 : Int32} {x5 : Int32} {t1 : Int32} {t2 : Int32} {K : Int32 → Prop} (C : Cx x cX6_stateOf tb_X6_stateOf 7 RX6 (Cond.code yX6_stateOf cX6_stateOf 7 (some .int) :: wsL_law) ({ frames := 1, cells := 0, slots := 0, locals := 22 } : Room)) (rt : RetI x 0 0 (fun (u : Unit) => fl [wdV (xk x) aV sV, wdB (xk x) aB sB]) (fun (r : Int32) (_ : Unit) => K r))  (h : J_X6_stateOf_60 sV x2 x3 x4 x5 t1 t2 K) : Wx x 7 0 0 (fl [wdV (xk x) aV sV, wdB (xk x) aB sB]) [(2, .int x2), (3, .int x3), (4, .int x4), (5, .int x5)] 60 [.int t2, .int t1, .ref (aV 0)] := by
  unfold J_X6_stateOf_60 at h
  refine x_callGVZ (ci := 4) (q0 := 0) (q := (RX6, TX6, 6)) C 32 60 (c_X6_fits (xl x) (xD x) (xk x) (xg x) aV sV t1 t2 _ h) rfl wwGood (mem4 wq_34_13 wq_34_14 wq_34_15 wq_2_12) wq_34_16 2 ok_X6_fits rfl ⟨by decide, by decide⟩ (Nat.le_of_ble_eq_true rfl) ⟨Nat.le_refl _, Nat.le_refl _⟩ ⟨rfl, rfl⟩ rfl rfl [wdB (xk x) aB sB] (fun (u : Unit) => [wdV (xk x) aV sV, wdB (xk x) aB sB]) [1, 0] [1, 0] (show List.Perm [1, 0] (List.range 2) by decide) rfl 2 (fun _ => rfl) (by decide) (fun _ => rfl) (fun r9 _ h => ?_)
  refine x_if_ne C 33 63 68 rfl rfl (fun c10 => ?_) (fun c10 => ?_)
  · replace h := h.2 c10
    refine x_iload_n C 36 68 rfl 0 rfl rfl ?_
    refine x_bipush (v := (6 : Int32)) C 37 69 rfl (by decide) ?_
    refine x_ishl C 38 71 rfl ?_
    refine x_iload C 39 72 rfl 3 rfl ?_
    refine x_iconst (v := (4 : Int32)) C 40 74 rfl (by decide) ?_
    refine x_ishl C 41 75 rfl ?_
    refine x_ior C 42 76 rfl ?_
    refine x_iload C 43 77 rfl 2 rfl ?_
    refine x_iconst (v := (2 : Int32)) C 44 79 rfl (by decide) ?_
    refine x_ishl C 45 80 rfl ?_
    refine x_ior C 46 81 rfl ?_
    refine x_iload_n C 47 82 rfl 1 rfl rfl ?_
    refine x_ior C 48 83 rfl ?_
    exact x_iret C rt 49 84 rfl () rfl h
  · replace h := h.1 c10
    refine x_iconst (v := (-1 : Int32)) C 34 66 rfl (by decide) ?_
    exact x_iret C rt 35 67 rfl () rfl h
set_option maxHeartbeats 4000000 in
set_option maxRecDepth 100000 in
theorem wj_X6_stateOf_40 {x : CT} {aV aB : Nat → Nat} {sV : St} {sB : St} {x2 : Int32} {x3 : Int32} {x4 : Int32} {x5 : Int32} {x6 : Int32} {t1 : Int32} {t2 : Int32} {K : Int32 → Prop} (C : Cx x cX6_stateOf tb_X6_stateOf 7 RX6 (Cond.code yX6_stateOf cX6_stateOf 7 (some .int) :: wsL_law) ({ frames := 1, cells := 0, slots := 0, locals := 22 } : Room)) (rt : RetI x 0 0 (fun (u : Unit) => fl [wdV (xk x) aV sV, wdB (xk x) aB sB]) (fun (r : Int32) (_ : Unit) => K r))  (h : J_X6_stateOf_40 sV x2 x3 x4 x5 x6 t1 t2 K) : Wx x 7 0 0 (fl [wdV (xk x) aV sV, wdB (xk x) aB sB]) [(0, .ref (aV 0)), (2, .int x2), (3, .int x3), (4, .int x4), (5, .int x5), (6, .int x6)] 40 [.int t2, .int t1, .ref (aV 0)] := by
  unfold J_X6_stateOf_40 at h
  refine x_callGVZ (ci := 4) (q0 := 0) (q := (RX6, TX6, 6)) C 22 40 (c_X6_fits (xl x) (xD x) (xk x) (xg x) aV sV t1 t2 _ h) rfl wwGood (mem4 wq_34_13 wq_34_14 wq_34_15 wq_2_12) wq_34_16 2 ok_X6_fits rfl ⟨by decide, by decide⟩ (Nat.le_of_ble_eq_true rfl) ⟨Nat.le_refl _, Nat.le_refl _⟩ ⟨rfl, rfl⟩ rfl rfl [wdB (xk x) aB sB] (fun (u : Unit) => [wdV (xk x) aV sV, wdB (xk x) aB sB]) [1, 0] [1, 0] (show List.Perm [1, 0] (List.range 2) by decide) rfl 2 (fun _ => rfl) (by decide) (fun _ => rfl) (fun r6 _ h => ?_)
  refine x_if_eq C 23 43 66 rfl rfl (fun c7 => ?_) (fun c7 => ?_)
  · replace h := h.1 c7
    refine x_iconst (v := (-1 : Int32)) C 34 66 rfl (by decide) ?_
    exact x_iret C rt 35 67 rfl () rfl h
  · replace h := h.2 c7
    refine x_aload_n C 24 46 rfl 0 rfl rfl ?_
    refine x_iload C 25 47 rfl 4 rfl ?_
    refine x_iload C 26 49 rfl 5 rfl ?_
    refine x_iconst (v := (2 : Int32)) C 27 51 rfl (by decide) ?_
    refine x_icmp_le C 28 52 59 rfl rfl (fun c8 => ?_) (fun c8 => ?_)
    · replace h := h.1 c8
      refine x_iconst (v := (0 : Int32)) C 31 59 rfl (by decide) ?_
      exact x_sub (lv' := [(2, .int x2), (3, .int x3), (4, .int x4), (5, .int x5)]) [1, 2, 3, 4] rfl (wj_X6_stateOf_60 C rt h)
    · replace h := h.2 c8
      refine x_iconst (v := (1 : Int32)) C 29 55 rfl (by decide) ?_
      refine x_goto C 30 56 60 rfl rfl ?_
      exact x_sub (lv' := [(2, .int x2), (3, .int x3), (4, .int x4), (5, .int x5)]) [1, 2, 3, 4] rfl (wj_X6_stateOf_60 C rt h)
set_option maxHeartbeats 4000000 in
set_option maxRecDepth 100000 in
theorem wj_X6_stateOf_20 {x : CT} {aV aB : Nat → Nat} {sV : St} {sB : St} {x2 : Int32} {x3 : Int32} {x4 : Int32} {x5 : Int32} {x6 : Int32} {t1 : Int32} {t2 : Int32} {K : Int32 → Prop} (C : Cx x cX6_stateOf tb_X6_stateOf 7 RX6 (Cond.code yX6_stateOf cX6_stateOf 7 (some .int) :: wsL_law) ({ frames := 1, cells := 0, slots := 0, locals := 22 } : Room)) (rt : RetI x 0 0 (fun (u : Unit) => fl [wdV (xk x) aV sV, wdB (xk x) aB sB]) (fun (r : Int32) (_ : Unit) => K r))  (h : J_X6_stateOf_20 sV x2 x3 x4 x5 x6 t1 t2 K) : Wx x 7 0 0 (fl [wdV (xk x) aV sV, wdB (xk x) aB sB]) [(0, .ref (aV 0)), (2, .int x2), (3, .int x3), (4, .int x4), (5, .int x5), (6, .int x6)] 20 [.int t2, .int t1, .ref (aV 0)] := by
  unfold J_X6_stateOf_20 at h
  refine x_callGVZ (ci := 4) (q0 := 0) (q := (RX6, TX6, 6)) C 12 20 (c_X6_fits (xl x) (xD x) (xk x) (xg x) aV sV t1 t2 _ h) rfl wwGood (mem4 wq_34_13 wq_34_14 wq_34_15 wq_2_12) wq_34_16 2 ok_X6_fits rfl ⟨by decide, by decide⟩ (Nat.le_of_ble_eq_true rfl) ⟨Nat.le_refl _, Nat.le_refl _⟩ ⟨rfl, rfl⟩ rfl rfl [wdB (xk x) aB sB] (fun (u : Unit) => [wdV (xk x) aV sV, wdB (xk x) aB sB]) [1, 0] [1, 0] (show List.Perm [1, 0] (List.range 2) by decide) rfl 2 (fun _ => rfl) (by decide) (fun _ => rfl) (fun r3 _ h => ?_)
  refine x_if_eq C 13 23 66 rfl rfl (fun c4 => ?_) (fun c4 => ?_)
  · replace h := h.1 c4
    refine x_iconst (v := (-1 : Int32)) C 34 66 rfl (by decide) ?_
    exact x_iret C rt 35 67 rfl () rfl h
  · replace h := h.2 c4
    refine x_aload_n C 14 26 rfl 0 rfl rfl ?_
    refine x_iload C 15 27 rfl 3 rfl ?_
    refine x_iload C 16 29 rfl 5 rfl ?_
    refine x_iconst (v := (1 : Int32)) C 17 31 rfl (by decide) ?_
    refine x_icmp_le C 18 32 39 rfl rfl (fun c5 => ?_) (fun c5 => ?_)
    · replace h := h.1 c5
      refine x_iconst (v := (0 : Int32)) C 21 39 rfl (by decide) ?_
      exact x_sub (lv' := [(0, .ref (aV 0)), (2, .int x2), (3, .int x3), (4, .int x4), (5, .int x5), (6, .int x6)]) [0, 1, 2, 3, 4, 5] rfl (wj_X6_stateOf_40 C rt h)
    · replace h := h.2 c5
      refine x_iconst (v := (1 : Int32)) C 19 35 rfl (by decide) ?_
      refine x_goto C 20 36 40 rfl rfl ?_
      exact x_sub (lv' := [(0, .ref (aV 0)), (2, .int x2), (3, .int x3), (4, .int x4), (5, .int x5), (6, .int x6)]) [0, 1, 2, 3, 4, 5] rfl (wj_X6_stateOf_40 C rt h)
set_option maxHeartbeats 4000000 in
set_option maxRecDepth 100000 in
theorem w_X6_stateOf {x : CT} {aV aB : Nat → Nat} {sV : St} {sB : St} {p2 : Int32} {p3 : Int32} {p4 : Int32} {p5 : Int32} {K : Int32 → Prop} (C : Cx x cX6_stateOf tb_X6_stateOf 7 RX6 (Cond.code yX6_stateOf cX6_stateOf 7 (some .int) :: wsL_law) ({ frames := 1, cells := 0, slots := 0, locals := 22 } : Room)) (rt : RetI x 0 0 (fun (u : Unit) => fl [wdV (xk x) aV sV, wdB (xk x) aB sB]) (fun (r : Int32) (_ : Unit) => K r)) (h : wp_X6_stateOf sV sB p2 p3 p4 p5 K) : Wx x 7 0 0 (fl [wdV (xk x) aV sV, wdB (xk x) aB sB]) [(0, .ref (aV 0)), (1, .ref (aB 0)), (2, .int p2), (3, .int p3), (4, .int p4), (5, .int p5)] 0 [] := by
  unfold wp_X6_stateOf at h
  refine x_aload_n C 0 0 rfl 1 rfl rfl ?_
  refine x_get (v := .ref (aB 1)) C 1 1 rfl fi_X1 5 rfl rfl 0 (by decide) (mc wq_34_12) rfl ?_
  refine x_iload_n C 2 4 rfl 2 rfl rfl ?_
  obtain ⟨hi, h⟩ := h
  refine x_iald (f := sB 0) C 3 5 rfl 6 rfl hi ?_
  refine x_topi (fun y1 ey1 => ?_)
  replace h := h y1 ey1
  refine x_istore (lv' := [(0, .ref (aV 0)), (2, .int p2), (3, .int p3), (4, .int p4), (5, .int p5), (6, .int y1)]) C 4 6 rfl (by decide) [1, 3, 4, 5, 6, 0] rfl ?_
  refine x_aload_n C 5 8 rfl 0 rfl rfl ?_
  refine x_iload_n C 6 9 rfl 2 rfl rfl ?_
  refine x_iload C 7 10 rfl 5 rfl ?_
  refine x_if_le C 8 12 19 rfl rfl (fun c2 => ?_) (fun c2 => ?_)
  · replace h := h.1 c2
    refine x_iconst (v := (0 : Int32)) C 11 19 rfl (by decide) ?_
    exact x_sub (lv' := [(0, .ref (aV 0)), (2, .int p2), (3, .int p3), (4, .int p4), (5, .int p5), (6, .int y1)]) [0, 1, 2, 3, 4, 5] rfl (wj_X6_stateOf_20 C rt h)
  · replace h := h.2 c2
    refine x_iconst (v := (1 : Int32)) C 9 15 rfl (by decide) ?_
    refine x_goto C 10 16 20 rfl rfl ?_
    exact x_sub (lv' := [(0, .ref (aV 0)), (2, .int p2), (3, .int p3), (4, .int p4), (5, .int p5), (6, .int y1)]) [0, 1, 2, 3, 4, 5] rfl (wj_X6_stateOf_20 C rt h)
theorem c_X6_stateOf (l : Launch) (D : va_G) (k : ClassId × ClassId) (g : Nat → Nat) (aV aB : Nat → Nat) (sV : St) (sB : St) (p2 : Int32) (p3 : Int32) (p4 : Int32) (p5 : Int32) (K : Int32 → Prop) (h : wp_X6_stateOf sV sB p2 p3 p4 p5 K) : ConI l yX6_stateOf (Cond.code yX6_stateOf cX6_stateOf 7 (some .int) :: wsL_law) ({ frames := 1, cells := 0, slots := 0, locals := 22 } : Room) D k g [.ref (aV 0), .ref (aB 0), .int p2, .int p3, .int p4, .int p5] (fl [wdV k aV sV, wdB k aB sB]) (fun (u : Unit) => fl [wdV k aV sV, wdB k aB sB]) (fun (r : Int32) (_ : Unit) => K r) := by
  refine ConI.of (tb := tb_X6_stateOf) (cc := cX6_stateOf) (nL := 7) (by decide) rfl tbk_X6_stateOf (Nat.le_of_ble_eq_true rfl) ?_
  intro x hl hD hk hg C rt
  subst hl hD hk hg
  exact w_X6_stateOf C rt h
set_option maxHeartbeats 4000000 in
set_option maxRecDepth 100000 in
theorem wj_X6_greatestAt_56 {x : CT} {aV : Nat → Nat} {sV : St} {x1 : Int32} {x2 : Int32} {x3 : Int32} {x5 : Int32} {t0 : Int32} {t1 : Int32} {K : Int32 → Prop} {R9 : Int32 × Int32 → Prop} (C : Cx x cX6_greatestAt tb_X6_greatestAt 8 RX6 (Cond.code yX6_greatestAt cX6_greatestAt 8 (some .int) :: wsL_law) ({ frames := 1, cells := 0, slots := 0, locals := 22 } : Room)) (rt : RetI x 0 0 (fun (u : Unit) => fl [wdV (xk x) aV sV]) (fun (r : Int32) (_ : Unit) => K r)) (hR9 : ∀ q : Int32 × Int32, R9 q → Wx x 8 0 0 (fl [wdV (xk x) aV sV]) [(1, .int x1), (2, .int x2), (3, .int x3), (4, .int q.1), (5, .int q.2)] 9 []) (h : J_X6_greatestAt_56 x5 t0 t1 R9) : Wx x 8 0 0 (fl [wdV (xk x) aV sV]) [(1, .int x1), (2, .int x2), (3, .int x3), (5, .int x5)] 56 [.int t1, .int t0] := by
  unfold J_X6_greatestAt_56 at h
  refine x_min C 32 56 rfl (mc wq_36_4) (mc wq_36_5) (mc wq_12_16) (mc wq_36_6) ⟨by decide, Nat.le_of_ble_eq_true rfl⟩ ⟨Nat.le_refl _, Nat.le_refl _⟩ ?_
  refine x_topi (fun y9 ey9 => ?_)
  replace h := h y9 ey9
  refine x_istore (lv' := [(1, .int x1), (2, .int x2), (3, .int x3), (4, .int y9), (5, .int x5)]) C 33 59 rfl (by decide) [1, 2, 3, 0, 4] rfl ?_
  obtain ⟨y10, ey10⟩ : ∃ y : Int32, y = x5 + (1 : Int32) := ⟨_, rfl⟩
  replace h := h y10 ey10
  refine x_iinc (v := y10) (lv' := [(1, .int x1), (2, .int x2), (3, .int x3), (4, .int y9), (5, .int y10)]) C 34 61 rfl 4 rfl (by rw [ey10]; rfl) (by decide) [1, 2, 3, 4, 0] rfl ?_
  refine x_goto C 35 64 9 rfl rfl ?_
  exact x_sub [0, 1, 2, 3, 4] rfl (hR9 (y9, y10) h)
set_option maxHeartbeats 4000000 in
set_option maxRecDepth 100000 in
theorem w_X6_greatestAt_9 {x : CT} {aV : Nat → Nat} {sV : St} {x1 : Int32} {x2 : Int32} {x3 : Int32} {K : Int32 → Prop} (C : Cx x cX6_greatestAt tb_X6_greatestAt 8 RX6 (Cond.code yX6_greatestAt cX6_greatestAt 8 (some .int) :: wsL_law) ({ frames := 1, cells := 0, slots := 0, locals := 22 } : Room)) (rt : RetI x 0 0 (fun (u : Unit) => fl [wdV (xk x) aV sV]) (fun (r : Int32) (_ : Unit) => K r))  {q2 : Int32 × Int32} (h : Lp (F_X6_greatestAt_9 x1 x2 x3 K) q2) : Wx x 8 0 0 (fl [wdV (xk x) aV sV]) [(1, .int x1), (2, .int x2), (3, .int x3), (4, .int q2.1), (5, .int q2.2)] 9 [] := by
  refine lp_walk (P := fun q2 => Wx x 8 0 0 (fl [wdV (xk x) aV sV]) [(1, .int x1), (2, .int x2), (3, .int x3), (4, .int q2.1), (5, .int q2.2)] 9 []) (fun q2 R9 hR9 h => ?_) h
  refine x_iload C 5 9 rfl 4 rfl ?_
  refine x_iconst (v := (3 : Int32)) C 6 11 rfl (by decide) ?_
  refine x_icmp_ge C 7 12 67 rfl rfl (fun c3 => ?_) (fun c3 => ?_)
  · replace h := h.1 c3
    refine x_iload C 36 67 rfl 3 rfl ?_
    exact x_iret C rt 37 69 rfl () rfl h
  · replace h := h.2 c3
    refine x_iload_n C 8 15 rfl 0 rfl rfl ?_
    refine x_iload C 9 16 rfl 4 rfl ?_
    refine x_iload_n C 10 18 rfl 1 rfl rfl ?_
    refine x_call0SI C 11 19 (c_X0_at (xl x) (xD x) (xk x) (xg x) x1 q2.2 x2 _ h) rfl wwGood (mem3 wq_36_7 wq_12_19 wq_12_20) wq_12_21 3 ok_X0_at rfl ⟨by decide, by decide⟩ (Nat.le_of_ble_eq_true rfl) ⟨Nat.le_refl _, Nat.le_refl _⟩ ⟨rfl, rfl⟩ rfl (fun r4 _ h => ?_)
    refine x_istore (lv' := [(1, .int x1), (2, .int x2), (3, .int x3), (4, .int q2.1), (5, .int q2.2), (6, .int r4)]) C 12 22 rfl (by decide) [1, 2, 3, 4, 5, 0] rfl ?_
    refine x_iload C 13 24 rfl 5 rfl ?_
    refine x_if_eq C 14 26 61 rfl rfl (fun c5 => ?_) (fun c5 => ?_)
    · replace h := h.1 c5
      obtain ⟨y6, ey6⟩ : ∃ y : Int32, y = q2.2 + (1 : Int32) := ⟨_, rfl⟩
      replace h := h y6 ey6
      refine x_iinc (v := y6) (lv' := [(1, .int x1), (2, .int x2), (3, .int x3), (4, .int q2.1), (5, .int y6)]) C 34 61 rfl 4 rfl (by rw [ey6]; rfl) (by decide) [1, 2, 3, 4, 0] rfl ?_
      refine x_goto C 35 64 9 rfl rfl ?_
      exact x_sub [0, 1, 2, 3, 4] rfl (hR9 (q2.1, y6) h)
    · replace h := h.2 c5
      refine x_iload_n C 15 29 rfl 2 rfl rfl ?_
      refine x_iconst (v := (2 : Int32)) C 16 30 rfl (by decide) ?_
      refine x_iload C 17 31 rfl 4 rfl ?_
      refine x_imul C 18 33 rfl ?_
      refine x_ishr C 19 34 rfl ?_
      refine x_iconst (v := (3 : Int32)) C 20 35 rfl (by decide) ?_
      refine x_iand C 21 36 rfl ?_
      refine x_topi (fun y7 ey7 => ?_)
      replace h := h y7 ey7
      refine x_istore (lv' := [(1, .int x1), (2, .int x2), (3, .int x3), (4, .int q2.1), (5, .int q2.2), (6, .int r4), (7, .int y7)]) C 22 37 rfl (by decide) [1, 2, 3, 4, 5, 6, 0] rfl ?_
      refine x_iload C 23 39 rfl 3 rfl ?_
      refine x_iload C 24 41 rfl 5 rfl ?_
      refine x_iconst (v := (2 : Int32)) C 25 43 rfl (by decide) ?_
      refine x_icmp_ne C 26 44 54 rfl rfl (fun c8 => ?_) (fun c8 => ?_)
      · replace h := h.2 c8
        refine x_iload C 31 54 rfl 6 rfl ?_
        exact x_sub (lv' := [(1, .int x1), (2, .int x2), (3, .int x3), (5, .int q2.2)]) [0, 1, 2, 4] rfl (wj_X6_greatestAt_56 C rt hR9 h)
      · replace h := h.1 c8
        refine x_iload C 27 47 rfl 6 rfl ?_
        refine x_iconst (v := (1 : Int32)) C 28 49 rfl (by decide) ?_
        refine x_isub C 29 50 rfl ?_
        refine x_goto C 30 51 56 rfl rfl ?_
        exact x_sub (lv' := [(1, .int x1), (2, .int x2), (3, .int x3), (5, .int q2.2)]) [0, 1, 2, 4] rfl (wj_X6_greatestAt_56 C rt hR9 h)
set_option maxHeartbeats 4000000 in
set_option maxRecDepth 100000 in
theorem w_X6_greatestAt {x : CT} {aV : Nat → Nat} {sV : St} {p1 : Int32} {p2 : Int32} {p3 : Int32} {K : Int32 → Prop} (C : Cx x cX6_greatestAt tb_X6_greatestAt 8 RX6 (Cond.code yX6_greatestAt cX6_greatestAt 8 (some .int) :: wsL_law) ({ frames := 1, cells := 0, slots := 0, locals := 22 } : Room)) (rt : RetI x 0 0 (fun (u : Unit) => fl [wdV (xk x) aV sV]) (fun (r : Int32) (_ : Unit) => K r)) (h : wp_X6_greatestAt sV p1 p2 p3 K) : Wx x 8 0 0 (fl [wdV (xk x) aV sV]) [(0, .ref (aV 0)), (1, .int p1), (2, .int p2), (3, .int p3)] 0 [] := by
  unfold wp_X6_greatestAt at h
  refine x_aload_n C 0 0 rfl 0 rfl rfl ?_
  refine x_get (v := .int (sV 0 0)) C 1 1 rfl fi_X6 0 rfl rfl 0 (by decide) (mc wq_4_15) rfl ?_
  refine x_topi (fun y1 ey1 => ?_)
  replace h := h y1 ey1
  refine x_istore (lv' := [(1, .int p1), (2, .int p2), (3, .int p3), (4, .int y1)]) C 2 4 rfl (by decide) [2, 3, 4, 0] rfl ?_
  refine x_iconst (v := (0 : Int32)) C 3 6 rfl (by decide) ?_
  refine x_istore (lv' := [(1, .int p1), (2, .int p2), (3, .int p3), (4, .int y1), (5, .int (0 : Int32))]) C 4 7 rfl (by decide) [1, 2, 3, 4, 0] rfl ?_
  refine x_sub (lv' := [(1, .int p1), (2, .int p2), (3, .int p3), (4, .int y1), (5, .int (0 : Int32))]) [0, 1, 2, 3, 4] rfl (w_X6_greatestAt_9 C rt h)
theorem c_X6_greatestAt (l : Launch) (D : va_G) (k : ClassId × ClassId) (g : Nat → Nat) (aV : Nat → Nat) (sV : St) (p1 : Int32) (p2 : Int32) (p3 : Int32) (K : Int32 → Prop) (h : wp_X6_greatestAt sV p1 p2 p3 K) : ConI l yX6_greatestAt (Cond.code yX6_greatestAt cX6_greatestAt 8 (some .int) :: wsL_law) ({ frames := 1, cells := 0, slots := 0, locals := 22 } : Room) D k g [.ref (aV 0), .int p1, .int p2, .int p3] (fl [wdV k aV sV]) (fun (u : Unit) => fl [wdV k aV sV]) (fun (r : Int32) (_ : Unit) => K r) := by
  refine ConI.of (tb := tb_X6_greatestAt) (cc := cX6_greatestAt) (nL := 8) (by decide) rfl tbk_X6_greatestAt (Nat.le_of_ble_eq_true rfl) ?_
  intro x hl hD hk hg C rt
  subst hl hD hk hg
  exact w_X6_greatestAt C rt h
set_option maxHeartbeats 4000000 in
set_option maxRecDepth 100000 in
theorem w_X6_greatestAfter_18 {x : CT} {aV aB : Nat → Nat} {sV : St} {sB : St} {x2 : Int32} {x3 : Int32} {x4 : Int32} {K : Int32 → Prop} (C : Cx x cX6_greatestAfter tb_X6_greatestAfter 8 RX6 (Cond.code yX6_greatestAfter cX6_greatestAfter 8 (some .int) :: wsL_law) ({ frames := 2, cells := 0, slots := 0, locals := 49 } : Room)) (rt : RetI x 0 0 (fun (u : Unit) => fl [wdV (xk x) aV sV, wdB (xk x) aB sB]) (fun (r : Int32) (_ : Unit) => K r))  {q3 : Int32 × Int32} (h : Lp (F_X6_greatestAfter_18 sV sB x2 x3 x4 K) q3) : Wx x 8 0 0 (fl [wdV (xk x) aV sV, wdB (xk x) aB sB]) [(0, .ref (aV 0)), (1, .ref (aB 0)), (2, .int x2), (3, .int x3), (4, .int x4), (5, .int q3.1), (6, .int q3.2)] 18 [] := by
  refine lp_walk (P := fun q3 => Wx x 8 0 0 (fl [wdV (xk x) aV sV, wdB (xk x) aB sB]) [(0, .ref (aV 0)), (1, .ref (aB 0)), (2, .int x2), (3, .int x3), (4, .int x4), (5, .int q3.1), (6, .int q3.2)] 18 []) (fun q3 R18 hR18 h => ?_) h
  refine x_iload C 11 18 rfl 6 rfl ?_
  refine x_aload_n C 12 20 rfl 1 rfl rfl ?_
  refine x_get (v := .ref (aB 1)) C 13 21 rfl fi_X1 5 rfl rfl 0 (by decide) (mc wq_34_12) rfl ?_
  refine x_iload C 14 24 rfl 4 rfl ?_
  obtain ⟨hi, h⟩ := h
  refine x_iald (f := sB 0) C 15 26 rfl 6 rfl hi ?_
  refine x_icmp_ge C 16 27 70 rfl rfl (fun c4 => ?_) (fun c4 => ?_)
  · replace h := h.1 c4
    refine x_iload C 40 70 rfl 5 rfl ?_
    exact x_iret C rt 41 72 rfl () rfl h
  · replace h := h.2 c4
    refine x_aload_n C 17 30 rfl 0 rfl rfl ?_
    refine x_aload_n C 18 31 rfl 1 rfl rfl ?_
    refine x_get (v := .ref (aB 4)) C 19 32 rfl fi_X1 5 rfl rfl 3 (by decide) (mc wq_35_23) rfl ?_
    refine x_iload_n C 20 35 rfl 2 rfl rfl ?_
    obtain ⟨hi, h⟩ := h
    refine x_iald (f := sB 3) C 21 36 rfl 9 rfl hi ?_
    refine x_iload C 22 37 rfl 6 rfl ?_
    refine x_iload_n C 23 39 rfl 3 rfl rfl ?_
    refine x_callGVI (ci := 4) (q0 := 0) (q := (RX6, TX6, 6)) C 24 40 (c_X6_greatestAt (xl x) (xD x) (xk x) (xg x) aV sV (sB 3 x2.toNatClampNeg) q3.2 x3 _ h) rfl wwGood (mem4 wq_36_0 wq_36_1 wq_36_2 wq_2_12) wq_36_3 3 ok_X6_greatestAt rfl ⟨by decide, by decide⟩ (Nat.le_of_ble_eq_true rfl) ⟨Nat.le_refl _, Nat.le_refl _⟩ ⟨rfl, rfl⟩ rfl rfl [wdB (xk x) aB sB] (fun (u : Unit) => [wdV (xk x) aV sV, wdB (xk x) aB sB]) [1, 0] [1, 0] (show List.Perm [1, 0] (List.range 2) by decide) rfl 2 (fun _ => rfl) (by decide) (fun _ => rfl) (fun r5 _ h => ?_)
    refine x_istore (lv' := [(0, .ref (aV 0)), (1, .ref (aB 0)), (2, .int x2), (3, .int x3), (4, .int x4), (5, .int q3.1), (6, .int q3.2), (7, .int r5)]) C 25 43 rfl (by decide) [1, 2, 3, 4, 5, 6, 7, 0] rfl ?_
    refine x_iload C 26 45 rfl 7 rfl ?_
    refine x_if_ge C 27 47 52 rfl rfl (fun c6 => ?_) (fun c6 => ?_)
    · replace h := h.1 c6
      refine x_iload C 30 52 rfl 5 rfl ?_
      refine x_iload C 31 54 rfl 7 rfl ?_
      refine x_iconst (v := (2 : Int32)) C 32 56 rfl (by decide) ?_
      refine x_iload C 33 57 rfl 6 rfl ?_
      refine x_imul C 34 59 rfl ?_
      refine x_ishl C 35 60 rfl ?_
      refine x_ior C 36 61 rfl ?_
      refine x_topi (fun y7 ey7 => ?_)
      replace h := h y7 ey7
      refine x_istore (lv' := [(0, .ref (aV 0)), (1, .ref (aB 0)), (2, .int x2), (3, .int x3), (4, .int x4), (5, .int y7), (6, .int q3.2)]) C 37 62 rfl (by decide) [1, 2, 3, 4, 5, 0, 6] rfl ?_
      obtain ⟨y8, ey8⟩ : ∃ y : Int32, y = q3.2 + (1 : Int32) := ⟨_, rfl⟩
      replace h := h y8 ey8
      refine x_iinc (v := y8) (lv' := [(0, .ref (aV 0)), (1, .ref (aB 0)), (2, .int x2), (3, .int x3), (4, .int x4), (5, .int y7), (6, .int y8)]) C 38 64 rfl 6 rfl (by rw [ey8]; rfl) (by decide) [1, 2, 3, 4, 5, 6, 0] rfl ?_
      refine x_goto C 39 67 18 rfl rfl ?_
      exact x_sub [0, 1, 2, 3, 4, 5, 6] rfl (hR18 (y7, y8) h)
    · replace h := h.2 c6
      refine x_iconst (v := (-1 : Int32)) C 28 50 rfl (by decide) ?_
      exact x_iret C rt 29 51 rfl () rfl h
set_option maxHeartbeats 4000000 in
set_option maxRecDepth 100000 in
theorem w_X6_greatestAfter {x : CT} {aV aB : Nat → Nat} {sV : St} {sB : St} {p2 : Int32} {p3 : Int32} {K : Int32 → Prop} (C : Cx x cX6_greatestAfter tb_X6_greatestAfter 8 RX6 (Cond.code yX6_greatestAfter cX6_greatestAfter 8 (some .int) :: wsL_law) ({ frames := 2, cells := 0, slots := 0, locals := 49 } : Room)) (rt : RetI x 0 0 (fun (u : Unit) => fl [wdV (xk x) aV sV, wdB (xk x) aB sB]) (fun (r : Int32) (_ : Unit) => K r)) (h : wp_X6_greatestAfter sV sB p2 p3 K) : Wx x 8 0 0 (fl [wdV (xk x) aV sV, wdB (xk x) aB sB]) [(0, .ref (aV 0)), (1, .ref (aB 0)), (2, .int p2), (3, .int p3)] 0 [] := by
  unfold wp_X6_greatestAfter at h
  refine x_aload_n C 0 0 rfl 1 rfl rfl ?_
  refine x_get (v := .ref (aB 3)) C 1 1 rfl fi_X1 5 rfl rfl 2 (by decide) (mc wq_35_22) rfl ?_
  refine x_iload_n C 2 4 rfl 2 rfl rfl ?_
  obtain ⟨hi, h⟩ := h
  refine x_iald (f := sB 2) C 3 5 rfl 8 rfl hi ?_
  refine x_topi (fun y1 ey1 => ?_)
  replace h := h y1 ey1
  refine x_istore (lv' := [(0, .ref (aV 0)), (1, .ref (aB 0)), (2, .int p2), (3, .int p3), (4, .int y1)]) C 4 6 rfl (by decide) [1, 2, 3, 4, 0] rfl ?_
  refine x_iload C 5 8 rfl 4 rfl ?_
  refine x_bipush (v := (6 : Int32)) C 6 10 rfl (by decide) ?_
  refine x_ishl C 7 12 rfl ?_
  refine x_topi (fun y2 ey2 => ?_)
  replace h := h y2 ey2
  refine x_istore (lv' := [(0, .ref (aV 0)), (1, .ref (aB 0)), (2, .int p2), (3, .int p3), (4, .int y1), (5, .int y2)]) C 8 13 rfl (by decide) [1, 2, 3, 4, 5, 0] rfl ?_
  refine x_iconst (v := (0 : Int32)) C 9 15 rfl (by decide) ?_
  refine x_istore (lv' := [(0, .ref (aV 0)), (1, .ref (aB 0)), (2, .int p2), (3, .int p3), (4, .int y1), (5, .int y2), (6, .int (0 : Int32))]) C 10 16 rfl (by decide) [1, 2, 3, 4, 5, 6, 0] rfl ?_
  refine x_sub (lv' := [(0, .ref (aV 0)), (1, .ref (aB 0)), (2, .int p2), (3, .int p3), (4, .int y1), (5, .int y2), (6, .int (0 : Int32))]) [0, 1, 2, 3, 4, 5, 6] rfl (w_X6_greatestAfter_18 C rt h)
theorem c_X6_greatestAfter (l : Launch) (D : va_G) (k : ClassId × ClassId) (g : Nat → Nat) (aV aB : Nat → Nat) (sV : St) (sB : St) (p2 : Int32) (p3 : Int32) (K : Int32 → Prop) (h : wp_X6_greatestAfter sV sB p2 p3 K) : ConI l yX6_greatestAfter (Cond.code yX6_greatestAfter cX6_greatestAfter 8 (some .int) :: wsL_law) ({ frames := 2, cells := 0, slots := 0, locals := 49 } : Room) D k g [.ref (aV 0), .ref (aB 0), .int p2, .int p3] (fl [wdV k aV sV, wdB k aB sB]) (fun (u : Unit) => fl [wdV k aV sV, wdB k aB sB]) (fun (r : Int32) (_ : Unit) => K r) := by
  refine ConI.of (tb := tb_X6_greatestAfter) (cc := cX6_greatestAfter) (nL := 8) (by decide) rfl tbk_X6_greatestAfter (Nat.le_of_ble_eq_true rfl) ?_
  intro x hl hD hk hg C rt
  subst hl hD hk hg
  exact w_X6_greatestAfter C rt h
set_option maxHeartbeats 4000000 in
set_option maxRecDepth 100000 in
theorem w_X6_openState {x : CT} {aV : Nat → Nat} {sV : St} {p1 : Int32} {K : St → Prop} (C : Cx x cX6_openState tb_X6_openState 2 RX6 (Cond.code yX6_openState cX6_openState 2 none :: wsL_law) ({ frames := 0, cells := 0, slots := 0, locals := 0 } : Room)) (rt : RetV x 0 0 (fun (u : St) => fl [wdV (xk x) aV u]) (fun (u : St) => K u)) (h : wp_X6_openState sV p1 K) : Wx x 2 0 0 (fl [wdV (xk x) aV sV]) [(0, .ref (aV 0)), (1, .int p1)] 0 [] := by
  unfold wp_X6_openState at h
  refine x_aload_n C 0 0 rfl 0 rfl rfl ?_
  refine x_get (v := .int (sV 5 0)) C 1 1 rfl fi_X6 0 rfl rfl 5 (by decide) (mc wq_34_21) rfl ?_
  refine x_sipush (v := (256 : Int32)) C 2 4 rfl (by decide) ?_
  refine x_icmp_ge C 3 7 51 rfl rfl (fun c1 => ?_) (fun c1 => ?_)
  · replace h := h.1 c1
    exact x_vret C rt 31 51 rfl sV rfl h
  · replace h := h.2 c1
    refine x_aload_n C 4 10 rfl 0 rfl rfl ?_
    refine x_get (v := .ref (aV 1)) C 5 11 rfl fi_X6 0 rfl rfl 1 (by decide) (mc wq_4_16) rfl ?_
    refine x_iload_n C 6 14 rfl 1 rfl rfl ?_
    refine x_iconst (v := (1 : Int32)) C 7 15 rfl (by decide) ?_
    obtain ⟨hi, h⟩ := h
    obtain ⟨z2, ez2⟩ : ∃ z : St, z = ua sV 1 p1 (1 : Int32) := ⟨_, rfl⟩
    replace h := h z2 ez2
    refine x_iast (f := sV 1) (ws' := fl [wdV (xk x) aV z2]) C 8 16 rfl 1 rfl hi (by rw [ez2]; rfl) ?_
    refine x_aload_n C 9 17 rfl 0 rfl rfl ?_
    refine x_get (v := .ref (aV 3)) C 10 18 rfl fi_X6 0 rfl rfl 3 (by decide) (mc wq_4_18) rfl ?_
    refine x_iload_n C 11 21 rfl 1 rfl rfl ?_
    refine x_iconst (v := (0 : Int32)) C 12 22 rfl (by decide) ?_
    obtain ⟨hi, h⟩ := h
    obtain ⟨z3, ez3⟩ : ∃ z : St, z = ua z2 3 p1 (0 : Int32) := ⟨_, rfl⟩
    replace h := h z3 ez3
    refine x_iast (f := z2 3) (ws' := fl [wdV (xk x) aV z3]) C 13 23 rfl 3 rfl hi (by rw [ez3]; rfl) ?_
    refine x_aload_n C 14 24 rfl 0 rfl rfl ?_
    refine x_get (v := .ref (aV 4)) C 15 25 rfl fi_X6 0 rfl rfl 4 (by decide) (mc wq_4_19) rfl ?_
    refine x_iload_n C 16 28 rfl 1 rfl rfl ?_
    refine x_iconst (v := (0 : Int32)) C 17 29 rfl (by decide) ?_
    obtain ⟨hi, h⟩ := h
    obtain ⟨z4, ez4⟩ : ∃ z : St, z = ua z3 4 p1 (0 : Int32) := ⟨_, rfl⟩
    replace h := h z4 ez4
    refine x_iast (f := z3 4) (ws' := fl [wdV (xk x) aV z4]) C 18 30 rfl 4 rfl hi (by rw [ez4]; rfl) ?_
    refine x_aload_n C 19 31 rfl 0 rfl rfl ?_
    refine x_get (v := .ref (aV 2)) C 20 32 rfl fi_X6 0 rfl rfl 2 (by decide) (mc wq_4_17) rfl ?_
    refine x_aload_n C 21 35 rfl 0 rfl rfl ?_
    refine x_get (v := .int (z4 5 0)) C 22 36 rfl fi_X6 0 rfl rfl 5 (by decide) (mc wq_34_21) rfl ?_
    refine x_iload_n C 23 39 rfl 1 rfl rfl ?_
    obtain ⟨hi, h⟩ := h
    obtain ⟨z5, ez5⟩ : ∃ z : St, z = ua z4 2 (z4 5 0) p1 := ⟨_, rfl⟩
    replace h := h z5 ez5
    refine x_iast (f := z4 2) (ws' := fl [wdV (xk x) aV z5]) C 24 40 rfl 2 rfl hi (by rw [ez5]; rfl) ?_
    refine x_aload_n C 25 41 rfl 0 rfl rfl ?_
    refine x_dup C 26 42 rfl rfl ?_
    refine x_get (v := .int (z5 5 0)) C 27 43 rfl fi_X6 0 rfl rfl 5 (by decide) (mc wq_34_21) rfl ?_
    refine x_iconst (v := (1 : Int32)) C 28 46 rfl (by decide) ?_
    refine x_iadd C 29 47 rfl ?_
    obtain ⟨z6, ez6⟩ : ∃ z : St, z = us z5 5 (z5 5 0 + (1 : Int32)) := ⟨_, rfl⟩
    replace h := h z6 ez6
    refine x_put (ws' := fl [wdV (xk x) aV z6]) C 30 48 rfl fi_X6 tyX6 tyX6_ok nmX6 0 rfl rfl 5 (by decide) (mc wq_34_21) rfl rfl rfl (Nat.le_of_ble_eq_true rfl) (by rw [ez6]; rfl) ?_
    exact x_vret C rt 31 51 rfl z6 rfl h
theorem c_X6_openState (l : Launch) (D : va_G) (k : ClassId × ClassId) (g : Nat → Nat) (aV : Nat → Nat) (sV : St) (p1 : Int32) (K : St → Prop) (h : wp_X6_openState sV p1 K) : ConV l yX6_openState (Cond.code yX6_openState cX6_openState 2 none :: wsL_law) ({ frames := 0, cells := 0, slots := 0, locals := 0 } : Room) D k g [.ref (aV 0), .int p1] (fl [wdV k aV sV]) (fun (u : St) => fl [wdV k aV u]) (fun (u : St) => K u) := by
  refine ConV.of (tb := tb_X6_openState) (cc := cX6_openState) (nL := 2) (by decide) rfl tbk_X6_openState (Nat.le_of_ble_eq_true rfl) ?_
  intro x hl hD hk hg C rt
  subst hl hD hk hg
  exact w_X6_openState C rt h
set_option maxHeartbeats 4000000 in
set_option maxRecDepth 100000 in
theorem w_X6_lengthen {x : CT} {aV : Nat → Nat} {sV : St} {p1 : Int32} {p2 : Int32} {K : St → Prop} (C : Cx x cX6_lengthen tb_X6_lengthen 3 RX6 (Cond.code yX6_lengthen cX6_lengthen 3 none :: wsL_law) ({ frames := 1, cells := 0, slots := 0, locals := 21 } : Room)) (rt : RetV x 0 0 (fun (u : St) => fl [wdV (xk x) aV u]) (fun (u : St) => K u)) (h : wp_X6_lengthen sV p1 p2 K) : Wx x 3 0 0 (fl [wdV (xk x) aV sV]) [(0, .ref (aV 0)), (1, .int p1), (2, .int p2)] 0 [] := by
  unfold wp_X6_lengthen at h
  refine x_aload_n C 0 0 rfl 0 rfl rfl ?_
  refine x_get (v := .ref (aV 4)) C 1 1 rfl fi_X6 0 rfl rfl 4 (by decide) (mc wq_4_19) rfl ?_
  refine x_iload_n C 2 4 rfl 1 rfl rfl ?_
  refine x_aload_n C 3 5 rfl 0 rfl rfl ?_
  refine x_get (v := .ref (aV 4)) C 4 6 rfl fi_X6 0 rfl rfl 4 (by decide) (mc wq_4_19) rfl ?_
  refine x_iload_n C 5 9 rfl 1 rfl rfl ?_
  obtain ⟨hi, h⟩ := h
  refine x_iald (f := sV 4) C 6 10 rfl 4 rfl hi ?_
  refine x_aload_n C 7 11 rfl 0 rfl rfl ?_
  refine x_get (v := .ref (aV 4)) C 8 12 rfl fi_X6 0 rfl rfl 4 (by decide) (mc wq_4_19) rfl ?_
  refine x_iload_n C 9 15 rfl 2 rfl rfl ?_
  obtain ⟨hi, h⟩ := h
  refine x_iald (f := sV 4) C 10 16 rfl 4 rfl hi ?_
  refine x_iconst (v := (1 : Int32)) C 11 17 rfl (by decide) ?_
  refine x_iadd C 12 18 rfl ?_
  refine x_max C 13 19 rfl (mc wq_35_13) (mc wq_12_15) (mc wq_12_16) (mc wq_12_17) ⟨by decide, Nat.le_of_ble_eq_true rfl⟩ ⟨Nat.le_refl _, Nat.le_refl _⟩ ?_
  obtain ⟨hi, h⟩ := h
  obtain ⟨z1, ez1⟩ : ∃ z : St, z = ua sV 4 p1 (if sV 4 p1.toNatClampNeg < (sV 4 p2.toNatClampNeg + (1 : Int32)) then (sV 4 p2.toNatClampNeg + (1 : Int32)) else sV 4 p1.toNatClampNeg) := ⟨_, rfl⟩
  replace h := h z1 ez1
  refine x_iast (f := sV 4) (ws' := fl [wdV (xk x) aV z1]) C 14 22 rfl 4 rfl hi (by rw [ez1]; rfl) ?_
  exact x_vret C rt 15 23 rfl z1 rfl h
theorem c_X6_lengthen (l : Launch) (D : va_G) (k : ClassId × ClassId) (g : Nat → Nat) (aV : Nat → Nat) (sV : St) (p1 : Int32) (p2 : Int32) (K : St → Prop) (h : wp_X6_lengthen sV p1 p2 K) : ConV l yX6_lengthen (Cond.code yX6_lengthen cX6_lengthen 3 none :: wsL_law) ({ frames := 1, cells := 0, slots := 0, locals := 21 } : Room) D k g [.ref (aV 0), .int p1, .int p2] (fl [wdV k aV sV]) (fun (u : St) => fl [wdV k aV u]) (fun (u : St) => K u) := by
  refine ConV.of (tb := tb_X6_lengthen) (cc := cX6_lengthen) (nL := 3) (by decide) rfl tbk_X6_lengthen (Nat.le_of_ble_eq_true rfl) ?_
  intro x hl hD hk hg C rt
  subst hl hD hk hg
  exact w_X6_lengthen C rt h
set_option maxHeartbeats 4000000 in
set_option maxRecDepth 100000 in
theorem w_X6_closeState {x : CT} {aV : Nat → Nat} {sV : St} {p1 : Int32} {K : St → Prop} (C : Cx x cX6_closeState tb_X6_closeState 2 RX6 (Cond.code yX6_closeState cX6_closeState 2 none :: wsL_law) ({ frames := 2, cells := 0, slots := 0, locals := 43 } : Room)) (rt : RetV x 0 0 (fun (u : St) => fl [wdV (xk x) aV u]) (fun (u : St) => K u)) (h : wp_X6_closeState sV p1 K) : Wx x 2 0 0 (fl [wdV (xk x) aV sV]) [(0, .ref (aV 0)), (1, .int p1)] 0 [] := by
  unfold wp_X6_closeState at h
  refine x_aload_n C 0 0 rfl 0 rfl rfl ?_
  refine x_get (v := .ref (aV 1)) C 1 1 rfl fi_X6 0 rfl rfl 1 (by decide) (mc wq_4_16) rfl ?_
  refine x_iload_n C 2 4 rfl 1 rfl rfl ?_
  refine x_iconst (v := (2 : Int32)) C 3 5 rfl (by decide) ?_
  obtain ⟨hi, h⟩ := h
  obtain ⟨z1, ez1⟩ : ∃ z : St, z = ua sV 1 p1 (2 : Int32) := ⟨_, rfl⟩
  replace h := h z1 ez1
  refine x_iast (f := sV 1) (ws' := fl [wdV (xk x) aV z1]) C 4 6 rfl 1 rfl hi (by rw [ez1]; rfl) ?_
  refine x_aload_n C 5 7 rfl 0 rfl rfl ?_
  refine x_dup C 6 8 rfl rfl ?_
  refine x_get (v := .int (z1 5 0)) C 7 9 rfl fi_X6 0 rfl rfl 5 (by decide) (mc wq_34_21) rfl ?_
  refine x_iconst (v := (1 : Int32)) C 8 12 rfl (by decide) ?_
  refine x_isub C 9 13 rfl ?_
  obtain ⟨z2, ez2⟩ : ∃ z : St, z = us z1 5 (z1 5 0 - (1 : Int32)) := ⟨_, rfl⟩
  replace h := h z2 ez2
  refine x_put (ws' := fl [wdV (xk x) aV z2]) C 10 14 rfl fi_X6 tyX6 tyX6_ok nmX6 0 rfl rfl 5 (by decide) (mc wq_34_21) rfl rfl rfl (Nat.le_of_ble_eq_true rfl) (by rw [ez2]; rfl) ?_
  refine x_aload_n C 11 17 rfl 0 rfl rfl ?_
  refine x_get (v := .int (z2 5 0)) C 12 18 rfl fi_X6 0 rfl rfl 5 (by decide) (mc wq_34_21) rfl ?_
  refine x_if_le C 13 21 40 rfl rfl (fun c3 => ?_) (fun c3 => ?_)
  · replace h := h.1 c3
    exact x_vret C rt 24 40 rfl z2 rfl h
  · replace h := h.2 c3
    refine x_aload_n C 14 24 rfl 0 rfl rfl ?_
    refine x_aload_n C 15 25 rfl 0 rfl rfl ?_
    refine x_get (v := .ref (aV 2)) C 16 26 rfl fi_X6 0 rfl rfl 2 (by decide) (mc wq_4_17) rfl ?_
    refine x_aload_n C 17 29 rfl 0 rfl rfl ?_
    refine x_get (v := .int (z2 5 0)) C 18 30 rfl fi_X6 0 rfl rfl 5 (by decide) (mc wq_34_21) rfl ?_
    refine x_iconst (v := (1 : Int32)) C 19 33 rfl (by decide) ?_
    refine x_isub C 20 34 rfl ?_
    obtain ⟨hi, h⟩ := h
    refine x_iald (f := z2 2) C 21 35 rfl 2 rfl hi ?_
    refine x_iload_n C 22 36 rfl 1 rfl rfl ?_
    refine x_callWVV (ci := 4) (q0 := 0) (q := (RX6, TX6, 6)) C 23 37 (c_X6_lengthen (xl x) (xD x) (xk x) (xg x) aV z2 (z2 2 (z2 5 0 - (1 : Int32)).toNatClampNeg) p1 _ h) rfl wwGood (mem4 wq_35_9 wq_35_10 wq_35_11 wq_2_12) wq_35_12 2 ok_X6_lengthen rfl ⟨by decide, by decide⟩ (Nat.le_of_ble_eq_true rfl) ⟨Nat.le_refl _, Nat.le_refl _⟩ ⟨rfl, rfl⟩ rfl rfl rfl (fun u4 h => ?_)
    exact x_vret C rt 24 40 rfl u4 rfl h
theorem c_X6_closeState (l : Launch) (D : va_G) (k : ClassId × ClassId) (g : Nat → Nat) (aV : Nat → Nat) (sV : St) (p1 : Int32) (K : St → Prop) (h : wp_X6_closeState sV p1 K) : ConV l yX6_closeState (Cond.code yX6_closeState cX6_closeState 2 none :: wsL_law) ({ frames := 2, cells := 0, slots := 0, locals := 43 } : Room) D k g [.ref (aV 0), .int p1] (fl [wdV k aV sV]) (fun (u : St) => fl [wdV k aV u]) (fun (u : St) => K u) := by
  refine ConV.of (tb := tb_X6_closeState) (cc := cX6_closeState) (nL := 2) (by decide) rfl tbk_X6_closeState (Nat.le_of_ble_eq_true rfl) ?_
  intro x hl hD hk hg C rt
  subst hl hD hk hg
  exact w_X6_closeState C rt h
set_option maxHeartbeats 4000000 in
set_option maxRecDepth 100000 in
theorem w_X6_goesBy {x : CT} {aV aB : Nat → Nat} {sV : St} {sB : St} {p2 : Int32} {p3 : Int32} {K : Int32 → St → Prop} (C : Cx x cX6_goesBy tb_X6_goesBy 5 RX6 (Cond.code yX6_goesBy cX6_goesBy 5 (some .boolean) :: wsL_law) ({ frames := 3, cells := 0, slots := 0, locals := 76 } : Room)) (rt : RetZ x 0 0 (fun (u : St) => fl [wdV (xk x) aV u, wdB (xk x) aB sB]) (fun (r : Int32) (u : St) => K r u)) (h : wp_X6_goesBy sV sB p2 p3 K) : Wx x 5 0 0 (fl [wdV (xk x) aV sV, wdB (xk x) aB sB]) [(0, .ref (aV 0)), (1, .ref (aB 0)), (2, .int p2), (3, .int p3)] 0 [] := by
  unfold wp_X6_goesBy at h
  refine x_aload_n C 0 0 rfl 0 rfl rfl ?_
  refine x_aload_n C 1 1 rfl 1 rfl rfl ?_
  refine x_iload_n C 2 2 rfl 2 rfl rfl ?_
  refine x_iload_n C 3 3 rfl 3 rfl rfl ?_
  refine x_callWVI (ci := 4) (q0 := 0) (q := (RX6, TX6, 6)) C 4 4 (c_X6_greatestAfter (xl x) (xD x) (xk x) (xg x) aV aB sV sB p2 p3 _ h) rfl wwGood (mem4 wq_35_18 wq_35_19 wq_35_20 wq_2_12) wq_35_21 3 ok_X6_greatestAfter rfl ⟨by decide, by decide⟩ (Nat.le_of_ble_eq_true rfl) ⟨Nat.le_refl _, Nat.le_refl _⟩ ⟨rfl, rfl⟩ rfl rfl rfl (fun r1 _ h => ?_)
  refine x_istore (lv' := [(0, .ref (aV 0)), (3, .int p3), (4, .int r1)]) C 5 7 rfl (by decide) [1, 4, 0] rfl ?_
  refine x_iload C 6 9 rfl 2 rfl ?_
  refine x_if_ge C 7 11 16 rfl rfl (fun c2 => ?_) (fun c2 => ?_)
  · replace h := h.1 c2
    refine x_aload_n C 10 16 rfl 0 rfl rfl ?_
    refine x_get (v := .ref (aV 1)) C 11 17 rfl fi_X6 0 rfl rfl 1 (by decide) (mc wq_4_16) rfl ?_
    refine x_iload C 12 20 rfl 2 rfl ?_
    obtain ⟨hi, h⟩ := h
    refine x_iald (f := sV 1) C 13 22 rfl 1 rfl hi ?_
    refine x_iconst (v := (1 : Int32)) C 14 23 rfl (by decide) ?_
    refine x_icmp_ne C 15 24 29 rfl rfl (fun c3 => ?_) (fun c3 => ?_)
    · replace h := h.2 c3
      refine x_aload_n C 18 29 rfl 0 rfl rfl ?_
      refine x_get (v := .ref (aV 1)) C 19 30 rfl fi_X6 0 rfl rfl 1 (by decide) (mc wq_4_16) rfl ?_
      refine x_iload C 20 33 rfl 2 rfl ?_
      obtain ⟨hi, h⟩ := h
      refine x_iald (f := sV 1) C 21 35 rfl 1 rfl hi ?_
      refine x_if_ne C 22 36 48 rfl rfl (fun c4 => ?_) (fun c4 => ?_)
      · replace h := h.2 c4
        refine x_aload_n C 27 48 rfl 0 rfl rfl ?_
        refine x_iload_n C 28 49 rfl 1 rfl rfl ?_
        refine x_iload C 29 50 rfl 2 rfl ?_
        refine x_callGVV (ci := 4) (q0 := 0) (q := (RX6, TX6, 6)) C 30 52 (c_X6_lengthen (xl x) (xD x) (xk x) (xg x) aV sV p3 r1 _ h) rfl wwGood (mem4 wq_35_9 wq_35_10 wq_35_11 wq_2_12) wq_35_12 2 ok_X6_lengthen rfl ⟨by decide, by decide⟩ (Nat.le_of_ble_eq_true rfl) ⟨Nat.le_refl _, Nat.le_refl _⟩ ⟨rfl, rfl⟩ rfl rfl [wdB (xk x) aB sB] (fun (u : St) => [wdV (xk x) aV u, wdB (xk x) aB sB]) [1, 0] [1, 0] (show List.Perm [1, 0] (List.range 2) by decide) rfl 2 (fun _ => rfl) (by decide) (fun _ => rfl) (fun u5 h => ?_)
        refine x_iconst (v := (1 : Int32)) C 31 55 rfl (by decide) ?_
        exact x_zret C rt 32 56 rfl zb_1 u5 rfl h
      · replace h := h.1 c4
        refine x_aload_n C 23 39 rfl 0 rfl rfl ?_
        refine x_iload C 24 40 rfl 2 rfl ?_
        refine x_callGVV (ci := 4) (q0 := 0) (q := (RX6, TX6, 6)) C 25 42 (c_X6_openState (xl x) (xD x) (xk x) (xg x) aV sV r1 _ h) rfl wwGood (mem4 wq_35_0 wq_35_1 wq_35_2 wq_2_12) wq_35_3 1 ok_X6_openState rfl ⟨by decide, by decide⟩ (Nat.le_of_ble_eq_true rfl) ⟨Nat.le_refl _, Nat.le_refl _⟩ ⟨rfl, rfl⟩ rfl rfl [wdB (xk x) aB sB] (fun (u : St) => [wdV (xk x) aV u, wdB (xk x) aB sB]) [1, 0] [1, 0] (show List.Perm [1, 0] (List.range 2) by decide) rfl 2 (fun _ => rfl) (by decide) (fun _ => rfl) (fun u6 h => ?_)
        refine x_goto C 26 45 55 rfl rfl ?_
        refine x_iconst (v := (1 : Int32)) C 31 55 rfl (by decide) ?_
        exact x_zret C rt 32 56 rfl zb_1 u6 rfl h
    · replace h := h.1 c3
      refine x_iconst (v := (0 : Int32)) C 16 27 rfl (by decide) ?_
      exact x_zret C rt 17 28 rfl zb_0 sV rfl h
  · replace h := h.2 c2
    refine x_iconst (v := (1 : Int32)) C 8 14 rfl (by decide) ?_
    exact x_zret C rt 9 15 rfl zb_1 sV rfl h
theorem c_X6_goesBy (l : Launch) (D : va_G) (k : ClassId × ClassId) (g : Nat → Nat) (aV aB : Nat → Nat) (sV : St) (sB : St) (p2 : Int32) (p3 : Int32) (K : Int32 → St → Prop) (h : wp_X6_goesBy sV sB p2 p3 K) : ConZ l yX6_goesBy (Cond.code yX6_goesBy cX6_goesBy 5 (some .boolean) :: wsL_law) ({ frames := 3, cells := 0, slots := 0, locals := 76 } : Room) D k g [.ref (aV 0), .ref (aB 0), .int p2, .int p3] (fl [wdV k aV sV, wdB k aB sB]) (fun (u : St) => fl [wdV k aV u, wdB k aB sB]) (fun (r : Int32) (u : St) => K r u) := by
  refine ConZ.of (tb := tb_X6_goesBy) (cc := cX6_goesBy) (nL := 5) (by decide) rfl tbk_X6_goesBy (Nat.le_of_ble_eq_true rfl) ?_
  intro x hl hD hk hg C rt
  subst hl hD hk hg
  exact w_X6_goesBy C rt h
set_option maxHeartbeats 4000000 in
set_option maxRecDepth 100000 in
theorem w_X6_longestFrom_20 {x : CT} {aV aB : Nat → Nat} {sB : St} {x2 : Int32} {K : Int32 → St → Prop} (C : Cx x cX6_longestFrom tb_X6_longestFrom 6 RX6 (Cond.code yX6_longestFrom cX6_longestFrom 6 (some .int) :: wsL_law) ({ frames := 4, cells := 0, slots := 0, locals := 100 } : Room)) (rt : RetI x 0 0 (fun (u : St) => fl [wdV (xk x) aV u, wdB (xk x) aB sB]) (fun (r : Int32) (u : St) => K r u))  {q4 : Int32 × St} (h : Lp (F_X6_longestFrom_20 sB x2 K) q4) : Wx x 6 0 0 (fl [wdV (xk x) aV q4.2, wdB (xk x) aB sB]) [(0, .ref (aV 0)), (1, .ref (aB 0)), (2, .int x2), (3, .int q4.1)] 20 [] := by
  refine lp_walk (P := fun q4 => Wx x 6 0 0 (fl [wdV (xk x) aV q4.2, wdB (xk x) aB sB]) [(0, .ref (aV 0)), (1, .ref (aB 0)), (2, .int x2), (3, .int q4.1)] 20 []) (fun q4 R20 hR20 h => ?_) h
  refine x_iload_n C 12 20 rfl 3 rfl rfl ?_
  refine x_sipush (v := (2304 : Int32)) C 13 21 rfl (by decide) ?_
  refine x_icmp_ge C 14 24 121 rfl rfl (fun c5 => ?_) (fun c5 => ?_)
  · replace h := h.1 c5
    refine x_aload_n C 65 121 rfl 0 rfl rfl ?_
    refine x_get (v := .ref (aV 4)) C 66 122 rfl fi_X6 0 rfl rfl 4 (by decide) (mc wq_4_19) rfl ?_
    refine x_iload_n C 67 125 rfl 2 rfl rfl ?_
    obtain ⟨hi, h⟩ := h
    refine x_iald (f := q4.2 4) C 68 126 rfl 4 rfl hi ?_
    exact x_iret C rt 69 127 rfl q4.2 rfl h
  · replace h := h.2 c5
    refine x_aload_n C 15 27 rfl 0 rfl rfl ?_
    refine x_get (v := .int (q4.2 5 0)) C 16 28 rfl fi_X6 0 rfl rfl 5 (by decide) (mc wq_34_21) rfl ?_
    refine x_if_le C 17 31 121 rfl rfl (fun c6 => ?_) (fun c6 => ?_)
    · replace h := h.1 c6
      refine x_aload_n C 65 121 rfl 0 rfl rfl ?_
      refine x_get (v := .ref (aV 4)) C 66 122 rfl fi_X6 0 rfl rfl 4 (by decide) (mc wq_4_19) rfl ?_
      refine x_iload_n C 67 125 rfl 2 rfl rfl ?_
      obtain ⟨hi, h⟩ := h
      refine x_iald (f := q4.2 4) C 68 126 rfl 4 rfl hi ?_
      exact x_iret C rt 69 127 rfl q4.2 rfl h
    · replace h := h.2 c6
      refine x_aload_n C 18 34 rfl 0 rfl rfl ?_
      refine x_get (v := .ref (aV 2)) C 19 35 rfl fi_X6 0 rfl rfl 2 (by decide) (mc wq_4_17) rfl ?_
      refine x_aload_n C 20 38 rfl 0 rfl rfl ?_
      refine x_get (v := .int (q4.2 5 0)) C 21 39 rfl fi_X6 0 rfl rfl 5 (by decide) (mc wq_34_21) rfl ?_
      refine x_iconst (v := (1 : Int32)) C 22 42 rfl (by decide) ?_
      refine x_isub C 23 43 rfl ?_
      obtain ⟨hi, h⟩ := h
      refine x_iald (f := q4.2 2) C 24 44 rfl 2 rfl hi ?_
      refine x_topi (fun y7 ey7 => ?_)
      replace h := h y7 ey7
      refine x_istore (lv' := [(0, .ref (aV 0)), (1, .ref (aB 0)), (2, .int x2), (3, .int q4.1), (4, .int y7)]) C 25 45 rfl (by decide) [1, 2, 3, 4, 0] rfl ?_
      refine x_aload_n C 26 47 rfl 0 rfl rfl ?_
      refine x_get (v := .ref (aV 3)) C 27 48 rfl fi_X6 0 rfl rfl 3 (by decide) (mc wq_4_18) rfl ?_
      refine x_iload C 28 51 rfl 4 rfl ?_
      obtain ⟨hi, h⟩ := h
      refine x_iald (f := q4.2 3) C 29 53 rfl 3 rfl hi ?_
      refine x_topi (fun y8 ey8 => ?_)
      replace h := h y8 ey8
      refine x_istore (lv' := [(0, .ref (aV 0)), (1, .ref (aB 0)), (2, .int x2), (3, .int q4.1), (4, .int y7), (5, .int y8)]) C 30 54 rfl (by decide) [1, 2, 3, 4, 5, 0] rfl ?_
      refine x_aload_n C 31 56 rfl 0 rfl rfl ?_
      refine x_get (v := .ref (aV 3)) C 32 57 rfl fi_X6 0 rfl rfl 3 (by decide) (mc wq_4_18) rfl ?_
      refine x_iload C 33 60 rfl 4 rfl ?_
      refine x_dup2 C 34 62 rfl rfl rfl ?_
      obtain ⟨hi, h⟩ := h
      refine x_iald (f := q4.2 3) C 35 63 rfl 3 rfl hi ?_
      refine x_iconst (v := (1 : Int32)) C 36 64 rfl (by decide) ?_
      refine x_iadd C 37 65 rfl ?_
      obtain ⟨hi, h⟩ := h
      obtain ⟨z9, ez9⟩ : ∃ z : St, z = ua q4.2 3 y7 (q4.2 3 y7.toNatClampNeg + (1 : Int32)) := ⟨_, rfl⟩
      replace h := h z9 ez9
      refine x_iast (f := q4.2 3) (ws' := fl [wdV (xk x) aV z9, wdB (xk x) aB sB]) C 38 66 rfl 3 rfl hi (by rw [ez9]; rfl) ?_
      refine x_aload_n C 39 67 rfl 1 rfl rfl ?_
      refine x_iload C 40 68 rfl 5 rfl ?_
      refine x_callGVZ (ci := 0) (q0 := 0) (q := (RX1, TX1, 5)) C 41 70 (c_X1_hasCall (xl x) (xD x) (xk x) (xg x) aB sB y8 _ h) rfl wwGood (mem4 wq_35_4 wq_17_0 wq_17_1 wq_1_19) wq_17_2 1 ok_X1_hasCall rfl ⟨by decide, by decide⟩ (Nat.le_of_ble_eq_true rfl) ⟨Nat.le_refl _, Nat.le_refl _⟩ ⟨rfl, rfl⟩ rfl rfl [wdV (xk x) aV z9] (fun (u : Unit) => [wdV (xk x) aV z9, wdB (xk x) aB sB]) [0, 1] [0, 1] (show List.Perm [0, 1] (List.range 2) by decide) rfl 2 (fun _ => rfl) (by decide) (fun _ => rfl) (fun r10 _ h => ?_)
      refine x_if_ne C 42 73 85 rfl rfl (fun c11 => ?_) (fun c11 => ?_)
      · replace h := h.2 c11
        refine x_aload_n C 47 85 rfl 1 rfl rfl ?_
        refine x_get (v := .ref (aB 2)) C 48 86 rfl fi_X1 5 rfl rfl 1 (by decide) (mc wq_34_22) rfl ?_
        refine x_iload C 49 89 rfl 5 rfl ?_
        obtain ⟨hi, h⟩ := h
        refine x_iald (f := sB 1) C 50 91 rfl 7 rfl hi ?_
        refine x_iload C 51 92 rfl 4 rfl ?_
        refine x_bipush (v := (6 : Int32)) C 52 94 rfl (by decide) ?_
        refine x_ishr C 53 96 rfl ?_
        refine x_icmp_ne C 54 97 115 rfl rfl (fun c12 => ?_) (fun c12 => ?_)
        · replace h := h.2 c12
          obtain ⟨y13, ey13⟩ : ∃ y : Int32, y = q4.1 + (1 : Int32) := ⟨_, rfl⟩
          replace h := h y13 ey13
          refine x_iinc (v := y13) (lv' := [(0, .ref (aV 0)), (1, .ref (aB 0)), (2, .int x2), (3, .int y13)]) C 63 115 rfl 3 rfl (by rw [ey13]; rfl) (by decide) [1, 2, 3, 0] rfl ?_
          refine x_goto C 64 118 20 rfl rfl ?_
          exact x_sub [0, 1, 2, 3] rfl (hR20 (y13, z9) h)
        · replace h := h.1 c12
          refine x_aload_n C 55 100 rfl 0 rfl rfl ?_
          refine x_aload_n C 56 101 rfl 1 rfl rfl ?_
          refine x_iload C 57 102 rfl 5 rfl ?_
          refine x_iload C 58 104 rfl 4 rfl ?_
          refine x_callWVZ (ci := 4) (q0 := 0) (q := (RX6, TX6, 6)) C 59 106 (c_X6_goesBy (xl x) (xD x) (xk x) (xg x) aV aB z9 sB y8 y7 _ h) rfl wwGood (mem4 wq_35_14 wq_35_15 wq_35_16 wq_2_12) wq_35_17 3 ok_X6_goesBy rfl ⟨by decide, by decide⟩ (Nat.le_of_ble_eq_true rfl) ⟨Nat.le_refl _, Nat.le_refl _⟩ ⟨rfl, rfl⟩ rfl rfl rfl (fun r14 u14 h => ?_)
          refine x_if_ne C 60 109 115 rfl rfl (fun c15 => ?_) (fun c15 => ?_)
          · replace h := h.2 c15
            obtain ⟨y16, ey16⟩ : ∃ y : Int32, y = q4.1 + (1 : Int32) := ⟨_, rfl⟩
            replace h := h y16 ey16
            refine x_iinc (v := y16) (lv' := [(0, .ref (aV 0)), (1, .ref (aB 0)), (2, .int x2), (3, .int y16)]) C 63 115 rfl 3 rfl (by rw [ey16]; rfl) (by decide) [1, 2, 3, 0] rfl ?_
            refine x_goto C 64 118 20 rfl rfl ?_
            exact x_sub [0, 1, 2, 3] rfl (hR20 (y16, u14) h)
          · replace h := h.1 c15
            refine x_bipush (v := (-4 : Int32)) C 61 112 rfl (by decide) ?_
            exact x_iret C rt 62 114 rfl u14 rfl h
      · replace h := h.1 c11
        refine x_aload_n C 43 76 rfl 0 rfl rfl ?_
        refine x_iload C 44 77 rfl 4 rfl ?_
        refine x_callGVV (ci := 4) (q0 := 0) (q := (RX6, TX6, 6)) C 45 79 (c_X6_closeState (xl x) (xD x) (xk x) (xg x) aV z9 y7 _ h) rfl wwGood (mem4 wq_35_5 wq_35_6 wq_35_7 wq_2_12) wq_35_8 1 ok_X6_closeState rfl ⟨by decide, by decide⟩ (Nat.le_of_ble_eq_true rfl) ⟨Nat.le_refl _, Nat.le_refl _⟩ ⟨rfl, rfl⟩ rfl rfl [wdB (xk x) aB sB] (fun (u : St) => [wdV (xk x) aV u, wdB (xk x) aB sB]) [1, 0] [1, 0] (show List.Perm [1, 0] (List.range 2) by decide) rfl 2 (fun _ => rfl) (by decide) (fun _ => rfl) (fun u17 h => ?_)
        refine x_goto C 46 82 115 rfl rfl ?_
        obtain ⟨y18, ey18⟩ : ∃ y : Int32, y = q4.1 + (1 : Int32) := ⟨_, rfl⟩
        replace h := h y18 ey18
        refine x_iinc (v := y18) (lv' := [(0, .ref (aV 0)), (1, .ref (aB 0)), (2, .int x2), (3, .int y18)]) C 63 115 rfl 3 rfl (by rw [ey18]; rfl) (by decide) [1, 2, 3, 0] rfl ?_
        refine x_goto C 64 118 20 rfl rfl ?_
        exact x_sub [0, 1, 2, 3] rfl (hR20 (y18, u17) h)
set_option maxHeartbeats 4000000 in
set_option maxRecDepth 100000 in
theorem w_X6_longestFrom {x : CT} {aV aB : Nat → Nat} {sV : St} {sB : St} {p2 : Int32} {K : Int32 → St → Prop} (C : Cx x cX6_longestFrom tb_X6_longestFrom 6 RX6 (Cond.code yX6_longestFrom cX6_longestFrom 6 (some .int) :: wsL_law) ({ frames := 4, cells := 0, slots := 0, locals := 100 } : Room)) (rt : RetI x 0 0 (fun (u : St) => fl [wdV (xk x) aV u, wdB (xk x) aB sB]) (fun (r : Int32) (u : St) => K r u)) (h : wp_X6_longestFrom sV sB p2 K) : Wx x 6 0 0 (fl [wdV (xk x) aV sV, wdB (xk x) aB sB]) [(0, .ref (aV 0)), (1, .ref (aB 0)), (2, .int p2)] 0 [] := by
  unfold wp_X6_longestFrom at h
  refine x_aload_n C 0 0 rfl 0 rfl rfl ?_
  refine x_get (v := .ref (aV 1)) C 1 1 rfl fi_X6 0 rfl rfl 1 (by decide) (mc wq_4_16) rfl ?_
  refine x_iconst (v := (0 : Int32)) C 2 4 rfl (by decide) ?_
  obtain ⟨z1, ez1⟩ : ∃ z : St, z = uf sV 1 256 (0 : Int32) := ⟨_, rfl⟩
  replace h := h z1 ez1
  refine x_fill (f := sV 1) (ws' := fl [wdV (xk x) aV z1, wdB (xk x) aB sB]) C 3 5 rfl (mem3 wq_34_23 wq_4_0 wq_4_1) ⟨by decide, by decide⟩ (Nat.le_of_ble_eq_true rfl) ⟨Nat.le_refl _, Nat.le_refl _⟩ 1 rfl (by decide) (by rw [ez1]; rfl) ?_
  refine x_aload_n C 4 8 rfl 0 rfl rfl ?_
  refine x_iconst (v := (0 : Int32)) C 5 9 rfl (by decide) ?_
  obtain ⟨z2, ez2⟩ : ∃ z : St, z = us z1 5 (0 : Int32) := ⟨_, rfl⟩
  replace h := h z2 ez2
  refine x_put (ws' := fl [wdV (xk x) aV z2, wdB (xk x) aB sB]) C 6 10 rfl fi_X6 tyX6 tyX6_ok nmX6 0 rfl rfl 5 (by decide) (mc wq_34_21) rfl rfl rfl (Nat.le_of_ble_eq_true rfl) (by rw [ez2]; rfl) ?_
  refine x_aload_n C 7 13 rfl 0 rfl rfl ?_
  refine x_iload_n C 8 14 rfl 2 rfl rfl ?_
  refine x_callGVV (ci := 4) (q0 := 0) (q := (RX6, TX6, 6)) C 9 15 (c_X6_openState (xl x) (xD x) (xk x) (xg x) aV z2 p2 _ h) rfl wwGood (mem4 wq_35_0 wq_35_1 wq_35_2 wq_2_12) wq_35_3 1 ok_X6_openState rfl ⟨by decide, by decide⟩ (Nat.le_of_ble_eq_true rfl) ⟨Nat.le_refl _, Nat.le_refl _⟩ ⟨rfl, rfl⟩ rfl rfl [wdB (xk x) aB sB] (fun (u : St) => [wdV (xk x) aV u, wdB (xk x) aB sB]) [1, 0] [1, 0] (show List.Perm [1, 0] (List.range 2) by decide) rfl 2 (fun _ => rfl) (by decide) (fun _ => rfl) (fun u3 h => ?_)
  refine x_iconst (v := (0 : Int32)) C 10 18 rfl (by decide) ?_
  refine x_istore_n (lv' := [(0, .ref (aV 0)), (1, .ref (aB 0)), (2, .int p2), (3, .int (0 : Int32))]) C 11 19 rfl rfl (by decide) [1, 2, 3, 0] rfl ?_
  refine x_sub (lv' := [(0, .ref (aV 0)), (1, .ref (aB 0)), (2, .int p2), (3, .int (0 : Int32))]) [0, 1, 2, 3] rfl (w_X6_longestFrom_20 C rt h)
theorem c_X6_longestFrom (l : Launch) (D : va_G) (k : ClassId × ClassId) (g : Nat → Nat) (aV aB : Nat → Nat) (sV : St) (sB : St) (p2 : Int32) (K : Int32 → St → Prop) (h : wp_X6_longestFrom sV sB p2 K) : ConI l yX6_longestFrom (Cond.code yX6_longestFrom cX6_longestFrom 6 (some .int) :: wsL_law) ({ frames := 4, cells := 0, slots := 0, locals := 100 } : Room) D k g [.ref (aV 0), .ref (aB 0), .int p2] (fl [wdV k aV sV, wdB k aB sB]) (fun (u : St) => fl [wdV k aV u, wdB k aB sB]) (fun (r : Int32) (u : St) => K r u) := by
  refine ConI.of (tb := tb_X6_longestFrom) (cc := cX6_longestFrom) (nL := 6) (by decide) rfl tbk_X6_longestFrom (Nat.le_of_ble_eq_true rfl) ?_
  intro x hl hD hk hg C rt
  subst hl hD hk hg
  exact w_X6_longestFrom C rt h
set_option maxHeartbeats 4000000 in
set_option maxRecDepth 100000 in
theorem w_X6_isWithin {x : CT} {p1 : Int32} {p2 : Int32} {K : Int32 → Prop} (C : Cx x cX6_isWithin tb_X6_isWithin 2 RX6 (Cond.code yX6_isWithin cX6_isWithin 2 (some .boolean) :: wsL_law) ({ frames := 0, cells := 0, slots := 0, locals := 0 } : Room)) (rt : RetZ x 0 0 (fun (u : Unit) => fl []) (fun (r : Int32) (_ : Unit) => K r)) (h : wp_X6_isWithin p1 p2 K) : Wx x 2 0 0 (fl []) [(0, .int p1), (1, .int p2)] 0 [] := by
  unfold wp_X6_isWithin at h
  refine x_iload_n C 0 0 rfl 0 rfl rfl ?_
  refine x_iconst (v := (3 : Int32)) C 1 1 rfl (by decide) ?_
  refine x_iand C 2 2 rfl ?_
  refine x_iload_n C 3 3 rfl 1 rfl rfl ?_
  refine x_iconst (v := (3 : Int32)) C 4 4 rfl (by decide) ?_
  refine x_iand C 5 5 rfl ?_
  refine x_icmp_gt C 6 6 39 rfl rfl (fun c1 => ?_) (fun c1 => ?_)
  · replace h := h.1 c1
    refine x_iconst (v := (0 : Int32)) C 31 39 rfl (by decide) ?_
    exact x_zret C rt 32 40 rfl zb_0 () rfl h
  · replace h := h.2 c1
    refine x_iload_n C 7 9 rfl 0 rfl rfl ?_
    refine x_iconst (v := (2 : Int32)) C 8 10 rfl (by decide) ?_
    refine x_ishr C 9 11 rfl ?_
    refine x_iconst (v := (3 : Int32)) C 10 12 rfl (by decide) ?_
    refine x_iand C 11 13 rfl ?_
    refine x_iload_n C 12 14 rfl 1 rfl rfl ?_
    refine x_iconst (v := (2 : Int32)) C 13 15 rfl (by decide) ?_
    refine x_ishr C 14 16 rfl ?_
    refine x_iconst (v := (3 : Int32)) C 15 17 rfl (by decide) ?_
    refine x_iand C 16 18 rfl ?_
    refine x_icmp_gt C 17 19 39 rfl rfl (fun c2 => ?_) (fun c2 => ?_)
    · replace h := h.1 c2
      refine x_iconst (v := (0 : Int32)) C 31 39 rfl (by decide) ?_
      exact x_zret C rt 32 40 rfl zb_0 () rfl h
    · replace h := h.2 c2
      refine x_iload_n C 18 22 rfl 0 rfl rfl ?_
      refine x_iconst (v := (4 : Int32)) C 19 23 rfl (by decide) ?_
      refine x_ishr C 20 24 rfl ?_
      refine x_iconst (v := (3 : Int32)) C 21 25 rfl (by decide) ?_
      refine x_iand C 22 26 rfl ?_
      refine x_iload_n C 23 27 rfl 1 rfl rfl ?_
      refine x_iconst (v := (4 : Int32)) C 24 28 rfl (by decide) ?_
      refine x_ishr C 25 29 rfl ?_
      refine x_iconst (v := (3 : Int32)) C 26 30 rfl (by decide) ?_
      refine x_iand C 27 31 rfl ?_
      refine x_icmp_gt C 28 32 39 rfl rfl (fun c3 => ?_) (fun c3 => ?_)
      · replace h := h.1 c3
        refine x_iconst (v := (0 : Int32)) C 31 39 rfl (by decide) ?_
        exact x_zret C rt 32 40 rfl zb_0 () rfl h
      · replace h := h.2 c3
        refine x_iconst (v := (1 : Int32)) C 29 35 rfl (by decide) ?_
        refine x_goto C 30 36 40 rfl rfl ?_
        exact x_zret C rt 32 40 rfl zb_1 () rfl h
theorem c_X6_isWithin (l : Launch) (D : va_G) (k : ClassId × ClassId) (g : Nat → Nat) (p1 : Int32) (p2 : Int32) (K : Int32 → Prop) (h : wp_X6_isWithin p1 p2 K) : ConZ l yX6_isWithin (Cond.code yX6_isWithin cX6_isWithin 2 (some .boolean) :: wsL_law) ({ frames := 0, cells := 0, slots := 0, locals := 0 } : Room) D k g [.int p1, .int p2] (fl []) (fun (u : Unit) => fl []) (fun (r : Int32) (_ : Unit) => K r) := by
  refine ConZ.of (tb := tb_X6_isWithin) (cc := cX6_isWithin) (nL := 2) (by decide) rfl tbk_X6_isWithin (Nat.le_of_ble_eq_true rfl) ?_
  intro x hl hD hk hg C rt
  subst hl hD hk hg
  exact w_X6_isWithin C rt h
set_option maxHeartbeats 4000000 in
set_option maxRecDepth 100000 in
theorem w_X6_markUpTo_16 {x : CT} {aV : Nat → Nat} {x1 : Int32} {K : Int32 → St → Prop} (C : Cx x cX6_markUpTo tb_X6_markUpTo 5 RX6 (Cond.code yX6_markUpTo cX6_markUpTo 5 (some .int) :: wsL_law) ({ frames := 1, cells := 0, slots := 0, locals := 21 } : Room)) (rt : RetI x 0 0 (fun (u : St) => fl [wdV (xk x) aV u]) (fun (r : Int32) (u : St) => K r u))  {q3 : Int32 × Int32 × St} (h : Lp (F_X6_markUpTo_16 x1 K) q3) : Wx x 5 0 0 (fl [wdV (xk x) aV q3.2.2]) [(0, .ref (aV 0)), (1, .int x1), (2, .int q3.1), (4, .int q3.2.1)] 16 [] := by
  refine lp_walk (P := fun q3 => Wx x 5 0 0 (fl [wdV (xk x) aV q3.2.2]) [(0, .ref (aV 0)), (1, .int x1), (2, .int q3.1), (4, .int q3.2.1)] 16 []) (fun q3 R16 hR16 h => ?_) h
  refine x_iload C 12 16 rfl 3 rfl ?_
  refine x_iload_n C 13 18 rfl 1 rfl rfl ?_
  refine x_icmp_gt C 14 19 66 rfl rfl (fun c4 => ?_) (fun c4 => ?_)
  · replace h := h.1 c4
    refine x_iload_n C 35 66 rfl 2 rfl rfl ?_
    exact x_iret C rt 36 67 rfl q3.2.2 rfl h
  · replace h := h.2 c4
    refine x_iload C 15 22 rfl 3 rfl ?_
    refine x_sipush (v := (256 : Int32)) C 16 24 rfl (by decide) ?_
    refine x_icmp_ge C 17 27 66 rfl rfl (fun c5 => ?_) (fun c5 => ?_)
    · replace h := h.1 c5
      refine x_iload_n C 35 66 rfl 2 rfl rfl ?_
      exact x_iret C rt 36 67 rfl q3.2.2 rfl h
    · replace h := h.2 c5
      refine x_aload_n C 18 30 rfl 0 rfl rfl ?_
      refine x_get (v := .ref (aV 1)) C 19 31 rfl fi_X6 0 rfl rfl 1 (by decide) (mc wq_4_16) rfl ?_
      refine x_iload C 20 34 rfl 3 rfl ?_
      obtain ⟨hi, h⟩ := h
      refine x_iald (f := q3.2.2 1) C 21 36 rfl 1 rfl hi ?_
      refine x_if_ne C 22 37 60 rfl rfl (fun c6 => ?_) (fun c6 => ?_)
      · replace h := h.2 c6
        obtain ⟨y7, ey7⟩ : ∃ y : Int32, y = q3.2.1 + (1 : Int32) := ⟨_, rfl⟩
        replace h := h y7 ey7
        refine x_iinc (v := y7) (lv' := [(0, .ref (aV 0)), (1, .int x1), (2, .int q3.1), (4, .int y7)]) C 33 60 rfl 3 rfl (by rw [ey7]; rfl) (by decide) [1, 2, 3, 0] rfl ?_
        refine x_goto C 34 63 16 rfl rfl ?_
        exact x_sub [0, 1, 2, 3] rfl (hR16 (q3.1, y7, q3.2.2) h)
      · replace h := h.1 c6
        refine x_iload C 23 40 rfl 3 rfl ?_
        refine x_iload_n C 24 42 rfl 1 rfl rfl ?_
        refine x_call0SZ C 25 43 (c_X6_isWithin (xl x) (xD x) (xk x) (xg x) q3.2.1 x1 _ h) rfl wwGood (mem3 wq_37_20 wq_37_21 wq_2_12) wq_37_22 2 ok_X6_isWithin rfl ⟨by decide, by decide⟩ (Nat.le_of_ble_eq_true rfl) ⟨Nat.le_refl _, Nat.le_refl _⟩ ⟨rfl, rfl⟩ rfl (fun r8 _ h => ?_)
        refine x_if_eq C 26 46 60 rfl rfl (fun c9 => ?_) (fun c9 => ?_)
        · replace h := h.1 c9
          obtain ⟨y10, ey10⟩ : ∃ y : Int32, y = q3.2.1 + (1 : Int32) := ⟨_, rfl⟩
          replace h := h y10 ey10
          refine x_iinc (v := y10) (lv' := [(0, .ref (aV 0)), (1, .int x1), (2, .int q3.1), (4, .int y10)]) C 33 60 rfl 3 rfl (by rw [ey10]; rfl) (by decide) [1, 2, 3, 0] rfl ?_
          refine x_goto C 34 63 16 rfl rfl ?_
          exact x_sub [0, 1, 2, 3] rfl (hR16 (q3.1, y10, q3.2.2) h)
        · replace h := h.2 c9
          refine x_aload_n C 27 49 rfl 0 rfl rfl ?_
          refine x_get (v := .ref (aV 1)) C 28 50 rfl fi_X6 0 rfl rfl 1 (by decide) (mc wq_4_16) rfl ?_
          refine x_iload C 29 53 rfl 3 rfl ?_
          refine x_iconst (v := (2 : Int32)) C 30 55 rfl (by decide) ?_
          obtain ⟨hi, h⟩ := h
          obtain ⟨z11, ez11⟩ : ∃ z : St, z = ua q3.2.2 1 q3.2.1 (2 : Int32) := ⟨_, rfl⟩
          replace h := h z11 ez11
          refine x_iast (f := q3.2.2 1) (ws' := fl [wdV (xk x) aV z11]) C 31 56 rfl 1 rfl hi (by rw [ez11]; rfl) ?_
          obtain ⟨y12, ey12⟩ : ∃ y : Int32, y = q3.1 + (1 : Int32) := ⟨_, rfl⟩
          replace h := h y12 ey12
          refine x_iinc (v := y12) (lv' := [(0, .ref (aV 0)), (1, .int x1), (2, .int y12), (4, .int q3.2.1)]) C 32 57 rfl 2 rfl (by rw [ey12]; rfl) (by decide) [1, 2, 0, 3] rfl ?_
          obtain ⟨y13, ey13⟩ : ∃ y : Int32, y = q3.2.1 + (1 : Int32) := ⟨_, rfl⟩
          replace h := h y13 ey13
          refine x_iinc (v := y13) (lv' := [(0, .ref (aV 0)), (1, .int x1), (2, .int y12), (4, .int y13)]) C 33 60 rfl 3 rfl (by rw [ey13]; rfl) (by decide) [1, 2, 3, 0] rfl ?_
          refine x_goto C 34 63 16 rfl rfl ?_
          exact x_sub [0, 1, 2, 3] rfl (hR16 (y12, y13, z11) h)
set_option maxHeartbeats 4000000 in
set_option maxRecDepth 100000 in
theorem w_X6_markUpTo {x : CT} {aV : Nat → Nat} {sV : St} {p1 : Int32} {K : Int32 → St → Prop} (C : Cx x cX6_markUpTo tb_X6_markUpTo 5 RX6 (Cond.code yX6_markUpTo cX6_markUpTo 5 (some .int) :: wsL_law) ({ frames := 1, cells := 0, slots := 0, locals := 21 } : Room)) (rt : RetI x 0 0 (fun (u : St) => fl [wdV (xk x) aV u]) (fun (r : Int32) (u : St) => K r u)) (h : wp_X6_markUpTo sV p1 K) : Wx x 5 0 0 (fl [wdV (xk x) aV sV]) [(0, .ref (aV 0)), (1, .int p1)] 0 [] := by
  unfold wp_X6_markUpTo at h
  refine x_iload_n C 0 0 rfl 1 rfl rfl ?_
  refine x_if_ge C 1 1 6 rfl rfl (fun c1 => ?_) (fun c1 => ?_)
  · replace h := h.1 c1
    refine x_iconst (v := (0 : Int32)) C 4 6 rfl (by decide) ?_
    refine x_istore_n (lv' := [(0, .ref (aV 0)), (1, .int p1), (2, .int (0 : Int32))]) C 5 7 rfl rfl (by decide) [1, 2, 0] rfl ?_
    refine x_iload_n C 6 8 rfl 1 rfl rfl ?_
    refine x_bipush (v := (-64 : Int32)) C 7 9 rfl (by decide) ?_
    refine x_iand C 8 11 rfl ?_
    refine x_topi (fun y2 ey2 => ?_)
    replace h := h y2 ey2
    refine x_istore_n (lv' := [(0, .ref (aV 0)), (1, .int p1), (2, .int (0 : Int32)), (3, .int y2)]) C 9 12 rfl rfl (by decide) [1, 2, 3, 0] rfl ?_
    refine x_iload_n C 10 13 rfl 3 rfl rfl ?_
    refine x_istore (lv' := [(0, .ref (aV 0)), (1, .int p1), (2, .int (0 : Int32)), (4, .int y2)]) C 11 14 rfl (by decide) [1, 2, 3, 0] rfl ?_
    refine x_sub (lv' := [(0, .ref (aV 0)), (1, .int p1), (2, .int (0 : Int32)), (4, .int y2)]) [0, 1, 2, 3] rfl (w_X6_markUpTo_16 C rt h)
  · replace h := h.2 c1
    refine x_iconst (v := (0 : Int32)) C 2 4 rfl (by decide) ?_
    exact x_iret C rt 3 5 rfl sV rfl h
theorem c_X6_markUpTo (l : Launch) (D : va_G) (k : ClassId × ClassId) (g : Nat → Nat) (aV : Nat → Nat) (sV : St) (p1 : Int32) (K : Int32 → St → Prop) (h : wp_X6_markUpTo sV p1 K) : ConI l yX6_markUpTo (Cond.code yX6_markUpTo cX6_markUpTo 5 (some .int) :: wsL_law) ({ frames := 1, cells := 0, slots := 0, locals := 21 } : Room) D k g [.ref (aV 0), .int p1] (fl [wdV k aV sV]) (fun (u : St) => fl [wdV k aV u]) (fun (r : Int32) (u : St) => K r u) := by
  refine ConI.of (tb := tb_X6_markUpTo) (cc := cX6_markUpTo) (nL := 5) (by decide) rfl tbk_X6_markUpTo (Nat.le_of_ble_eq_true rfl) ?_
  intro x hl hD hk hg C rt
  subst hl hD hk hg
  exact w_X6_markUpTo C rt h
set_option maxHeartbeats 4000000 in
set_option maxRecDepth 100000 in
theorem w_X6_statesAfter_13 {x : CT} {aV aB : Nat → Nat} {sB : St} {x2 : Int32} {K : Int32 → St → Prop} (C : Cx x cX6_statesAfter tb_X6_statesAfter 5 RX6 (Cond.code yX6_statesAfter cX6_statesAfter 5 (some .int) :: wsL_law) ({ frames := 3, cells := 0, slots := 0, locals := 76 } : Room)) (rt : RetI x 0 0 (fun (u : St) => fl [wdV (xk x) aV u, wdB (xk x) aB sB]) (fun (r : Int32) (u : St) => K r u))  {q2 : Int32 × Int32 × St} (h : Lp (F_X6_statesAfter_13 sB x2 K) q2) : Wx x 5 0 0 (fl [wdV (xk x) aV q2.2.2, wdB (xk x) aB sB]) [(0, .ref (aV 0)), (1, .ref (aB 0)), (2, .int x2), (3, .int q2.1), (4, .int q2.2.1)] 13 [] := by
  refine lp_walk (P := fun q2 => Wx x 5 0 0 (fl [wdV (xk x) aV q2.2.2, wdB (xk x) aB sB]) [(0, .ref (aV 0)), (1, .ref (aB 0)), (2, .int x2), (3, .int q2.1), (4, .int q2.2.1)] 13 []) (fun q2 R13 hR13 h => ?_) h
  refine x_iload C 8 13 rfl 4 rfl ?_
  refine x_aload_n C 9 15 rfl 1 rfl rfl ?_
  refine x_get (v := .int (sB 4 0)) C 10 16 rfl fi_X1 5 rfl rfl 4 (by decide) (mc wq_37_15) rfl ?_
  refine x_icmp_ge C 11 19 57 rfl rfl (fun c3 => ?_) (fun c3 => ?_)
  · replace h := h.1 c3
    refine x_iload_n C 32 57 rfl 3 rfl rfl ?_
    exact x_iret C rt 33 58 rfl q2.2.2 rfl h
  · replace h := h.2 c3
    refine x_aload_n C 12 22 rfl 1 rfl rfl ?_
    refine x_get (v := .ref (aB 2)) C 13 23 rfl fi_X1 5 rfl rfl 1 (by decide) (mc wq_34_22) rfl ?_
    refine x_iload C 14 26 rfl 4 rfl ?_
    obtain ⟨hi, h⟩ := h
    refine x_iald (f := sB 1) C 15 28 rfl 7 rfl hi ?_
    refine x_iload_n C 16 29 rfl 2 rfl rfl ?_
    refine x_bipush (v := (6 : Int32)) C 17 30 rfl (by decide) ?_
    refine x_ishr C 18 32 rfl ?_
    refine x_icmp_ne C 19 33 51 rfl rfl (fun c4 => ?_) (fun c4 => ?_)
    · replace h := h.2 c4
      obtain ⟨y5, ey5⟩ : ∃ y : Int32, y = q2.2.1 + (1 : Int32) := ⟨_, rfl⟩
      replace h := h y5 ey5
      refine x_iinc (v := y5) (lv' := [(0, .ref (aV 0)), (1, .ref (aB 0)), (2, .int x2), (3, .int q2.1), (4, .int y5)]) C 30 51 rfl 4 rfl (by rw [ey5]; rfl) (by decide) [1, 2, 3, 4, 0] rfl ?_
      refine x_goto C 31 54 13 rfl rfl ?_
      exact x_sub [0, 1, 2, 3, 4] rfl (hR13 (q2.1, y5, q2.2.2) h)
    · replace h := h.1 c4
      refine x_iload_n C 20 36 rfl 3 rfl rfl ?_
      refine x_aload_n C 21 37 rfl 0 rfl rfl ?_
      refine x_aload_n C 22 38 rfl 0 rfl rfl ?_
      refine x_aload_n C 23 39 rfl 1 rfl rfl ?_
      refine x_iload C 24 40 rfl 4 rfl ?_
      refine x_iload_n C 25 42 rfl 2 rfl rfl ?_
      refine x_callWVI (ci := 4) (q0 := 0) (q := (RX6, TX6, 6)) C 26 43 (c_X6_greatestAfter (xl x) (xD x) (xk x) (xg x) aV aB q2.2.2 sB q2.2.1 x2 _ h) rfl wwGood (mem4 wq_35_18 wq_35_19 wq_35_20 wq_2_12) wq_35_21 3 ok_X6_greatestAfter rfl ⟨by decide, by decide⟩ (Nat.le_of_ble_eq_true rfl) ⟨Nat.le_refl _, Nat.le_refl _⟩ ⟨rfl, rfl⟩ rfl rfl rfl (fun r6 _ h => ?_)
      refine x_callGVI (ci := 4) (q0 := 0) (q := (RX6, TX6, 6)) C 27 46 (c_X6_markUpTo (xl x) (xD x) (xk x) (xg x) aV q2.2.2 r6 _ h) rfl wwGood (mem4 wq_37_16 wq_37_17 wq_37_18 wq_2_12) wq_37_19 1 ok_X6_markUpTo rfl ⟨by decide, by decide⟩ (Nat.le_of_ble_eq_true rfl) ⟨Nat.le_refl _, Nat.le_refl _⟩ ⟨rfl, rfl⟩ rfl rfl [wdB (xk x) aB sB] (fun (u : St) => [wdV (xk x) aV u, wdB (xk x) aB sB]) [1, 0] [1, 0] (show List.Perm [1, 0] (List.range 2) by decide) rfl 2 (fun _ => rfl) (by decide) (fun _ => rfl) (fun r7 u7 h => ?_)
      refine x_iadd C 28 49 rfl ?_
      refine x_topi (fun y8 ey8 => ?_)
      replace h := h y8 ey8
      refine x_istore_n (lv' := [(0, .ref (aV 0)), (1, .ref (aB 0)), (2, .int x2), (3, .int y8), (4, .int q2.2.1)]) C 29 50 rfl rfl (by decide) [1, 2, 3, 0, 4] rfl ?_
      obtain ⟨y9, ey9⟩ : ∃ y : Int32, y = q2.2.1 + (1 : Int32) := ⟨_, rfl⟩
      replace h := h y9 ey9
      refine x_iinc (v := y9) (lv' := [(0, .ref (aV 0)), (1, .ref (aB 0)), (2, .int x2), (3, .int y8), (4, .int y9)]) C 30 51 rfl 4 rfl (by rw [ey9]; rfl) (by decide) [1, 2, 3, 4, 0] rfl ?_
      refine x_goto C 31 54 13 rfl rfl ?_
      exact x_sub [0, 1, 2, 3, 4] rfl (hR13 (y8, y9, u7) h)
set_option maxHeartbeats 4000000 in
set_option maxRecDepth 100000 in
theorem w_X6_statesAfter {x : CT} {aV aB : Nat → Nat} {sV : St} {sB : St} {p2 : Int32} {K : Int32 → St → Prop} (C : Cx x cX6_statesAfter tb_X6_statesAfter 5 RX6 (Cond.code yX6_statesAfter cX6_statesAfter 5 (some .int) :: wsL_law) ({ frames := 3, cells := 0, slots := 0, locals := 76 } : Room)) (rt : RetI x 0 0 (fun (u : St) => fl [wdV (xk x) aV u, wdB (xk x) aB sB]) (fun (r : Int32) (u : St) => K r u)) (h : wp_X6_statesAfter sV sB p2 K) : Wx x 5 0 0 (fl [wdV (xk x) aV sV, wdB (xk x) aB sB]) [(0, .ref (aV 0)), (1, .ref (aB 0)), (2, .int p2)] 0 [] := by
  unfold wp_X6_statesAfter at h
  refine x_aload_n C 0 0 rfl 0 rfl rfl ?_
  refine x_get (v := .ref (aV 1)) C 1 1 rfl fi_X6 0 rfl rfl 1 (by decide) (mc wq_4_16) rfl ?_
  refine x_iconst (v := (0 : Int32)) C 2 4 rfl (by decide) ?_
  obtain ⟨z1, ez1⟩ : ∃ z : St, z = uf sV 1 256 (0 : Int32) := ⟨_, rfl⟩
  replace h := h z1 ez1
  refine x_fill (f := sV 1) (ws' := fl [wdV (xk x) aV z1, wdB (xk x) aB sB]) C 3 5 rfl (mem3 wq_34_23 wq_4_0 wq_4_1) ⟨by decide, by decide⟩ (Nat.le_of_ble_eq_true rfl) ⟨Nat.le_refl _, Nat.le_refl _⟩ 1 rfl (by decide) (by rw [ez1]; rfl) ?_
  refine x_iconst (v := (0 : Int32)) C 4 8 rfl (by decide) ?_
  refine x_istore_n (lv' := [(0, .ref (aV 0)), (1, .ref (aB 0)), (2, .int p2), (3, .int (0 : Int32))]) C 5 9 rfl rfl (by decide) [1, 2, 3, 0] rfl ?_
  refine x_iconst (v := (0 : Int32)) C 6 10 rfl (by decide) ?_
  refine x_istore (lv' := [(0, .ref (aV 0)), (1, .ref (aB 0)), (2, .int p2), (3, .int (0 : Int32)), (4, .int (0 : Int32))]) C 7 11 rfl (by decide) [1, 2, 3, 4, 0] rfl ?_
  refine x_sub (lv' := [(0, .ref (aV 0)), (1, .ref (aB 0)), (2, .int p2), (3, .int (0 : Int32)), (4, .int (0 : Int32))]) [0, 1, 2, 3, 4] rfl (w_X6_statesAfter_13 C rt h)
theorem c_X6_statesAfter (l : Launch) (D : va_G) (k : ClassId × ClassId) (g : Nat → Nat) (aV aB : Nat → Nat) (sV : St) (sB : St) (p2 : Int32) (K : Int32 → St → Prop) (h : wp_X6_statesAfter sV sB p2 K) : ConI l yX6_statesAfter (Cond.code yX6_statesAfter cX6_statesAfter 5 (some .int) :: wsL_law) ({ frames := 3, cells := 0, slots := 0, locals := 76 } : Room) D k g [.ref (aV 0), .ref (aB 0), .int p2] (fl [wdV k aV sV, wdB k aB sB]) (fun (u : St) => fl [wdV k aV u, wdB k aB sB]) (fun (r : Int32) (u : St) => K r u) := by
  refine ConI.of (tb := tb_X6_statesAfter) (cc := cX6_statesAfter) (nL := 5) (by decide) rfl tbk_X6_statesAfter (Nat.le_of_ble_eq_true rfl) ?_
  intro x hl hD hk hg C rt
  subst hl hD hk hg
  exact w_X6_statesAfter C rt h
