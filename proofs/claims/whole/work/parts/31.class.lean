set_option maxHeartbeats 4000000 in
set_option maxRecDepth 100000 in
theorem w_X9_type {x : CT} {aX aT aB aD aR aK aM aJ aV aW : Nat → Nat} {sX : St} {sT : St} {sB : St} {sD : St} {sR : St} {sK : St} {sM : St} {sJ : St} {sV : St} {sW : Int64} {p1 : Int64} {p2 : Int32} {K : Int32 → St → Prop} (C : Cx x cX9_type tb_X9_type 4 RX9 (Cond.code yX9_type cX9_type 4 (some .int) :: wsL_law) ({ frames := 1, cells := 0, slots := 0, locals := 24 } : Room)) (rt : RetI x 0 0 (fun (u : St) => fl [wdX (xk x) aX aT aB aD aR aK aM aV aW sX, wdT (xk x) aT u, wdB (xk x) aB sB, wdB (xk x) aD sD, wdR (xk x) aR sR, wdK (xk x) aK sK, wdM (xk x) aM aJ sM, wdK (xk x) aJ sJ, wdV (xk x) aV sV, wdW (xk x) aW sW]) (fun (r : Int32) (u : St) => K r u)) (h : wp_X9_type sX sT sB sD sR sK sM sJ sV sW p1 p2 K) : Wx x 4 0 0 (fl [wdX (xk x) aX aT aB aD aR aK aM aV aW sX, wdT (xk x) aT sT, wdB (xk x) aB sB, wdB (xk x) aD sD, wdR (xk x) aR sR, wdK (xk x) aK sK, wdM (xk x) aM aJ sM, wdK (xk x) aJ sJ, wdV (xk x) aV sV, wdW (xk x) aW sW]) [(0, .ref (aX 0)), (1, .long p1), (3, .int p2)] 0 [] := by
  unfold wp_X9_type at h
  refine x_iload_n C 0 0 rfl 2 rfl rfl ?_
  refine x_iconst (v := (1 : Int32)) C 1 1 rfl (by decide) ?_
  refine x_icmp_lt C 2 2 11 rfl rfl (fun c1 => ?_) (fun c1 => ?_)
  · replace h := h.1 c1
    refine x_iconst (v := (-1 : Int32)) C 6 11 rfl (by decide) ?_
    exact x_iret C rt 7 12 rfl sT rfl h
  · replace h := h.2 c1
    refine x_iload_n C 3 5 rfl 2 rfl rfl ?_
    refine x_bipush (v := (8 : Int32)) C 4 6 rfl (by decide) ?_
    refine x_icmp_le C 5 8 13 rfl rfl (fun c2 => ?_) (fun c2 => ?_)
    · replace h := h.1 c2
      refine x_aload_n C 8 13 rfl 0 rfl rfl ?_
      refine x_get (v := .ref (aT 0)) C 9 14 rfl fi_X9 0 rfl rfl 0 (by decide) (mc wq_1_16) rfl ?_
      refine x_lload_n C 10 17 rfl 1 rfl rfl ?_
      refine x_iload_n C 11 18 rfl 2 rfl rfl ?_
      refine x_callGVZ (ci := 5) (q0 := 0) (q := (RX7, TX7, 8)) C 12 19 (c_X7_take (xl x) (xD x) (xk x) (xg x) aT sT p1 p2 _ h) rfl wwGood (mem4 wq_6_8 wq_6_9 wq_6_10 wq_1_15) wq_6_11 2 ok_X7_take rfl ⟨by decide, by decide⟩ (Nat.le_of_ble_eq_true rfl) ⟨Nat.le_refl _, Nat.le_refl _⟩ ⟨rfl, rfl⟩ rfl rfl [wdX (xk x) aX aT aB aD aR aK aM aV aW sX, wdB (xk x) aB sB, wdB (xk x) aD sD, wdR (xk x) aR sR, wdK (xk x) aK sK, wdM (xk x) aM aJ sM, wdK (xk x) aJ sJ, wdV (xk x) aV sV, wdW (xk x) aW sW] (fun (u : St) => [wdX (xk x) aX aT aB aD aR aK aM aV aW sX, wdT (xk x) aT u, wdB (xk x) aB sB, wdB (xk x) aD sD, wdR (xk x) aR sR, wdK (xk x) aK sK, wdM (xk x) aM aJ sM, wdK (xk x) aJ sJ, wdV (xk x) aV sV, wdW (xk x) aW sW]) [0, 2, 3, 4, 5, 6, 7, 8, 9, 1] [0, 9, 1, 2, 3, 4, 5, 6, 7, 8] (show List.Perm [0, 2, 3, 4, 5, 6, 7, 8, 9, 1] (List.range 10) by decide) rfl 10 (fun _ => rfl) (by decide) (fun _ => rfl) (fun r3 u3 h => ?_)
      refine x_if_eq C 13 22 35 rfl rfl (fun c4 => ?_) (fun c4 => ?_)
      · replace h := h.1 c4
        refine x_bipush (v := (-3 : Int32)) C 18 35 rfl (by decide) ?_
        exact x_iret C rt 19 37 rfl u3 rfl h
      · replace h := h.2 c4
        refine x_aload_n C 14 25 rfl 0 rfl rfl ?_
        refine x_get (v := .ref (aT 0)) C 15 26 rfl fi_X9 0 rfl rfl 0 (by decide) (mc wq_1_16) rfl ?_
        refine x_get (v := .int (u3 1 0)) C 16 29 rfl fi_X7 1 rfl rfl 1 (by decide) (mc wq_6_7) rfl ?_
        refine x_goto C 17 32 37 rfl rfl ?_
        exact x_iret C rt 19 37 rfl u3 rfl h
    · replace h := h.2 c2
      refine x_iconst (v := (-1 : Int32)) C 6 11 rfl (by decide) ?_
      exact x_iret C rt 7 12 rfl sT rfl h
theorem c_X9_type (l : Launch) (D : va_G) (k : ClassId × ClassId) (g : Nat → Nat) (aX aT aB aD aR aK aM aJ aV aW : Nat → Nat) (sX : St) (sT : St) (sB : St) (sD : St) (sR : St) (sK : St) (sM : St) (sJ : St) (sV : St) (sW : Int64) (p1 : Int64) (p2 : Int32) (K : Int32 → St → Prop) (h : wp_X9_type sX sT sB sD sR sK sM sJ sV sW p1 p2 K) : ConI l yX9_type (Cond.code yX9_type cX9_type 4 (some .int) :: wsL_law) ({ frames := 1, cells := 0, slots := 0, locals := 24 } : Room) D k g [.ref (aX 0), .long p1, .int p2] (fl [wdX k aX aT aB aD aR aK aM aV aW sX, wdT k aT sT, wdB k aB sB, wdB k aD sD, wdR k aR sR, wdK k aK sK, wdM k aM aJ sM, wdK k aJ sJ, wdV k aV sV, wdW k aW sW]) (fun (u : St) => fl [wdX k aX aT aB aD aR aK aM aV aW sX, wdT k aT u, wdB k aB sB, wdB k aD sD, wdR k aR sR, wdK k aK sK, wdM k aM aJ sM, wdK k aJ sJ, wdV k aV sV, wdW k aW sW]) (fun (r : Int32) (u : St) => K r u) := by
  refine ConI.of (tb := tb_X9_type) (cc := cX9_type) (nL := 4) (by decide) rfl tbk_X9_type (Nat.le_of_ble_eq_true rfl) ?_
  intro x hl hD hk hg C rt
  subst hl hD hk hg
  exact w_X9_type C rt h
set_option maxHeartbeats 4000000 in
set_option maxRecDepth 100000 in
theorem w_X9_clear {x : CT} {aX aT aB aD aR aK aM aJ aV aW : Nat → Nat} {sX : St} {sT : St} {sB : St} {sD : St} {sR : St} {sK : St} {sM : St} {sJ : St} {sV : St} {sW : Int64} {K : Int32 → St → Prop} (C : Cx x cX9_clear tb_X9_clear 1 RX9 (Cond.code yX9_clear cX9_clear 1 (some .int) :: wsL_law) ({ frames := 1, cells := 0, slots := 0, locals := 21 } : Room)) (rt : RetI x 0 0 (fun (u : St) => fl [wdX (xk x) aX aT aB aD aR aK aM aV aW sX, wdT (xk x) aT u, wdB (xk x) aB sB, wdB (xk x) aD sD, wdR (xk x) aR sR, wdK (xk x) aK sK, wdM (xk x) aM aJ sM, wdK (xk x) aJ sJ, wdV (xk x) aV sV, wdW (xk x) aW sW]) (fun (r : Int32) (u : St) => K r u)) (h : wp_X9_clear sX sT sB sD sR sK sM sJ sV sW K) : Wx x 1 0 0 (fl [wdX (xk x) aX aT aB aD aR aK aM aV aW sX, wdT (xk x) aT sT, wdB (xk x) aB sB, wdB (xk x) aD sD, wdR (xk x) aR sR, wdK (xk x) aK sK, wdM (xk x) aM aJ sM, wdK (xk x) aJ sJ, wdV (xk x) aV sV, wdW (xk x) aW sW]) [(0, .ref (aX 0))] 0 [] := by
  unfold wp_X9_clear at h
  refine x_aload_n C 0 0 rfl 0 rfl rfl ?_
  refine x_get (v := .ref (aT 0)) C 1 1 rfl fi_X9 0 rfl rfl 0 (by decide) (mc wq_1_16) rfl ?_
  refine x_callGVI (ci := 5) (q0 := 0) (q := (RX7, TX7, 8)) C 2 4 (c_X7_empty (xl x) (xD x) (xk x) (xg x) aT sT _ h) rfl wwGood (mem4 wq_7_4 wq_7_5 wq_7_6 wq_1_15) wq_7_7 0 ok_X7_empty rfl ⟨by decide, by decide⟩ (Nat.le_of_ble_eq_true rfl) ⟨Nat.le_refl _, Nat.le_refl _⟩ ⟨rfl, rfl⟩ rfl rfl [wdX (xk x) aX aT aB aD aR aK aM aV aW sX, wdB (xk x) aB sB, wdB (xk x) aD sD, wdR (xk x) aR sR, wdK (xk x) aK sK, wdM (xk x) aM aJ sM, wdK (xk x) aJ sJ, wdV (xk x) aV sV, wdW (xk x) aW sW] (fun (u : St) => [wdX (xk x) aX aT aB aD aR aK aM aV aW sX, wdT (xk x) aT u, wdB (xk x) aB sB, wdB (xk x) aD sD, wdR (xk x) aR sR, wdK (xk x) aK sK, wdM (xk x) aM aJ sM, wdK (xk x) aJ sJ, wdV (xk x) aV sV, wdW (xk x) aW sW]) [0, 2, 3, 4, 5, 6, 7, 8, 9, 1] [0, 9, 1, 2, 3, 4, 5, 6, 7, 8] (show List.Perm [0, 2, 3, 4, 5, 6, 7, 8, 9, 1] (List.range 10) by decide) rfl 10 (fun _ => rfl) (by decide) (fun _ => rfl) (fun r1 u1 h => ?_)
  exact x_iret C rt 3 7 rfl u1 rfl h
theorem c_X9_clear (l : Launch) (D : va_G) (k : ClassId × ClassId) (g : Nat → Nat) (aX aT aB aD aR aK aM aJ aV aW : Nat → Nat) (sX : St) (sT : St) (sB : St) (sD : St) (sR : St) (sK : St) (sM : St) (sJ : St) (sV : St) (sW : Int64) (K : Int32 → St → Prop) (h : wp_X9_clear sX sT sB sD sR sK sM sJ sV sW K) : ConI l yX9_clear (Cond.code yX9_clear cX9_clear 1 (some .int) :: wsL_law) ({ frames := 1, cells := 0, slots := 0, locals := 21 } : Room) D k g [.ref (aX 0)] (fl [wdX k aX aT aB aD aR aK aM aV aW sX, wdT k aT sT, wdB k aB sB, wdB k aD sD, wdR k aR sR, wdK k aK sK, wdM k aM aJ sM, wdK k aJ sJ, wdV k aV sV, wdW k aW sW]) (fun (u : St) => fl [wdX k aX aT aB aD aR aK aM aV aW sX, wdT k aT u, wdB k aB sB, wdB k aD sD, wdR k aR sR, wdK k aK sK, wdM k aM aJ sM, wdK k aJ sJ, wdV k aV sV, wdW k aW sW]) (fun (r : Int32) (u : St) => K r u) := by
  refine ConI.of (tb := tb_X9_clear) (cc := cX9_clear) (nL := 1) (by decide) rfl tbk_X9_clear (Nat.le_of_ble_eq_true rfl) ?_
  intro x hl hD hk hg C rt
  subst hl hD hk hg
  exact w_X9_clear C rt h
set_option maxHeartbeats 4000000 in
set_option maxRecDepth 100000 in
theorem w_X9_forgetWhatFollows {x : CT} {aX aT aB aD aR aK aM aJ aV aW : Nat → Nat} {sX : St} {sT : St} {sB : St} {sD : St} {sR : St} {sK : St} {sM : St} {sJ : St} {sV : St} {sW : Int64} {K : (St × St) → Prop} (C : Cx x cX9_forgetWhatFollows tb_X9_forgetWhatFollows 1 RX9 (Cond.code yX9_forgetWhatFollows cX9_forgetWhatFollows 1 none :: wsL_law) ({ frames := 1, cells := 0, slots := 0, locals := 20 } : Room)) (rt : RetV x 0 0 (fun (u : St × St) => fl [wdX (xk x) aX aT aB aD aR aK aM aV aW u.1, wdT (xk x) aT sT, wdB (xk x) aB sB, wdB (xk x) aD sD, wdR (xk x) aR sR, wdK (xk x) aK sK, wdM (xk x) aM aJ u.2, wdK (xk x) aJ sJ, wdV (xk x) aV sV, wdW (xk x) aW sW]) (fun (u : St × St) => K u)) (h : wp_X9_forgetWhatFollows sX sT sB sD sR sK sM sJ sV sW K) : Wx x 1 0 0 (fl [wdX (xk x) aX aT aB aD aR aK aM aV aW sX, wdT (xk x) aT sT, wdB (xk x) aB sB, wdB (xk x) aD sD, wdR (xk x) aR sR, wdK (xk x) aK sK, wdM (xk x) aM aJ sM, wdK (xk x) aJ sJ, wdV (xk x) aV sV, wdW (xk x) aW sW]) [(0, .ref (aX 0))] 0 [] := by
  unfold wp_X9_forgetWhatFollows at h
  refine x_aload_n C 0 0 rfl 0 rfl rfl ?_
  refine x_iconst (v := (0 : Int32)) C 1 1 rfl (by decide) ?_
  obtain ⟨z1, ez1⟩ : ∃ z : St, z = us sX 8 (0 : Int32) := ⟨_, rfl⟩
  replace h := h z1 ez1
  refine x_put (ws' := fl [wdX (xk x) aX aT aB aD aR aK aM aV aW z1, wdT (xk x) aT sT, wdB (xk x) aB sB, wdB (xk x) aD sD, wdR (xk x) aR sR, wdK (xk x) aK sK, wdM (xk x) aM aJ sM, wdK (xk x) aJ sJ, wdV (xk x) aV sV, wdW (xk x) aW sW]) C 2 2 rfl fi_X9 tyX9 tyX9_ok nmX9 0 rfl rfl 8 (by decide) (mc wq_2_18) rfl (zb_n zb_0) (zb_f zb_0) (Nat.le_of_ble_eq_true rfl) (by rw [ez1]; rfl) ?_
  refine x_aload_n C 3 5 rfl 0 rfl rfl ?_
  refine x_get (v := .ref (aM 0)) C 4 6 rfl fi_X9 0 rfl rfl 5 (by decide) (mc wq_2_9) rfl ?_
  refine x_callGVV (ci := 2) (q0 := 0) (q := (RX4, TX4, 8)) C 5 9 (c_X4_forget (xl x) (xD x) (xk x) (xg x) aM aJ sM sJ _ h) rfl wwGood (mem4 wq_13_18 wq_13_19 wq_13_20 wq_2_8) wq_13_21 0 ok_X4_forget rfl ⟨by decide, by decide⟩ (Nat.le_of_ble_eq_true rfl) ⟨Nat.le_refl _, Nat.le_refl _⟩ ⟨rfl, rfl⟩ rfl rfl [wdX (xk x) aX aT aB aD aR aK aM aV aW z1, wdT (xk x) aT sT, wdB (xk x) aB sB, wdB (xk x) aD sD, wdR (xk x) aR sR, wdK (xk x) aK sK, wdV (xk x) aV sV, wdW (xk x) aW sW] (fun (u : St) => [wdX (xk x) aX aT aB aD aR aK aM aV aW z1, wdT (xk x) aT sT, wdB (xk x) aB sB, wdB (xk x) aD sD, wdR (xk x) aR sR, wdK (xk x) aK sK, wdM (xk x) aM aJ u, wdK (xk x) aJ sJ, wdV (xk x) aV sV, wdW (xk x) aW sW]) [0, 1, 2, 3, 4, 5, 8, 9, 6, 7] [0, 1, 2, 3, 4, 5, 8, 9, 6, 7] (show List.Perm [0, 1, 2, 3, 4, 5, 8, 9, 6, 7] (List.range 10) by decide) rfl 10 (fun _ => rfl) (by decide) (fun _ => rfl) (fun u2 h => ?_)
  exact x_vret C rt 6 12 rfl (z1, u2) rfl h
theorem c_X9_forgetWhatFollows (l : Launch) (D : va_G) (k : ClassId × ClassId) (g : Nat → Nat) (aX aT aB aD aR aK aM aJ aV aW : Nat → Nat) (sX : St) (sT : St) (sB : St) (sD : St) (sR : St) (sK : St) (sM : St) (sJ : St) (sV : St) (sW : Int64) (K : (St × St) → Prop) (h : wp_X9_forgetWhatFollows sX sT sB sD sR sK sM sJ sV sW K) : ConV l yX9_forgetWhatFollows (Cond.code yX9_forgetWhatFollows cX9_forgetWhatFollows 1 none :: wsL_law) ({ frames := 1, cells := 0, slots := 0, locals := 20 } : Room) D k g [.ref (aX 0)] (fl [wdX k aX aT aB aD aR aK aM aV aW sX, wdT k aT sT, wdB k aB sB, wdB k aD sD, wdR k aR sR, wdK k aK sK, wdM k aM aJ sM, wdK k aJ sJ, wdV k aV sV, wdW k aW sW]) (fun (u : St × St) => fl [wdX k aX aT aB aD aR aK aM aV aW u.1, wdT k aT sT, wdB k aB sB, wdB k aD sD, wdR k aR sR, wdK k aK sK, wdM k aM aJ u.2, wdK k aJ sJ, wdV k aV sV, wdW k aW sW]) (fun (u : St × St) => K u) := by
  refine ConV.of (tb := tb_X9_forgetWhatFollows) (cc := cX9_forgetWhatFollows) (nL := 1) (by decide) rfl tbk_X9_forgetWhatFollows (Nat.le_of_ble_eq_true rfl) ?_
  intro x hl hD hk hg C rt
  subst hl hD hk hg
  exact w_X9_forgetWhatFollows C rt h
set_option maxHeartbeats 4000000 in
set_option maxRecDepth 100000 in
theorem w_X9_read {x : CT} {aX aT aB aD aR aK aM aJ aV aW : Nat → Nat} {sX : St} {sT : St} {sB : St} {sD : St} {sR : St} {sK : St} {sM : St} {sJ : St} {sV : St} {sW : Int64} {K : Int32 → (St × St × St × St × St × St) → Prop} (C : Cx x cX9_read tb_X9_read 2 RX9 (Cond.code yX9_read cX9_read 2 (some .int) :: wsL_law) ({ frames := 10, cells := 0, slots := 0, locals := 255 } : Room)) (rt : RetI x 0 0 (fun (u : St × St × St × St × St × St) => fl [wdX (xk x) aX aT aB aD aR aK aM aV aW u.1, wdT (xk x) aT u.2.1, wdB (xk x) aB u.2.2.1, wdB (xk x) aD u.2.2.2.1, wdR (xk x) aR u.2.2.2.2.1, wdK (xk x) aK sK, wdM (xk x) aM aJ u.2.2.2.2.2, wdK (xk x) aJ sJ, wdV (xk x) aV sV, wdW (xk x) aW sW]) (fun (r : Int32) (u : St × St × St × St × St × St) => K r u)) (h : wp_X9_read sX sT sB sD sR sK sM sJ sV sW K) : Wx x 2 0 0 (fl [wdX (xk x) aX aT aB aD aR aK aM aV aW sX, wdT (xk x) aT sT, wdB (xk x) aB sB, wdB (xk x) aD sD, wdR (xk x) aR sR, wdK (xk x) aK sK, wdM (xk x) aM aJ sM, wdK (xk x) aJ sJ, wdV (xk x) aV sV, wdW (xk x) aW sW]) [(0, .ref (aX 0))] 0 [] := by
  unfold wp_X9_read at h
  refine x_aload_n C 0 0 rfl 0 rfl rfl ?_
  refine x_get (v := .ref (aT 0)) C 1 1 rfl fi_X9 0 rfl rfl 0 (by decide) (mc wq_1_16) rfl ?_
  refine x_aload_n C 2 4 rfl 0 rfl rfl ?_
  refine x_get (v := .ref (aD 0)) C 3 5 rfl fi_X9 0 rfl rfl 2 (by decide) (mc wq_1_21) rfl ?_
  refine x_callGVI (ci := 5) (q0 := 0) (q := (RX7, TX7, 8)) C 4 8 (c_X7_readInto (xl x) (xD x) (xk x) (xg x) aT aD sT sD _ h) rfl wwGood (mem4 wq_7_16 wq_7_17 wq_7_18 wq_1_15) wq_7_19 1 ok_X7_readInto rfl ⟨by decide, by decide⟩ (Nat.le_of_ble_eq_true rfl) ⟨Nat.le_refl _, Nat.le_refl _⟩ ⟨rfl, rfl⟩ rfl rfl [wdX (xk x) aX aT aB aD aR aK aM aV aW sX, wdB (xk x) aB sB, wdR (xk x) aR sR, wdK (xk x) aK sK, wdM (xk x) aM aJ sM, wdK (xk x) aJ sJ, wdV (xk x) aV sV, wdW (xk x) aW sW] (fun (u : St × St) => [wdX (xk x) aX aT aB aD aR aK aM aV aW sX, wdT (xk x) aT u.1, wdB (xk x) aB sB, wdB (xk x) aD u.2, wdR (xk x) aR sR, wdK (xk x) aK sK, wdM (xk x) aM aJ sM, wdK (xk x) aJ sJ, wdV (xk x) aV sV, wdW (xk x) aW sW]) [0, 2, 4, 5, 6, 7, 8, 9, 1, 3] [0, 8, 1, 9, 2, 3, 4, 5, 6, 7] (show List.Perm [0, 2, 4, 5, 6, 7, 8, 9, 1, 3] (List.range 10) by decide) rfl 10 (fun _ => rfl) (by decide) (fun _ => rfl) (fun r1 u1 h => ?_)
  refine x_istore_n (lv' := [(0, .ref (aX 0)), (1, .int r1)]) C 5 11 rfl rfl (by decide) [1, 0] rfl ?_
  refine x_iload_n C 6 12 rfl 1 rfl rfl ?_
  refine x_if_lt C 7 13 47 rfl rfl (fun c2 => ?_) (fun c2 => ?_)
  · replace h := h.1 c2
    refine x_iload_n C 23 47 rfl 1 rfl rfl ?_
    exact x_iret C rt 24 48 rfl (sX, u1.1, sB, u1.2, sR, sM) rfl h
  · replace h := h.2 c2
    refine x_aload_n C 8 16 rfl 0 rfl rfl ?_
    refine x_get (v := .ref (aB 0)) C 9 17 rfl fi_X9 0 rfl rfl 1 (by decide) (mc wq_1_20) rfl ?_
    refine x_aload_n C 10 20 rfl 0 rfl rfl ?_
    refine x_get (v := .ref (aD 0)) C 11 21 rfl fi_X9 0 rfl rfl 2 (by decide) (mc wq_1_21) rfl ?_
    refine x_callGVV (ci := 0) (q0 := 0) (q := (RX1, TX1, 5)) C 12 24 (c_X1_copyFrom (xl x) (xD x) (xk x) (xg x) aB aD sB u1.2 _ h) rfl wwGood (mem4 wq_13_1 wq_13_2 wq_13_3 wq_1_19) wq_13_4 1 ok_X1_copyFrom rfl ⟨by decide, by decide⟩ (Nat.le_of_ble_eq_true rfl) ⟨Nat.le_refl _, Nat.le_refl _⟩ ⟨rfl, rfl⟩ rfl rfl [wdX (xk x) aX aT aB aD aR aK aM aV aW sX, wdT (xk x) aT u1.1, wdR (xk x) aR sR, wdK (xk x) aK sK, wdM (xk x) aM aJ sM, wdK (xk x) aJ sJ, wdV (xk x) aV sV, wdW (xk x) aW sW] (fun (u : St) => [wdX (xk x) aX aT aB aD aR aK aM aV aW sX, wdT (xk x) aT u1.1, wdB (xk x) aB u, wdB (xk x) aD u1.2, wdR (xk x) aR sR, wdK (xk x) aK sK, wdM (xk x) aM aJ sM, wdK (xk x) aJ sJ, wdV (xk x) aV sV, wdW (xk x) aW sW]) [0, 1, 4, 5, 6, 7, 8, 9, 2, 3] [0, 1, 8, 9, 2, 3, 4, 5, 6, 7] (show List.Perm [0, 1, 4, 5, 6, 7, 8, 9, 2, 3] (List.range 10) by decide) rfl 10 (fun _ => rfl) (by decide) (fun _ => rfl) (fun u3 h => ?_)
    refine x_aload_n C 13 27 rfl 0 rfl rfl ?_
    refine x_get (v := .ref (aR 0)) C 14 28 rfl fi_X9 0 rfl rfl 3 (by decide) (mc wq_2_1) rfl ?_
    refine x_callGVI (ci := 3) (q0 := 0) (q := (RX5, TX5, 2)) C 15 31 (c_X5_empty (xl x) (xD x) (xk x) (xg x) aR sR _ h) rfl wwGood (mem4 wq_13_9 wq_13_10 wq_13_11 wq_2_0) wq_13_12 0 ok_X5_empty rfl ⟨by decide, by decide⟩ (Nat.le_of_ble_eq_true rfl) ⟨Nat.le_refl _, Nat.le_refl _⟩ ⟨rfl, rfl⟩ rfl rfl [wdX (xk x) aX aT aB aD aR aK aM aV aW sX, wdT (xk x) aT u1.1, wdB (xk x) aB u3, wdB (xk x) aD u1.2, wdK (xk x) aK sK, wdM (xk x) aM aJ sM, wdK (xk x) aJ sJ, wdV (xk x) aV sV, wdW (xk x) aW sW] (fun (u : St) => [wdX (xk x) aX aT aB aD aR aK aM aV aW sX, wdT (xk x) aT u1.1, wdB (xk x) aB u3, wdB (xk x) aD u1.2, wdR (xk x) aR u, wdK (xk x) aK sK, wdM (xk x) aM aJ sM, wdK (xk x) aJ sJ, wdV (xk x) aV sV, wdW (xk x) aW sW]) [0, 1, 2, 3, 5, 6, 7, 8, 9, 4] [0, 1, 2, 3, 9, 4, 5, 6, 7, 8] (show List.Perm [0, 1, 2, 3, 5, 6, 7, 8, 9, 4] (List.range 10) by decide) rfl 10 (fun _ => rfl) (by decide) (fun _ => rfl) (fun r4 u4 h => ?_)
    refine x_pop C 16 34 rfl rfl ?_
    refine x_aload_n C 17 35 rfl 0 rfl rfl ?_
    refine x_get (v := .ref (aT 0)) C 18 36 rfl fi_X9 0 rfl rfl 0 (by decide) (mc wq_1_16) rfl ?_
    refine x_callGVI (ci := 5) (q0 := 0) (q := (RX7, TX7, 8)) C 19 39 (c_X7_empty (xl x) (xD x) (xk x) (xg x) aT u1.1 _ h) rfl wwGood (mem4 wq_7_4 wq_7_5 wq_7_6 wq_1_15) wq_7_7 0 ok_X7_empty rfl ⟨by decide, by decide⟩ (Nat.le_of_ble_eq_true rfl) ⟨Nat.le_refl _, Nat.le_refl _⟩ ⟨rfl, rfl⟩ rfl rfl [wdX (xk x) aX aT aB aD aR aK aM aV aW sX, wdB (xk x) aB u3, wdB (xk x) aD u1.2, wdR (xk x) aR u4, wdK (xk x) aK sK, wdM (xk x) aM aJ sM, wdK (xk x) aJ sJ, wdV (xk x) aV sV, wdW (xk x) aW sW] (fun (u : St) => [wdX (xk x) aX aT aB aD aR aK aM aV aW sX, wdT (xk x) aT u, wdB (xk x) aB u3, wdB (xk x) aD u1.2, wdR (xk x) aR u4, wdK (xk x) aK sK, wdM (xk x) aM aJ sM, wdK (xk x) aJ sJ, wdV (xk x) aV sV, wdW (xk x) aW sW]) [0, 2, 3, 4, 5, 6, 7, 8, 9, 1] [0, 9, 1, 2, 3, 4, 5, 6, 7, 8] (show List.Perm [0, 2, 3, 4, 5, 6, 7, 8, 9, 1] (List.range 10) by decide) rfl 10 (fun _ => rfl) (by decide) (fun _ => rfl) (fun r5 u5 h => ?_)
    refine x_pop C 20 42 rfl rfl ?_
    refine x_aload_n C 21 43 rfl 0 rfl rfl ?_
    refine x_callWVV (ci := 7) (q0 := 0) (q := (RX9, TX9, 9)) C 22 44 (c_X9_forgetWhatFollows (xl x) (xD x) (xk x) (xg x) aX aT aB aD aR aK aM aJ aV aW sX u5 u3 u1.2 u4 sK sM sJ sV sW _ h) rfl wwGood (mem4 wq_13_14 wq_13_15 wq_13_16 wq_1_2) wq_13_17 0 ok_X9_forgetWhatFollows rfl ⟨by decide, by decide⟩ (Nat.le_of_ble_eq_true rfl) ⟨Nat.le_refl _, Nat.le_refl _⟩ ⟨rfl, rfl⟩ rfl rfl rfl (fun u6 h => ?_)
    refine x_iload_n C 23 47 rfl 1 rfl rfl ?_
    exact x_iret C rt 24 48 rfl (u6.1, u5, u3, u1.2, u4, u6.2) rfl h
theorem c_X9_read (l : Launch) (D : va_G) (k : ClassId × ClassId) (g : Nat → Nat) (aX aT aB aD aR aK aM aJ aV aW : Nat → Nat) (sX : St) (sT : St) (sB : St) (sD : St) (sR : St) (sK : St) (sM : St) (sJ : St) (sV : St) (sW : Int64) (K : Int32 → (St × St × St × St × St × St) → Prop) (h : wp_X9_read sX sT sB sD sR sK sM sJ sV sW K) : ConI l yX9_read (Cond.code yX9_read cX9_read 2 (some .int) :: wsL_law) ({ frames := 10, cells := 0, slots := 0, locals := 255 } : Room) D k g [.ref (aX 0)] (fl [wdX k aX aT aB aD aR aK aM aV aW sX, wdT k aT sT, wdB k aB sB, wdB k aD sD, wdR k aR sR, wdK k aK sK, wdM k aM aJ sM, wdK k aJ sJ, wdV k aV sV, wdW k aW sW]) (fun (u : St × St × St × St × St × St) => fl [wdX k aX aT aB aD aR aK aM aV aW u.1, wdT k aT u.2.1, wdB k aB u.2.2.1, wdB k aD u.2.2.2.1, wdR k aR u.2.2.2.2.1, wdK k aK sK, wdM k aM aJ u.2.2.2.2.2, wdK k aJ sJ, wdV k aV sV, wdW k aW sW]) (fun (r : Int32) (u : St × St × St × St × St × St) => K r u) := by
  refine ConI.of (tb := tb_X9_read) (cc := cX9_read) (nL := 2) (by decide) rfl tbk_X9_read (Nat.le_of_ble_eq_true rfl) ?_
  intro x hl hD hk hg C rt
  subst hl hD hk hg
  exact w_X9_read C rt h
set_option maxHeartbeats 4000000 in
set_option maxRecDepth 100000 in
theorem w_X9_isAct {x : CT} {p1 : Int32} {K : Int32 → Prop} (C : Cx x cX9_isAct tb_X9_isAct 1 RX9 (Cond.code yX9_isAct cX9_isAct 1 (some .boolean) :: wsL_law) ({ frames := 0, cells := 0, slots := 0, locals := 0 } : Room)) (rt : RetZ x 0 0 (fun (u : Unit) => fl []) (fun (r : Int32) (_ : Unit) => K r)) (h : wp_X9_isAct p1 K) : Wx x 1 0 0 (fl []) [(0, .int p1)] 0 [] := by
  unfold wp_X9_isAct at h
  refine x_iload_n C 0 0 rfl 0 rfl rfl ?_
  refine x_if_lt C 1 1 13 rfl rfl (fun c1 => ?_) (fun c1 => ?_)
  · replace h := h.1 c1
    refine x_iconst (v := (0 : Int32)) C 7 13 rfl (by decide) ?_
    exact x_zret C rt 8 14 rfl zb_0 () rfl h
  · replace h := h.2 c1
    refine x_iload_n C 2 4 rfl 0 rfl rfl ?_
    refine x_iconst (v := (4 : Int32)) C 3 5 rfl (by decide) ?_
    refine x_icmp_ge C 4 6 13 rfl rfl (fun c2 => ?_) (fun c2 => ?_)
    · replace h := h.1 c2
      refine x_iconst (v := (0 : Int32)) C 7 13 rfl (by decide) ?_
      exact x_zret C rt 8 14 rfl zb_0 () rfl h
    · replace h := h.2 c2
      refine x_iconst (v := (1 : Int32)) C 5 9 rfl (by decide) ?_
      refine x_goto C 6 10 14 rfl rfl ?_
      exact x_zret C rt 8 14 rfl zb_1 () rfl h
theorem c_X9_isAct (l : Launch) (D : va_G) (k : ClassId × ClassId) (g : Nat → Nat) (p1 : Int32) (K : Int32 → Prop) (h : wp_X9_isAct p1 K) : ConZ l yX9_isAct (Cond.code yX9_isAct cX9_isAct 1 (some .boolean) :: wsL_law) ({ frames := 0, cells := 0, slots := 0, locals := 0 } : Room) D k g [.int p1] (fl []) (fun (u : Unit) => fl []) (fun (r : Int32) (_ : Unit) => K r) := by
  refine ConZ.of (tb := tb_X9_isAct) (cc := cX9_isAct) (nL := 1) (by decide) rfl tbk_X9_isAct (Nat.le_of_ble_eq_true rfl) ?_
  intro x hl hD hk hg C rt
  subst hl hD hk hg
  exact w_X9_isAct C rt h
set_option maxHeartbeats 4000000 in
set_option maxRecDepth 100000 in
theorem w_X9_places {x : CT} {aX aT aB aD aR aK aM aJ aV aW : Nat → Nat} {sX : St} {sT : St} {sB : St} {sD : St} {sR : St} {sK : St} {sM : St} {sJ : St} {sV : St} {sW : Int64} {p1 : Int32} {K : Int32 → Prop} (C : Cx x cX9_places tb_X9_places 2 RX9 (Cond.code yX9_places cX9_places 2 (some .int) :: wsL_law) ({ frames := 1, cells := 0, slots := 0, locals := 20 } : Room)) (rt : RetI x 0 0 (fun (u : Unit) => fl [wdX (xk x) aX aT aB aD aR aK aM aV aW sX, wdT (xk x) aT sT, wdB (xk x) aB sB, wdB (xk x) aD sD, wdR (xk x) aR sR, wdK (xk x) aK sK, wdM (xk x) aM aJ sM, wdK (xk x) aJ sJ, wdV (xk x) aV sV, wdW (xk x) aW sW]) (fun (r : Int32) (_ : Unit) => K r)) (h : wp_X9_places sX sT sB sD sR sK sM sJ sV sW p1 K) : Wx x 2 0 0 (fl [wdX (xk x) aX aT aB aD aR aK aM aV aW sX, wdT (xk x) aT sT, wdB (xk x) aB sB, wdB (xk x) aD sD, wdR (xk x) aR sR, wdK (xk x) aK sK, wdM (xk x) aM aJ sM, wdK (xk x) aJ sJ, wdV (xk x) aV sV, wdW (xk x) aW sW]) [(0, .ref (aX 0)), (1, .int p1)] 0 [] := by
  unfold wp_X9_places at h
  refine x_iload_n C 0 0 rfl 1 rfl rfl ?_
  refine x_call0SZ C 1 1 (c_X9_isAct (xl x) (xD x) (xk x) (xg x) p1 _ h) rfl wwGood (mem3 wq_16_5 wq_16_6 wq_1_2) wq_16_7 1 ok_X9_isAct rfl ⟨by decide, by decide⟩ (Nat.le_of_ble_eq_true rfl) ⟨Nat.le_refl _, Nat.le_refl _⟩ ⟨rfl, rfl⟩ rfl (fun r1 _ h => ?_)
  refine x_if_eq C 2 4 19 rfl rfl (fun c2 => ?_) (fun c2 => ?_)
  · replace h := h.1 c2
    refine x_iconst (v := (-1 : Int32)) C 9 19 rfl (by decide) ?_
    exact x_iret C rt 10 20 rfl () rfl h
  · replace h := h.2 c2
    refine x_aload_n C 3 7 rfl 0 rfl rfl ?_
    refine x_get (v := .ref (aB 0)) C 4 8 rfl fi_X9 0 rfl rfl 1 (by decide) (mc wq_1_20) rfl ?_
    refine x_get (v := .ref (aB 1)) C 5 11 rfl fi_X1 3 rfl rfl 0 (by decide) (mc wq_16_4) rfl ?_
    refine x_iload_n C 6 14 rfl 1 rfl rfl ?_
    obtain ⟨hi, h⟩ := h
    refine x_iald (f := sB 0) C 7 15 rfl 4 rfl hi ?_
    refine x_goto C 8 16 20 rfl rfl ?_
    exact x_iret C rt 10 20 rfl () rfl h
theorem c_X9_places (l : Launch) (D : va_G) (k : ClassId × ClassId) (g : Nat → Nat) (aX aT aB aD aR aK aM aJ aV aW : Nat → Nat) (sX : St) (sT : St) (sB : St) (sD : St) (sR : St) (sK : St) (sM : St) (sJ : St) (sV : St) (sW : Int64) (p1 : Int32) (K : Int32 → Prop) (h : wp_X9_places sX sT sB sD sR sK sM sJ sV sW p1 K) : ConI l yX9_places (Cond.code yX9_places cX9_places 2 (some .int) :: wsL_law) ({ frames := 1, cells := 0, slots := 0, locals := 20 } : Room) D k g [.ref (aX 0), .int p1] (fl [wdX k aX aT aB aD aR aK aM aV aW sX, wdT k aT sT, wdB k aB sB, wdB k aD sD, wdR k aR sR, wdK k aK sK, wdM k aM aJ sM, wdK k aJ sJ, wdV k aV sV, wdW k aW sW]) (fun (u : Unit) => fl [wdX k aX aT aB aD aR aK aM aV aW sX, wdT k aT sT, wdB k aB sB, wdB k aD sD, wdR k aR sR, wdK k aK sK, wdM k aM aJ sM, wdK k aJ sJ, wdV k aV sV, wdW k aW sW]) (fun (r : Int32) (_ : Unit) => K r) := by
  refine ConI.of (tb := tb_X9_places) (cc := cX9_places) (nL := 2) (by decide) rfl tbk_X9_places (Nat.le_of_ble_eq_true rfl) ?_
  intro x hl hD hk hg C rt
  subst hl hD hk hg
  exact w_X9_places C rt h
set_option maxHeartbeats 4000000 in
set_option maxRecDepth 100000 in
theorem w_X9_call {x : CT} {aX aT aB aD aR aK aM aJ aV aW : Nat → Nat} {sX : St} {sT : St} {sB : St} {sD : St} {sR : St} {sK : St} {sM : St} {sJ : St} {sV : St} {sW : Int64} {p1 : Int32} {p2 : Int32} {K : Int32 → Prop} (C : Cx x cX9_call tb_X9_call 3 RX9 (Cond.code yX9_call cX9_call 3 (some .int) :: wsL_law) ({ frames := 1, cells := 0, slots := 0, locals := 22 } : Room)) (rt : RetI x 0 0 (fun (u : Unit) => fl [wdX (xk x) aX aT aB aD aR aK aM aV aW sX, wdT (xk x) aT sT, wdB (xk x) aB sB, wdB (xk x) aD sD, wdR (xk x) aR sR, wdK (xk x) aK sK, wdM (xk x) aM aJ sM, wdK (xk x) aJ sJ, wdV (xk x) aV sV, wdW (xk x) aW sW]) (fun (r : Int32) (_ : Unit) => K r)) (h : wp_X9_call sX sT sB sD sR sK sM sJ sV sW p1 p2 K) : Wx x 3 0 0 (fl [wdX (xk x) aX aT aB aD aR aK aM aV aW sX, wdT (xk x) aT sT, wdB (xk x) aB sB, wdB (xk x) aD sD, wdR (xk x) aR sR, wdK (xk x) aK sK, wdM (xk x) aM aJ sM, wdK (xk x) aJ sJ, wdV (xk x) aV sV, wdW (xk x) aW sW]) [(0, .ref (aX 0)), (1, .int p1), (2, .int p2)] 0 [] := by
  unfold wp_X9_call at h
  refine x_aload_n C 0 0 rfl 0 rfl rfl ?_
  refine x_get (v := .ref (aB 0)) C 1 1 rfl fi_X9 0 rfl rfl 1 (by decide) (mc wq_1_20) rfl ?_
  refine x_iload_n C 2 4 rfl 1 rfl rfl ?_
  refine x_callGVZ (ci := 0) (q0 := 0) (q := (RX1, TX1, 5)) C 3 5 (c_X1_hasCall (xl x) (xD x) (xk x) (xg x) aB sB p1 _ h) rfl wwGood (mem4 wq_16_23 wq_17_0 wq_17_1 wq_1_19) wq_17_2 1 ok_X1_hasCall rfl ⟨by decide, by decide⟩ (Nat.le_of_ble_eq_true rfl) ⟨Nat.le_refl _, Nat.le_refl _⟩ ⟨rfl, rfl⟩ rfl rfl [wdX (xk x) aX aT aB aD aR aK aM aV aW sX, wdT (xk x) aT sT, wdB (xk x) aD sD, wdR (xk x) aR sR, wdK (xk x) aK sK, wdM (xk x) aM aJ sM, wdK (xk x) aJ sJ, wdV (xk x) aV sV, wdW (xk x) aW sW] (fun (u : Unit) => [wdX (xk x) aX aT aB aD aR aK aM aV aW sX, wdT (xk x) aT sT, wdB (xk x) aB sB, wdB (xk x) aD sD, wdR (xk x) aR sR, wdK (xk x) aK sK, wdM (xk x) aM aJ sM, wdK (xk x) aJ sJ, wdV (xk x) aV sV, wdW (xk x) aW sW]) [0, 1, 3, 4, 5, 6, 7, 8, 9, 2] [0, 1, 9, 2, 3, 4, 5, 6, 7, 8] (show List.Perm [0, 1, 3, 4, 5, 6, 7, 8, 9, 2] (List.range 10) by decide) rfl 10 (fun _ => rfl) (by decide) (fun _ => rfl) (fun r1 _ h => ?_)
  refine x_if_ne C 4 8 13 rfl rfl (fun c2 => ?_) (fun c2 => ?_)
  · replace h := h.2 c2
    refine x_iload_n C 7 13 rfl 2 rfl rfl ?_
    by_cases c3 : p2 = (0 : Int32)
    · replace h := h.1 c3
      refine x_tabIn C 8 14 40 0 rfl (0 : Int32) c3 (by decide) (by decide) rfl rfl ?_
      refine x_aload_n C 9 40 rfl 0 rfl rfl ?_
      refine x_get (v := .ref (aB 0)) C 10 41 rfl fi_X9 0 rfl rfl 1 (by decide) (mc wq_1_20) rfl ?_
      refine x_get (v := .ref (aB 2)) C 11 44 rfl fi_X1 3 rfl rfl 1 (by decide) (mc wq_16_20) rfl ?_
      refine x_iload_n C 12 47 rfl 1 rfl rfl ?_
      obtain ⟨hi, h⟩ := h
      refine x_iald (f := sB 1) C 13 48 rfl 5 rfl hi ?_
      exact x_iret C rt 14 49 rfl () rfl h
    · replace h := h.2 c3
      by_cases c4 : p2 = (1 : Int32)
      · replace h := h.1 c4
        refine x_tabIn C 8 14 50 1 rfl (1 : Int32) c4 (by decide) (by decide) rfl rfl ?_
        refine x_aload_n C 15 50 rfl 0 rfl rfl ?_
        refine x_get (v := .ref (aB 0)) C 16 51 rfl fi_X9 0 rfl rfl 1 (by decide) (mc wq_1_20) rfl ?_
        refine x_get (v := .ref (aB 3)) C 17 54 rfl fi_X1 3 rfl rfl 2 (by decide) (mc wq_16_21) rfl ?_
        refine x_iload_n C 18 57 rfl 1 rfl rfl ?_
        obtain ⟨hi, h⟩ := h
        refine x_iald (f := sB 2) C 19 58 rfl 6 rfl hi ?_
        exact x_iret C rt 20 59 rfl () rfl h
      · replace h := h.2 c4
        by_cases c5 : p2 = (2 : Int32)
        · replace h := h.1 c5
          refine x_tabIn C 8 14 60 2 rfl (2 : Int32) c5 (by decide) (by decide) rfl rfl ?_
          refine x_aload_n C 21 60 rfl 0 rfl rfl ?_
          refine x_get (v := .ref (aB 0)) C 22 61 rfl fi_X9 0 rfl rfl 1 (by decide) (mc wq_1_20) rfl ?_
          refine x_get (v := .ref (aB 4)) C 23 64 rfl fi_X1 3 rfl rfl 3 (by decide) (mc wq_16_22) rfl ?_
          refine x_iload_n C 24 67 rfl 1 rfl rfl ?_
          obtain ⟨hi, h⟩ := h
          refine x_iald (f := sB 3) C 25 68 rfl 7 rfl hi ?_
          refine x_call0SI C 26 69 (c_X0_toNumber (xl x) (xD x) (xk x) (xg x) (sB 3 p1.toNatClampNeg) _ h) rfl wwGood (mem3 wq_17_3 wq_17_4 wq_12_20) wq_17_5 1 ok_X0_toNumber rfl ⟨by decide, by decide⟩ (Nat.le_of_ble_eq_true rfl) ⟨Nat.le_refl _, Nat.le_refl _⟩ ⟨rfl, rfl⟩ rfl (fun r6 _ h => ?_)
          exact x_iret C rt 27 72 rfl () rfl h
        · replace h := h.2 c5
          have nc3 := ne_toInt c3
          have nc4 := ne_toInt c4
          have nc5 := ne_toInt c5
          refine x_tabOut C 8 14 73 rfl (by have zc3 : (0 : Int32).toInt = 0 := (by decide); rw [zc3] at nc3; have zc4 : (1 : Int32).toInt = 1 := (by decide); rw [zc4] at nc4; have zc5 : (2 : Int32).toInt = 2 := (by decide); rw [zc5] at nc5; omega) rfl ?_
          refine x_iconst (v := (-1 : Int32)) C 28 73 rfl (by decide) ?_
          exact x_iret C rt 29 74 rfl () rfl h
  · replace h := h.1 c2
    refine x_iconst (v := (-1 : Int32)) C 5 11 rfl (by decide) ?_
    exact x_iret C rt 6 12 rfl () rfl h
theorem c_X9_call (l : Launch) (D : va_G) (k : ClassId × ClassId) (g : Nat → Nat) (aX aT aB aD aR aK aM aJ aV aW : Nat → Nat) (sX : St) (sT : St) (sB : St) (sD : St) (sR : St) (sK : St) (sM : St) (sJ : St) (sV : St) (sW : Int64) (p1 : Int32) (p2 : Int32) (K : Int32 → Prop) (h : wp_X9_call sX sT sB sD sR sK sM sJ sV sW p1 p2 K) : ConI l yX9_call (Cond.code yX9_call cX9_call 3 (some .int) :: wsL_law) ({ frames := 1, cells := 0, slots := 0, locals := 22 } : Room) D k g [.ref (aX 0), .int p1, .int p2] (fl [wdX k aX aT aB aD aR aK aM aV aW sX, wdT k aT sT, wdB k aB sB, wdB k aD sD, wdR k aR sR, wdK k aK sK, wdM k aM aJ sM, wdK k aJ sJ, wdV k aV sV, wdW k aW sW]) (fun (u : Unit) => fl [wdX k aX aT aB aD aR aK aM aV aW sX, wdT k aT sT, wdB k aB sB, wdB k aD sD, wdR k aR sR, wdK k aK sK, wdM k aM aJ sM, wdK k aJ sJ, wdV k aV sV, wdW k aW sW]) (fun (r : Int32) (_ : Unit) => K r) := by
  refine ConI.of (tb := tb_X9_call) (cc := cX9_call) (nL := 3) (by decide) rfl tbk_X9_call (Nat.le_of_ble_eq_true rfl) ?_
  intro x hl hD hk hg C rt
  subst hl hD hk hg
  exact w_X9_call C rt h
set_option maxHeartbeats 4000000 in
set_option maxRecDepth 100000 in
theorem w_X9_arc {x : CT} {aX aT aB aD aR aK aM aJ aV aW : Nat → Nat} {sX : St} {sT : St} {sB : St} {sD : St} {sR : St} {sK : St} {sM : St} {sJ : St} {sV : St} {sW : Int64} {p1 : Int32} {p2 : Int32} {p3 : Int32} {K : Int32 → Prop} (C : Cx x cX9_arc tb_X9_arc 4 RX9 (Cond.code yX9_arc cX9_arc 4 (some .int) :: wsL_law) ({ frames := 2, cells := 0, slots := 0, locals := 44 } : Room)) (rt : RetI x 0 0 (fun (u : Unit) => fl [wdX (xk x) aX aT aB aD aR aK aM aV aW sX, wdT (xk x) aT sT, wdB (xk x) aB sB, wdB (xk x) aD sD, wdR (xk x) aR sR, wdK (xk x) aK sK, wdM (xk x) aM aJ sM, wdK (xk x) aJ sJ, wdV (xk x) aV sV, wdW (xk x) aW sW]) (fun (r : Int32) (_ : Unit) => K r)) (h : wp_X9_arc sX sT sB sD sR sK sM sJ sV sW p1 p2 p3 K) : Wx x 4 0 0 (fl [wdX (xk x) aX aT aB aD aR aK aM aV aW sX, wdT (xk x) aT sT, wdB (xk x) aB sB, wdB (xk x) aD sD, wdR (xk x) aR sR, wdK (xk x) aK sK, wdM (xk x) aM aJ sM, wdK (xk x) aJ sJ, wdV (xk x) aV sV, wdW (xk x) aW sW]) [(0, .ref (aX 0)), (1, .int p1), (2, .int p2), (3, .int p3)] 0 [] := by
  unfold wp_X9_arc at h
  refine x_aload_n C 0 0 rfl 0 rfl rfl ?_
  refine x_get (v := .ref (aB 0)) C 1 1 rfl fi_X9 0 rfl rfl 1 (by decide) (mc wq_1_20) rfl ?_
  refine x_iload_n C 2 4 rfl 1 rfl rfl ?_
  refine x_iload_n C 3 5 rfl 2 rfl rfl ?_
  refine x_iload_n C 4 6 rfl 3 rfl rfl ?_
  refine x_callGVZ (ci := 0) (q0 := 0) (q := (RX1, TX1, 5)) C 5 7 (c_X1_hasPair (xl x) (xD x) (xk x) (xg x) aB sB p1 p2 p3 _ h) rfl wwGood (mem4 wq_17_23 wq_18_0 wq_18_1 wq_1_19) wq_18_2 3 ok_X1_hasPair rfl ⟨by decide, by decide⟩ (Nat.le_of_ble_eq_true rfl) ⟨Nat.le_refl _, Nat.le_refl _⟩ ⟨rfl, rfl⟩ rfl rfl [wdX (xk x) aX aT aB aD aR aK aM aV aW sX, wdT (xk x) aT sT, wdB (xk x) aD sD, wdR (xk x) aR sR, wdK (xk x) aK sK, wdM (xk x) aM aJ sM, wdK (xk x) aJ sJ, wdV (xk x) aV sV, wdW (xk x) aW sW] (fun (u : Unit) => [wdX (xk x) aX aT aB aD aR aK aM aV aW sX, wdT (xk x) aT sT, wdB (xk x) aB sB, wdB (xk x) aD sD, wdR (xk x) aR sR, wdK (xk x) aK sK, wdM (xk x) aM aJ sM, wdK (xk x) aJ sJ, wdV (xk x) aV sV, wdW (xk x) aW sW]) [0, 1, 3, 4, 5, 6, 7, 8, 9, 2] [0, 1, 9, 2, 3, 4, 5, 6, 7, 8] (show List.Perm [0, 1, 3, 4, 5, 6, 7, 8, 9, 2] (List.range 10) by decide) rfl 10 (fun _ => rfl) (by decide) (fun _ => rfl) (fun r1 _ h => ?_)
  refine x_if_eq C 6 10 30 rfl rfl (fun c2 => ?_) (fun c2 => ?_)
  · replace h := h.1 c2
    refine x_iconst (v := (-1 : Int32)) C 16 30 rfl (by decide) ?_
    exact x_iret C rt 17 31 rfl () rfl h
  · replace h := h.2 c2
    refine x_aload_n C 7 13 rfl 0 rfl rfl ?_
    refine x_get (v := .ref (aB 0)) C 8 14 rfl fi_X9 0 rfl rfl 1 (by decide) (mc wq_1_20) rfl ?_
    refine x_get (v := .ref (aB 4)) C 9 17 rfl fi_X1 3 rfl rfl 3 (by decide) (mc wq_16_22) rfl ?_
    refine x_iload_n C 10 20 rfl 1 rfl rfl ?_
    obtain ⟨hi, h⟩ := h
    refine x_iald (f := sB 3) C 11 21 rfl 7 rfl hi ?_
    refine x_iload_n C 12 22 rfl 2 rfl rfl ?_
    refine x_iload_n C 13 23 rfl 3 rfl rfl ?_
    refine x_call0SI C 14 24 (c_X0_at (xl x) (xD x) (xk x) (xg x) (sB 3 p1.toNatClampNeg) p2 p3 _ h) rfl wwGood (mem3 wq_18_4 wq_12_19 wq_12_20) wq_12_21 3 ok_X0_at rfl ⟨by decide, by decide⟩ (Nat.le_of_ble_eq_true rfl) ⟨Nat.le_refl _, Nat.le_refl _⟩ ⟨rfl, rfl⟩ rfl (fun r3 _ h => ?_)
    refine x_goto C 15 27 31 rfl rfl ?_
    exact x_iret C rt 17 31 rfl () rfl h
theorem c_X9_arc (l : Launch) (D : va_G) (k : ClassId × ClassId) (g : Nat → Nat) (aX aT aB aD aR aK aM aJ aV aW : Nat → Nat) (sX : St) (sT : St) (sB : St) (sD : St) (sR : St) (sK : St) (sM : St) (sJ : St) (sV : St) (sW : Int64) (p1 : Int32) (p2 : Int32) (p3 : Int32) (K : Int32 → Prop) (h : wp_X9_arc sX sT sB sD sR sK sM sJ sV sW p1 p2 p3 K) : ConI l yX9_arc (Cond.code yX9_arc cX9_arc 4 (some .int) :: wsL_law) ({ frames := 2, cells := 0, slots := 0, locals := 44 } : Room) D k g [.ref (aX 0), .int p1, .int p2, .int p3] (fl [wdX k aX aT aB aD aR aK aM aV aW sX, wdT k aT sT, wdB k aB sB, wdB k aD sD, wdR k aR sR, wdK k aK sK, wdM k aM aJ sM, wdK k aJ sJ, wdV k aV sV, wdW k aW sW]) (fun (u : Unit) => fl [wdX k aX aT aB aD aR aK aM aV aW sX, wdT k aT sT, wdB k aB sB, wdB k aD sD, wdR k aR sR, wdK k aK sK, wdM k aM aJ sM, wdK k aJ sJ, wdV k aV sV, wdW k aW sW]) (fun (r : Int32) (_ : Unit) => K r) := by
  refine ConI.of (tb := tb_X9_arc) (cc := cX9_arc) (nL := 4) (by decide) rfl tbk_X9_arc (Nat.le_of_ble_eq_true rfl) ?_
  intro x hl hD hk hg C rt
  subst hl hD hk hg
  exact w_X9_arc C rt h
set_option maxHeartbeats 4000000 in
set_option maxRecDepth 100000 in
theorem w_X9_put {x : CT} {aX aT aB aD aR aK aM aJ aV aW : Nat → Nat} {sX : St} {sT : St} {sB : St} {sD : St} {sR : St} {sK : St} {sM : St} {sJ : St} {sV : St} {sW : Int64} {p1 : Int32} {p2 : Int32} {p3 : Int32} {p4 : Int32} {K : Int32 → (St × St × St) → Prop} (C : Cx x cX9_put tb_X9_put 6 RX9 (Cond.code yX9_put cX9_put 6 (some .int) :: wsL_law) ({ frames := 2, cells := 0, slots := 0, locals := 44 } : Room)) (rt : RetI x 0 0 (fun (u : St × St × St) => fl [wdX (xk x) aX aT aB aD aR aK aM aV aW u.1, wdT (xk x) aT sT, wdB (xk x) aB u.2.1, wdB (xk x) aD sD, wdR (xk x) aR sR, wdK (xk x) aK sK, wdM (xk x) aM aJ u.2.2, wdK (xk x) aJ sJ, wdV (xk x) aV sV, wdW (xk x) aW sW]) (fun (r : Int32) (u : St × St × St) => K r u)) (h : wp_X9_put sX sT sB sD sR sK sM sJ sV sW p1 p2 p3 p4 K) : Wx x 6 0 0 (fl [wdX (xk x) aX aT aB aD aR aK aM aV aW sX, wdT (xk x) aT sT, wdB (xk x) aB sB, wdB (xk x) aD sD, wdR (xk x) aR sR, wdK (xk x) aK sK, wdM (xk x) aM aJ sM, wdK (xk x) aJ sJ, wdV (xk x) aV sV, wdW (xk x) aW sW]) [(0, .ref (aX 0)), (1, .int p1), (2, .int p2), (3, .int p3), (4, .int p4)] 0 [] := by
  unfold wp_X9_put at h
  refine x_aload_n C 0 0 rfl 0 rfl rfl ?_
  refine x_get (v := .ref (aB 0)) C 1 1 rfl fi_X9 0 rfl rfl 1 (by decide) (mc wq_1_20) rfl ?_
  refine x_iload_n C 2 4 rfl 1 rfl rfl ?_
  refine x_iload_n C 3 5 rfl 2 rfl rfl ?_
  refine x_iload_n C 4 6 rfl 3 rfl rfl ?_
  refine x_callGVZ (ci := 0) (q0 := 0) (q := (RX1, TX1, 5)) C 5 7 (c_X1_hasPair (xl x) (xD x) (xk x) (xg x) aB sB p1 p2 p3 _ h) rfl wwGood (mem4 wq_17_23 wq_18_0 wq_18_1 wq_1_19) wq_18_2 3 ok_X1_hasPair rfl ⟨by decide, by decide⟩ (Nat.le_of_ble_eq_true rfl) ⟨Nat.le_refl _, Nat.le_refl _⟩ ⟨rfl, rfl⟩ rfl rfl [wdX (xk x) aX aT aB aD aR aK aM aV aW sX, wdT (xk x) aT sT, wdB (xk x) aD sD, wdR (xk x) aR sR, wdK (xk x) aK sK, wdM (xk x) aM aJ sM, wdK (xk x) aJ sJ, wdV (xk x) aV sV, wdW (xk x) aW sW] (fun (u : Unit) => [wdX (xk x) aX aT aB aD aR aK aM aV aW sX, wdT (xk x) aT sT, wdB (xk x) aB sB, wdB (xk x) aD sD, wdR (xk x) aR sR, wdK (xk x) aK sK, wdM (xk x) aM aJ sM, wdK (xk x) aJ sJ, wdV (xk x) aV sV, wdW (xk x) aW sW]) [0, 1, 3, 4, 5, 6, 7, 8, 9, 2] [0, 1, 9, 2, 3, 4, 5, 6, 7, 8] (show List.Perm [0, 1, 3, 4, 5, 6, 7, 8, 9, 2] (List.range 10) by decide) rfl 10 (fun _ => rfl) (by decide) (fun _ => rfl) (fun r1 _ h => ?_)
  refine x_if_eq C 6 10 24 rfl rfl (fun c2 => ?_) (fun c2 => ?_)
  · replace h := h.1 c2
    refine x_iconst (v := (-1 : Int32)) C 12 24 rfl (by decide) ?_
    exact x_iret C rt 13 25 rfl (sX, sB, sM) rfl h
  · replace h := h.2 c2
    refine x_iload C 7 13 rfl 4 rfl ?_
    refine x_if_lt C 8 15 24 rfl rfl (fun c3 => ?_) (fun c3 => ?_)
    · replace h := h.1 c3
      refine x_iconst (v := (-1 : Int32)) C 12 24 rfl (by decide) ?_
      exact x_iret C rt 13 25 rfl (sX, sB, sM) rfl h
    · replace h := h.2 c3
      refine x_iload C 9 18 rfl 4 rfl ?_
      refine x_iconst (v := (2 : Int32)) C 10 20 rfl (by decide) ?_
      refine x_icmp_le C 11 21 26 rfl rfl (fun c4 => ?_) (fun c4 => ?_)
      · replace h := h.1 c4
        refine x_aload_n C 14 26 rfl 0 rfl rfl ?_
        refine x_get (v := .ref (aB 0)) C 15 27 rfl fi_X9 0 rfl rfl 1 (by decide) (mc wq_1_20) rfl ?_
        refine x_get (v := .ref (aB 4)) C 16 30 rfl fi_X1 3 rfl rfl 3 (by decide) (mc wq_16_22) rfl ?_
        refine x_iload_n C 17 33 rfl 1 rfl rfl ?_
        obtain ⟨hi, h⟩ := h
        refine x_iald (f := sB 3) C 18 34 rfl 7 rfl hi ?_
        refine x_iload_n C 19 35 rfl 2 rfl rfl ?_
        refine x_iload_n C 20 36 rfl 3 rfl rfl ?_
        refine x_call0SI C 21 37 (c_X0_at (xl x) (xD x) (xk x) (xg x) (sB 3 p1.toNatClampNeg) p2 p3 _ h) rfl wwGood (mem3 wq_18_4 wq_12_19 wq_12_20) wq_12_21 3 ok_X0_at rfl ⟨by decide, by decide⟩ (Nat.le_of_ble_eq_true rfl) ⟨Nat.le_refl _, Nat.le_refl _⟩ ⟨rfl, rfl⟩ rfl (fun r5 _ h => ?_)
        refine x_istore (lv' := [(0, .ref (aX 0)), (1, .int p1), (2, .int p2), (3, .int p3), (4, .int p4), (5, .int r5)]) C 22 40 rfl (by decide) [1, 2, 3, 4, 5, 0] rfl ?_
        refine x_aload_n C 23 42 rfl 0 rfl rfl ?_
        refine x_get (v := .ref (aB 0)) C 24 43 rfl fi_X9 0 rfl rfl 1 (by decide) (mc wq_1_20) rfl ?_
        refine x_get (v := .ref (aB 4)) C 25 46 rfl fi_X1 3 rfl rfl 3 (by decide) (mc wq_16_22) rfl ?_
        refine x_iload_n C 26 49 rfl 1 rfl rfl ?_
        refine x_aload_n C 27 50 rfl 0 rfl rfl ?_
        refine x_get (v := .ref (aB 0)) C 28 51 rfl fi_X9 0 rfl rfl 1 (by decide) (mc wq_1_20) rfl ?_
        refine x_get (v := .ref (aB 4)) C 29 54 rfl fi_X1 3 rfl rfl 3 (by decide) (mc wq_16_22) rfl ?_
        refine x_iload_n C 30 57 rfl 1 rfl rfl ?_
        obtain ⟨hi, h⟩ := h
        refine x_iald (f := sB 3) C 31 58 rfl 7 rfl hi ?_
        refine x_iload_n C 32 59 rfl 2 rfl rfl ?_
        refine x_iload_n C 33 60 rfl 3 rfl rfl ?_
        refine x_iload C 34 61 rfl 4 rfl ?_
        refine x_call0SI C 35 63 (c_X0_with (xl x) (xD x) (xk x) (xg x) (sB 3 p1.toNatClampNeg) p2 p3 p4 _ h) rfl wwGood (mem3 wq_18_17 wq_12_23 wq_12_20) wq_13_0 4 ok_X0_with rfl ⟨by decide, by decide⟩ (Nat.le_of_ble_eq_true rfl) ⟨Nat.le_refl _, Nat.le_refl _⟩ ⟨rfl, rfl⟩ rfl (fun r6 _ h => ?_)
        obtain ⟨hi, h⟩ := h
        obtain ⟨z7, ez7⟩ : ∃ z : St, z = ua sB 3 p1 r6 := ⟨_, rfl⟩
        replace h := h z7 ez7
        refine x_iast (f := sB 3) (ws' := fl [wdX (xk x) aX aT aB aD aR aK aM aV aW sX, wdT (xk x) aT sT, wdB (xk x) aB z7, wdB (xk x) aD sD, wdR (xk x) aR sR, wdK (xk x) aK sK, wdM (xk x) aM aJ sM, wdK (xk x) aJ sJ, wdV (xk x) aV sV, wdW (xk x) aW sW]) C 36 66 rfl 7 rfl hi (by rw [ez7]; rfl) ?_
        refine x_aload_n C 37 67 rfl 0 rfl rfl ?_
        refine x_callWVV (ci := 7) (q0 := 0) (q := (RX9, TX9, 9)) C 38 68 (c_X9_forgetWhatFollows (xl x) (xD x) (xk x) (xg x) aX aT aB aD aR aK aM aJ aV aW sX sT z7 sD sR sK sM sJ sV sW _ h) rfl wwGood (mem4 wq_13_14 wq_13_15 wq_13_16 wq_1_2) wq_13_17 0 ok_X9_forgetWhatFollows rfl ⟨by decide, by decide⟩ (Nat.le_of_ble_eq_true rfl) ⟨Nat.le_refl _, Nat.le_refl _⟩ ⟨rfl, rfl⟩ rfl rfl rfl (fun u8 h => ?_)
        refine x_iload C 39 71 rfl 5 rfl ?_
        exact x_iret C rt 40 73 rfl (u8.1, z7, u8.2) rfl h
      · replace h := h.2 c4
        refine x_iconst (v := (-1 : Int32)) C 12 24 rfl (by decide) ?_
        exact x_iret C rt 13 25 rfl (sX, sB, sM) rfl h
theorem c_X9_put (l : Launch) (D : va_G) (k : ClassId × ClassId) (g : Nat → Nat) (aX aT aB aD aR aK aM aJ aV aW : Nat → Nat) (sX : St) (sT : St) (sB : St) (sD : St) (sR : St) (sK : St) (sM : St) (sJ : St) (sV : St) (sW : Int64) (p1 : Int32) (p2 : Int32) (p3 : Int32) (p4 : Int32) (K : Int32 → (St × St × St) → Prop) (h : wp_X9_put sX sT sB sD sR sK sM sJ sV sW p1 p2 p3 p4 K) : ConI l yX9_put (Cond.code yX9_put cX9_put 6 (some .int) :: wsL_law) ({ frames := 2, cells := 0, slots := 0, locals := 44 } : Room) D k g [.ref (aX 0), .int p1, .int p2, .int p3, .int p4] (fl [wdX k aX aT aB aD aR aK aM aV aW sX, wdT k aT sT, wdB k aB sB, wdB k aD sD, wdR k aR sR, wdK k aK sK, wdM k aM aJ sM, wdK k aJ sJ, wdV k aV sV, wdW k aW sW]) (fun (u : St × St × St) => fl [wdX k aX aT aB aD aR aK aM aV aW u.1, wdT k aT sT, wdB k aB u.2.1, wdB k aD sD, wdR k aR sR, wdK k aK sK, wdM k aM aJ u.2.2, wdK k aJ sJ, wdV k aV sV, wdW k aW sW]) (fun (r : Int32) (u : St × St × St) => K r u) := by
  refine ConI.of (tb := tb_X9_put) (cc := cX9_put) (nL := 6) (by decide) rfl tbk_X9_put (Nat.le_of_ble_eq_true rfl) ?_
  intro x hl hD hk hg C rt
  subst hl hD hk hg
  exact w_X9_put C rt h
set_option maxHeartbeats 4000000 in
set_option maxRecDepth 100000 in
theorem w_X9_isLarge {x : CT} {aX aT aB aD aR aK aM aJ aV aW : Nat → Nat} {sX : St} {sT : St} {sB : St} {sD : St} {sR : St} {sK : St} {sM : St} {sJ : St} {sV : St} {sW : Int64} {K : Int32 → (St × St) → Prop} (C : Cx x cX9_isLarge tb_X9_isLarge 1 RX9 (Cond.code yX9_isLarge cX9_isLarge 1 (some .boolean) :: wsL_law) ({ frames := 4, cells := 0, slots := 0, locals := 99 } : Room)) (rt : RetZ x 0 0 (fun (u : St × St) => fl [wdX (xk x) aX aT aB aD aR aK aM aV aW u.1, wdT (xk x) aT sT, wdB (xk x) aB sB, wdB (xk x) aD sD, wdR (xk x) aR sR, wdK (xk x) aK u.2, wdM (xk x) aM aJ sM, wdK (xk x) aJ sJ, wdV (xk x) aV sV, wdW (xk x) aW sW]) (fun (r : Int32) (u : St × St) => K r u)) (h : wp_X9_isLarge sX sT sB sD sR sK sM sJ sV sW K) : Wx x 1 0 0 (fl [wdX (xk x) aX aT aB aD aR aK aM aV aW sX, wdT (xk x) aT sT, wdB (xk x) aB sB, wdB (xk x) aD sD, wdR (xk x) aR sR, wdK (xk x) aK sK, wdM (xk x) aM aJ sM, wdK (xk x) aJ sJ, wdV (xk x) aV sV, wdW (xk x) aW sW]) [(0, .ref (aX 0))] 0 [] := by
  unfold wp_X9_isLarge at h
  refine x_aload_n C 0 0 rfl 0 rfl rfl ?_
  refine x_get (v := .int (sX 8 0)) C 1 1 rfl fi_X9 0 rfl rfl 8 (by decide) (mc wq_2_18) rfl ?_
  refine x_if_ne C 2 4 25 rfl rfl (fun c1 => ?_) (fun c1 => ?_)
  · replace h := h.2 c1
    refine x_aload_n C 13 25 rfl 0 rfl rfl ?_
    refine x_get (v := .ref (aK 0)) C 14 26 rfl fi_X9 0 rfl rfl 4 (by decide) (mc wq_2_5) rfl ?_
    refine x_get (v := .int (sK 8 0)) C 15 29 rfl fi_X2 15 rfl rfl 8 (by decide) (mc wq_19_7) rfl ?_
    exact x_zret C rt 16 32 rfl h.1 (sX, sK) rfl h.2
  · replace h := h.1 c1
    refine x_aload_n C 3 7 rfl 0 rfl rfl ?_
    refine x_get (v := .ref (aK 0)) C 4 8 rfl fi_X9 0 rfl rfl 4 (by decide) (mc wq_2_5) rfl ?_
    refine x_aload_n C 5 11 rfl 0 rfl rfl ?_
    refine x_get (v := .ref (aB 0)) C 6 12 rfl fi_X9 0 rfl rfl 1 (by decide) (mc wq_1_20) rfl ?_
    refine x_iconst (v := (0 : Int32)) C 7 15 rfl (by decide) ?_
    refine x_iconst (v := (0 : Int32)) C 8 16 rfl (by decide) ?_
    refine x_callGVV (ci := 1) (q0 := 0) (q := (RX2, TX2, 12)) C 9 17 (c_X2_grow (xl x) (xD x) (xk x) (xg x) aK aB sK sB (0 : Int32) (0 : Int32) _ h) rfl wwGood (mem4 wq_19_8 wq_19_9 wq_19_10 wq_2_4) wq_19_11 3 ok_X2_grow rfl ⟨by decide, by decide⟩ (Nat.le_of_ble_eq_true rfl) ⟨Nat.le_refl _, Nat.le_refl _⟩ ⟨rfl, rfl⟩ rfl rfl [wdX (xk x) aX aT aB aD aR aK aM aV aW sX, wdT (xk x) aT sT, wdB (xk x) aD sD, wdR (xk x) aR sR, wdM (xk x) aM aJ sM, wdK (xk x) aJ sJ, wdV (xk x) aV sV, wdW (xk x) aW sW] (fun (u : St) => [wdX (xk x) aX aT aB aD aR aK aM aV aW sX, wdT (xk x) aT sT, wdB (xk x) aB sB, wdB (xk x) aD sD, wdR (xk x) aR sR, wdK (xk x) aK u, wdM (xk x) aM aJ sM, wdK (xk x) aJ sJ, wdV (xk x) aV sV, wdW (xk x) aW sW]) [0, 1, 3, 4, 6, 7, 8, 9, 5, 2] [0, 1, 9, 2, 3, 8, 4, 5, 6, 7] (show List.Perm [0, 1, 3, 4, 6, 7, 8, 9, 5, 2] (List.range 10) by decide) rfl 10 (fun _ => rfl) (by decide) (fun _ => rfl) (fun u2 h => ?_)
    refine x_aload_n C 10 20 rfl 0 rfl rfl ?_
    refine x_iconst (v := (1 : Int32)) C 11 21 rfl (by decide) ?_
    obtain ⟨z3, ez3⟩ : ∃ z : St, z = us sX 8 (1 : Int32) := ⟨_, rfl⟩
    replace h := h z3 ez3
    refine x_put (ws' := fl [wdX (xk x) aX aT aB aD aR aK aM aV aW z3, wdT (xk x) aT sT, wdB (xk x) aB sB, wdB (xk x) aD sD, wdR (xk x) aR sR, wdK (xk x) aK u2, wdM (xk x) aM aJ sM, wdK (xk x) aJ sJ, wdV (xk x) aV sV, wdW (xk x) aW sW]) C 12 22 rfl fi_X9 tyX9 tyX9_ok nmX9 0 rfl rfl 8 (by decide) (mc wq_2_18) rfl (zb_n zb_1) (zb_f zb_1) (Nat.le_of_ble_eq_true rfl) (by rw [ez3]; rfl) ?_
    refine x_aload_n C 13 25 rfl 0 rfl rfl ?_
    refine x_get (v := .ref (aK 0)) C 14 26 rfl fi_X9 0 rfl rfl 4 (by decide) (mc wq_2_5) rfl ?_
    refine x_get (v := .int (u2 8 0)) C 15 29 rfl fi_X2 15 rfl rfl 8 (by decide) (mc wq_19_7) rfl ?_
    exact x_zret C rt 16 32 rfl h.1 (z3, u2) rfl h.2
theorem c_X9_isLarge (l : Launch) (D : va_G) (k : ClassId × ClassId) (g : Nat → Nat) (aX aT aB aD aR aK aM aJ aV aW : Nat → Nat) (sX : St) (sT : St) (sB : St) (sD : St) (sR : St) (sK : St) (sM : St) (sJ : St) (sV : St) (sW : Int64) (K : Int32 → (St × St) → Prop) (h : wp_X9_isLarge sX sT sB sD sR sK sM sJ sV sW K) : ConZ l yX9_isLarge (Cond.code yX9_isLarge cX9_isLarge 1 (some .boolean) :: wsL_law) ({ frames := 4, cells := 0, slots := 0, locals := 99 } : Room) D k g [.ref (aX 0)] (fl [wdX k aX aT aB aD aR aK aM aV aW sX, wdT k aT sT, wdB k aB sB, wdB k aD sD, wdR k aR sR, wdK k aK sK, wdM k aM aJ sM, wdK k aJ sJ, wdV k aV sV, wdW k aW sW]) (fun (u : St × St) => fl [wdX k aX aT aB aD aR aK aM aV aW u.1, wdT k aT sT, wdB k aB sB, wdB k aD sD, wdR k aR sR, wdK k aK u.2, wdM k aM aJ sM, wdK k aJ sJ, wdV k aV sV, wdW k aW sW]) (fun (r : Int32) (u : St × St) => K r u) := by
  refine ConZ.of (tb := tb_X9_isLarge) (cc := cX9_isLarge) (nL := 1) (by decide) rfl tbk_X9_isLarge (Nat.le_of_ble_eq_true rfl) ?_
  intro x hl hD hk hg C rt
  subst hl hD hk hg
  exact w_X9_isLarge C rt h
set_option maxHeartbeats 4000000 in
set_option maxRecDepth 100000 in
theorem w_X9_graphs {x : CT} {aX aT aB aD aR aK aM aJ aV aW : Nat → Nat} {sX : St} {sT : St} {sB : St} {sD : St} {sR : St} {sK : St} {sM : St} {sJ : St} {sV : St} {sW : Int64} {K : Int32 → (St × St) → Prop} (C : Cx x cX9_graphs tb_X9_graphs 1 RX9 (Cond.code yX9_graphs cX9_graphs 1 (some .int) :: wsL_law) ({ frames := 5, cells := 0, slots := 0, locals := 119 } : Room)) (rt : RetI x 0 0 (fun (u : St × St) => fl [wdX (xk x) aX aT aB aD aR aK aM aV aW u.1, wdT (xk x) aT sT, wdB (xk x) aB sB, wdB (xk x) aD sD, wdR (xk x) aR sR, wdK (xk x) aK u.2, wdM (xk x) aM aJ sM, wdK (xk x) aJ sJ, wdV (xk x) aV sV, wdW (xk x) aW sW]) (fun (r : Int32) (u : St × St) => K r u)) (h : wp_X9_graphs sX sT sB sD sR sK sM sJ sV sW K) : Wx x 1 0 0 (fl [wdX (xk x) aX aT aB aD aR aK aM aV aW sX, wdT (xk x) aT sT, wdB (xk x) aB sB, wdB (xk x) aD sD, wdR (xk x) aR sR, wdK (xk x) aK sK, wdM (xk x) aM aJ sM, wdK (xk x) aJ sJ, wdV (xk x) aV sV, wdW (xk x) aW sW]) [(0, .ref (aX 0))] 0 [] := by
  unfold wp_X9_graphs at h
  refine x_aload_n C 0 0 rfl 0 rfl rfl ?_
  refine x_callWVZ (ci := 7) (q0 := 0) (q := (RX9, TX9, 9)) C 1 1 (c_X9_isLarge (xl x) (xD x) (xk x) (xg x) aX aT aB aD aR aK aM aJ aV aW sX sT sB sD sR sK sM sJ sV sW _ h) rfl wwGood (mem4 wq_19_3 wq_19_4 wq_19_5 wq_1_2) wq_19_6 0 ok_X9_isLarge rfl ⟨by decide, by decide⟩ (Nat.le_of_ble_eq_true rfl) ⟨Nat.le_refl _, Nat.le_refl _⟩ ⟨rfl, rfl⟩ rfl rfl rfl (fun r1 u1 h => ?_)
  refine x_if_eq C 2 4 12 rfl rfl (fun c2 => ?_) (fun c2 => ?_)
  · replace h := h.1 c2
    refine x_aload_n C 5 12 rfl 0 rfl rfl ?_
    refine x_get (v := .ref (aK 0)) C 6 13 rfl fi_X9 0 rfl rfl 4 (by decide) (mc wq_2_5) rfl ?_
    refine x_get (v := .int (u1.2 7 0)) C 7 16 rfl fi_X2 15 rfl rfl 7 (by decide) (mc wq_19_2) rfl ?_
    exact x_iret C rt 8 19 rfl (u1.1, u1.2) rfl h
  · replace h := h.2 c2
    refine x_bipush (v := (-2 : Int32)) C 3 7 rfl (by decide) ?_
    refine x_goto C 4 9 19 rfl rfl ?_
    exact x_iret C rt 8 19 rfl (u1.1, u1.2) rfl h
theorem c_X9_graphs (l : Launch) (D : va_G) (k : ClassId × ClassId) (g : Nat → Nat) (aX aT aB aD aR aK aM aJ aV aW : Nat → Nat) (sX : St) (sT : St) (sB : St) (sD : St) (sR : St) (sK : St) (sM : St) (sJ : St) (sV : St) (sW : Int64) (K : Int32 → (St × St) → Prop) (h : wp_X9_graphs sX sT sB sD sR sK sM sJ sV sW K) : ConI l yX9_graphs (Cond.code yX9_graphs cX9_graphs 1 (some .int) :: wsL_law) ({ frames := 5, cells := 0, slots := 0, locals := 119 } : Room) D k g [.ref (aX 0)] (fl [wdX k aX aT aB aD aR aK aM aV aW sX, wdT k aT sT, wdB k aB sB, wdB k aD sD, wdR k aR sR, wdK k aK sK, wdM k aM aJ sM, wdK k aJ sJ, wdV k aV sV, wdW k aW sW]) (fun (u : St × St) => fl [wdX k aX aT aB aD aR aK aM aV aW u.1, wdT k aT sT, wdB k aB sB, wdB k aD sD, wdR k aR sR, wdK k aK u.2, wdM k aM aJ sM, wdK k aJ sJ, wdV k aV sV, wdW k aW sW]) (fun (r : Int32) (u : St × St) => K r u) := by
  refine ConI.of (tb := tb_X9_graphs) (cc := cX9_graphs) (nL := 1) (by decide) rfl tbk_X9_graphs (Nat.le_of_ble_eq_true rfl) ?_
  intro x hl hD hk hg C rt
  subst hl hD hk hg
  exact w_X9_graphs C rt h
set_option maxHeartbeats 4000000 in
set_option maxRecDepth 100000 in
theorem w_X9_graph {x : CT} {aX aT aB aD aR aK aM aJ aV aW : Nat → Nat} {sX : St} {sT : St} {sB : St} {sD : St} {sR : St} {sK : St} {sM : St} {sJ : St} {sV : St} {sW : Int64} {p1 : Int32} {p2 : Int32} {K : Int32 → (St × St) → Prop} (C : Cx x cX9_graph tb_X9_graph 4 RX9 (Cond.code yX9_graph cX9_graph 4 (some .int) :: wsL_law) ({ frames := 5, cells := 0, slots := 0, locals := 119 } : Room)) (rt : RetI x 0 0 (fun (u : St × St) => fl [wdX (xk x) aX aT aB aD aR aK aM aV aW u.1, wdT (xk x) aT sT, wdB (xk x) aB sB, wdB (xk x) aD sD, wdR (xk x) aR sR, wdK (xk x) aK u.2, wdM (xk x) aM aJ sM, wdK (xk x) aJ sJ, wdV (xk x) aV sV, wdW (xk x) aW sW]) (fun (r : Int32) (u : St × St) => K r u)) (h : wp_X9_graph sX sT sB sD sR sK sM sJ sV sW p1 p2 K) : Wx x 4 0 0 (fl [wdX (xk x) aX aT aB aD aR aK aM aV aW sX, wdT (xk x) aT sT, wdB (xk x) aB sB, wdB (xk x) aD sD, wdR (xk x) aR sR, wdK (xk x) aK sK, wdM (xk x) aM aJ sM, wdK (xk x) aJ sJ, wdV (xk x) aV sV, wdW (xk x) aW sW]) [(0, .ref (aX 0)), (1, .int p1), (2, .int p2)] 0 [] := by
  unfold wp_X9_graph at h
  refine x_iload_n C 0 0 rfl 1 rfl rfl ?_
  refine x_if_lt C 1 1 13 rfl rfl (fun c1 => ?_) (fun c1 => ?_)
  · replace h := h.1 c1
    refine x_iconst (v := (-1 : Int32)) C 7 13 rfl (by decide) ?_
    exact x_iret C rt 8 14 rfl (sX, sK) rfl h
  · replace h := h.2 c1
    refine x_iload_n C 2 4 rfl 2 rfl rfl ?_
    refine x_if_lt C 3 5 13 rfl rfl (fun c2 => ?_) (fun c2 => ?_)
    · replace h := h.1 c2
      refine x_iconst (v := (-1 : Int32)) C 7 13 rfl (by decide) ?_
      exact x_iret C rt 8 14 rfl (sX, sK) rfl h
    · replace h := h.2 c2
      refine x_iload_n C 4 8 rfl 2 rfl rfl ?_
      refine x_iconst (v := (4 : Int32)) C 5 9 rfl (by decide) ?_
      refine x_icmp_le C 6 10 15 rfl rfl (fun c3 => ?_) (fun c3 => ?_)
      · replace h := h.1 c3
        refine x_aload_n C 9 15 rfl 0 rfl rfl ?_
        refine x_callWVZ (ci := 7) (q0 := 0) (q := (RX9, TX9, 9)) C 10 16 (c_X9_isLarge (xl x) (xD x) (xk x) (xg x) aX aT aB aD aR aK aM aJ aV aW sX sT sB sD sR sK sM sJ sV sW _ h) rfl wwGood (mem4 wq_19_3 wq_19_4 wq_19_5 wq_1_2) wq_19_6 0 ok_X9_isLarge rfl ⟨by decide, by decide⟩ (Nat.le_of_ble_eq_true rfl) ⟨Nat.le_refl _, Nat.le_refl _⟩ ⟨rfl, rfl⟩ rfl rfl rfl (fun r4 u4 h => ?_)
        refine x_if_eq C 11 19 25 rfl rfl (fun c5 => ?_) (fun c5 => ?_)
        · replace h := h.1 c5
          refine x_iload_n C 14 25 rfl 1 rfl rfl ?_
          refine x_aload_n C 15 26 rfl 0 rfl rfl ?_
          refine x_get (v := .ref (aK 0)) C 16 27 rfl fi_X9 0 rfl rfl 4 (by decide) (mc wq_2_5) rfl ?_
          refine x_get (v := .int (u4.2 7 0)) C 17 30 rfl fi_X2 15 rfl rfl 7 (by decide) (mc wq_19_2) rfl ?_
          refine x_icmp_lt C 18 33 38 rfl rfl (fun c6 => ?_) (fun c6 => ?_)
          · replace h := h.1 c6
            refine x_aload_n C 21 38 rfl 0 rfl rfl ?_
            refine x_get (v := .ref (aK 0)) C 22 39 rfl fi_X9 0 rfl rfl 4 (by decide) (mc wq_2_5) rfl ?_
            refine x_iload_n C 23 42 rfl 1 rfl rfl ?_
            refine x_callGVI (ci := 1) (q0 := 0) (q := (RX2, TX2, 12)) C 24 43 (c_X2_keyInOrder (xl x) (xD x) (xk x) (xg x) aK u4.2 p1 _ h) rfl wwGood (mem4 wq_23_13 wq_23_14 wq_23_15 wq_2_4) wq_23_16 1 ok_X2_keyInOrder rfl ⟨by decide, by decide⟩ (Nat.le_of_ble_eq_true rfl) ⟨Nat.le_refl _, Nat.le_refl _⟩ ⟨rfl, rfl⟩ rfl rfl [wdX (xk x) aX aT aB aD aR aK aM aV aW u4.1, wdT (xk x) aT sT, wdB (xk x) aB sB, wdB (xk x) aD sD, wdR (xk x) aR sR, wdM (xk x) aM aJ sM, wdK (xk x) aJ sJ, wdV (xk x) aV sV, wdW (xk x) aW sW] (fun (u : St) => [wdX (xk x) aX aT aB aD aR aK aM aV aW u4.1, wdT (xk x) aT sT, wdB (xk x) aB sB, wdB (xk x) aD sD, wdR (xk x) aR sR, wdK (xk x) aK u, wdM (xk x) aM aJ sM, wdK (xk x) aJ sJ, wdV (xk x) aV sV, wdW (xk x) aW sW]) [0, 1, 2, 3, 4, 6, 7, 8, 9, 5] [0, 1, 2, 3, 4, 9, 5, 6, 7, 8] (show List.Perm [0, 1, 2, 3, 4, 6, 7, 8, 9, 5] (List.range 10) by decide) rfl 10 (fun _ => rfl) (by decide) (fun _ => rfl) (fun r7 u7 h => ?_)
            refine x_istore_n (lv' := [(2, .int p2), (3, .int r7)]) C 25 46 rfl rfl (by decide) [3, 0] rfl ?_
            refine x_iload_n C 26 47 rfl 0 rfl rfl ?_
            by_cases c8 : p2 = (0 : Int32)
            · replace h := h.1 c8
              refine x_tabIn C 27 48 80 0 rfl (0 : Int32) c8 (by decide) (by decide) rfl rfl ?_
              refine x_iload_n C 28 80 rfl 1 rfl rfl ?_
              refine x_call0SI C 29 81 (c_X3_from (xl x) (xD x) (xk x) (xg x) r7 _ h) rfl wwGood (mem3 wq_23_23 wq_20_21 wq_20_5) wq_20_22 1 ok_X3_from rfl ⟨by decide, by decide⟩ (Nat.le_of_ble_eq_true rfl) ⟨Nat.le_refl _, Nat.le_refl _⟩ ⟨rfl, rfl⟩ rfl (fun r9 _ h => ?_)
              exact x_iret C rt 30 84 rfl (u4.1, u7) rfl h
            · replace h := h.2 c8
              by_cases c10 : p2 = (1 : Int32)
              · replace h := h.1 c10
                refine x_tabIn C 27 48 85 1 rfl (1 : Int32) c10 (by decide) (by decide) rfl rfl ?_
                refine x_iload_n C 31 85 rfl 1 rfl rfl ?_
                refine x_call0SI C 32 86 (c_X3_to (xl x) (xD x) (xk x) (xg x) r7 _ h) rfl wwGood (mem3 wq_24_0 wq_21_0 wq_20_5) wq_21_1 1 ok_X3_to rfl ⟨by decide, by decide⟩ (Nat.le_of_ble_eq_true rfl) ⟨Nat.le_refl _, Nat.le_refl _⟩ ⟨rfl, rfl⟩ rfl (fun r11 _ h => ?_)
                exact x_iret C rt 33 89 rfl (u4.1, u7) rfl h
              · replace h := h.2 c10
                by_cases c12 : p2 = (2 : Int32)
                · replace h := h.1 c12
                  refine x_tabIn C 27 48 90 2 rfl (2 : Int32) c12 (by decide) (by decide) rfl rfl ?_
                  refine x_iload_n C 34 90 rfl 1 rfl rfl ?_
                  refine x_call0SI C 35 91 (c_X3_arcs (xl x) (xD x) (xk x) (xg x) r7 _ h) rfl wwGood (mem3 wq_24_1 wq_24_2 wq_20_5) wq_24_3 1 ok_X3_arcs rfl ⟨by decide, by decide⟩ (Nat.le_of_ble_eq_true rfl) ⟨Nat.le_refl _, Nat.le_refl _⟩ ⟨rfl, rfl⟩ rfl (fun r13 _ h => ?_)
                  refine x_call0SI C 36 94 (c_X0_toNumber (xl x) (xD x) (xk x) (xg x) r13 _ h) rfl wwGood (mem3 wq_17_3 wq_17_4 wq_12_20) wq_17_5 1 ok_X0_toNumber rfl ⟨by decide, by decide⟩ (Nat.le_of_ble_eq_true rfl) ⟨Nat.le_refl _, Nat.le_refl _⟩ ⟨rfl, rfl⟩ rfl (fun r14 _ h => ?_)
                  exact x_iret C rt 37 97 rfl (u4.1, u7) rfl h
                · replace h := h.2 c12
                  by_cases c15 : p2 = (3 : Int32)
                  · replace h := h.1 c15
                    refine x_tabIn C 27 48 98 3 rfl (3 : Int32) c15 (by decide) (by decide) rfl rfl ?_
                    refine x_iload_n C 38 98 rfl 1 rfl rfl ?_
                    refine x_call0SZ C 39 99 (c_X3_isRound (xl x) (xD x) (xk x) (xg x) r7 _ h) rfl wwGood (mem3 wq_24_4 wq_24_5 wq_20_5) wq_24_6 1 ok_X3_isRound rfl ⟨by decide, by decide⟩ (Nat.le_of_ble_eq_true rfl) ⟨Nat.le_refl _, Nat.le_refl _⟩ ⟨rfl, rfl⟩ rfl (fun r16 _ h => ?_)
                    refine x_if_eq C 40 102 109 rfl rfl (fun c17 => ?_) (fun c17 => ?_)
                    · replace h := h.1 c17
                      refine x_iconst (v := (0 : Int32)) C 43 109 rfl (by decide) ?_
                      exact x_iret C rt 44 110 rfl (u4.1, u7) rfl h
                    · replace h := h.2 c17
                      refine x_iconst (v := (1 : Int32)) C 41 105 rfl (by decide) ?_
                      refine x_goto C 42 106 110 rfl rfl ?_
                      exact x_iret C rt 44 110 rfl (u4.1, u7) rfl h
                  · replace h := h.2 c15
                    have nc8 := ne_toInt c8
                    have nc10 := ne_toInt c10
                    have nc12 := ne_toInt c12
                    have nc15 := ne_toInt c15
                    refine x_tabOut C 27 48 111 rfl (by have zc8 : (0 : Int32).toInt = 0 := (by decide); rw [zc8] at nc8; have zc10 : (1 : Int32).toInt = 1 := (by decide); rw [zc10] at nc10; have zc12 : (2 : Int32).toInt = 2 := (by decide); rw [zc12] at nc12; have zc15 : (3 : Int32).toInt = 3 := (by decide); rw [zc15] at nc15; omega) rfl ?_
                    refine x_iload_n C 45 111 rfl 1 rfl rfl ?_
                    refine x_call0SZ C 46 112 (c_X3_isBad (xl x) (xD x) (xk x) (xg x) r7 _ h) rfl wwGood (mem3 wq_24_7 wq_20_17 wq_20_5) wq_20_18 1 ok_X3_isBad rfl ⟨by decide, by decide⟩ (Nat.le_of_ble_eq_true rfl) ⟨Nat.le_refl _, Nat.le_refl _⟩ ⟨rfl, rfl⟩ rfl (fun r18 _ h => ?_)
                    refine x_if_eq C 47 115 122 rfl rfl (fun c19 => ?_) (fun c19 => ?_)
                    · replace h := h.1 c19
                      refine x_iconst (v := (0 : Int32)) C 50 122 rfl (by decide) ?_
                      exact x_iret C rt 51 123 rfl (u4.1, u7) rfl h
                    · replace h := h.2 c19
                      refine x_iconst (v := (1 : Int32)) C 48 118 rfl (by decide) ?_
                      refine x_goto C 49 119 123 rfl rfl ?_
                      exact x_iret C rt 51 123 rfl (u4.1, u7) rfl h
          · replace h := h.2 c6
            refine x_iconst (v := (-1 : Int32)) C 19 36 rfl (by decide) ?_
            exact x_iret C rt 20 37 rfl (u4.1, u4.2) rfl h
        · replace h := h.2 c5
          refine x_bipush (v := (-2 : Int32)) C 12 22 rfl (by decide) ?_
          exact x_iret C rt 13 24 rfl (u4.1, u4.2) rfl h
      · replace h := h.2 c3
        refine x_iconst (v := (-1 : Int32)) C 7 13 rfl (by decide) ?_
        exact x_iret C rt 8 14 rfl (sX, sK) rfl h
theorem c_X9_graph (l : Launch) (D : va_G) (k : ClassId × ClassId) (g : Nat → Nat) (aX aT aB aD aR aK aM aJ aV aW : Nat → Nat) (sX : St) (sT : St) (sB : St) (sD : St) (sR : St) (sK : St) (sM : St) (sJ : St) (sV : St) (sW : Int64) (p1 : Int32) (p2 : Int32) (K : Int32 → (St × St) → Prop) (h : wp_X9_graph sX sT sB sD sR sK sM sJ sV sW p1 p2 K) : ConI l yX9_graph (Cond.code yX9_graph cX9_graph 4 (some .int) :: wsL_law) ({ frames := 5, cells := 0, slots := 0, locals := 119 } : Room) D k g [.ref (aX 0), .int p1, .int p2] (fl [wdX k aX aT aB aD aR aK aM aV aW sX, wdT k aT sT, wdB k aB sB, wdB k aD sD, wdR k aR sR, wdK k aK sK, wdM k aM aJ sM, wdK k aJ sJ, wdV k aV sV, wdW k aW sW]) (fun (u : St × St) => fl [wdX k aX aT aB aD aR aK aM aV aW u.1, wdT k aT sT, wdB k aB sB, wdB k aD sD, wdR k aR sR, wdK k aK u.2, wdM k aM aJ sM, wdK k aJ sJ, wdV k aV sV, wdW k aW sW]) (fun (r : Int32) (u : St × St) => K r u) := by
  refine ConI.of (tb := tb_X9_graph) (cc := cX9_graph) (nL := 4) (by decide) rfl tbk_X9_graph (Nat.le_of_ble_eq_true rfl) ?_
  intro x hl hD hk hg C rt
  subst hl hD hk hg
  exact w_X9_graph C rt h
set_option maxHeartbeats 4000000 in
set_option maxRecDepth 100000 in
theorem w_X9_together {x : CT} {aX aT aB aD aR aK aM aJ aV aW : Nat → Nat} {sX : St} {sT : St} {sB : St} {sD : St} {sR : St} {sK : St} {sM : St} {sJ : St} {sV : St} {sW : Int64} {p1 : Int32} {p2 : Int32} {K : Int32 → Prop} (C : Cx x cX9_together tb_X9_together 3 RX9 (Cond.code yX9_together cX9_together 3 (some .int) :: wsL_law) ({ frames := 2, cells := 0, slots := 0, locals := 48 } : Room)) (rt : RetI x 0 0 (fun (u : Unit) => fl [wdX (xk x) aX aT aB aD aR aK aM aV aW sX, wdT (xk x) aT sT, wdB (xk x) aB sB, wdB (xk x) aD sD, wdR (xk x) aR sR, wdK (xk x) aK sK, wdM (xk x) aM aJ sM, wdK (xk x) aJ sJ, wdV (xk x) aV sV, wdW (xk x) aW sW]) (fun (r : Int32) (_ : Unit) => K r)) (h : wp_X9_together sX sT sB sD sR sK sM sJ sV sW p1 p2 K) : Wx x 3 0 0 (fl [wdX (xk x) aX aT aB aD aR aK aM aV aW sX, wdT (xk x) aT sT, wdB (xk x) aB sB, wdB (xk x) aD sD, wdR (xk x) aR sR, wdK (xk x) aK sK, wdM (xk x) aM aJ sM, wdK (xk x) aJ sJ, wdV (xk x) aV sV, wdW (xk x) aW sW]) [(0, .ref (aX 0)), (1, .int p1), (2, .int p2)] 0 [] := by
  unfold wp_X9_together at h
  refine x_iload_n C 0 0 rfl 1 rfl rfl ?_
  refine x_call0SZ C 1 1 (c_X0_isNumber (xl x) (xD x) (xk x) (xg x) p1 _ h) rfl wwGood (mem3 wq_25_5 wq_25_6 wq_12_20) wq_25_7 1 ok_X0_isNumber rfl ⟨by decide, by decide⟩ (Nat.le_of_ble_eq_true rfl) ⟨Nat.le_refl _, Nat.le_refl _⟩ ⟨rfl, rfl⟩ rfl (fun r1 _ h => ?_)
  refine x_if_eq C 2 4 14 rfl rfl (fun c2 => ?_) (fun c2 => ?_)
  · replace h := h.1 c2
    refine x_iconst (v := (-1 : Int32)) C 6 14 rfl (by decide) ?_
    exact x_iret C rt 7 15 rfl () rfl h
  · replace h := h.2 c2
    refine x_iload_n C 3 7 rfl 2 rfl rfl ?_
    refine x_call0SZ C 4 8 (c_X0_isNumber (xl x) (xD x) (xk x) (xg x) p2 _ h) rfl wwGood (mem3 wq_25_5 wq_25_6 wq_12_20) wq_25_7 1 ok_X0_isNumber rfl ⟨by decide, by decide⟩ (Nat.le_of_ble_eq_true rfl) ⟨Nat.le_refl _, Nat.le_refl _⟩ ⟨rfl, rfl⟩ rfl (fun r3 _ h => ?_)
    refine x_if_ne C 5 11 16 rfl rfl (fun c4 => ?_) (fun c4 => ?_)
    · replace h := h.2 c4
      refine x_iload_n C 8 16 rfl 1 rfl rfl ?_
      refine x_call0SI C 9 17 (c_X0_fromNumber (xl x) (xD x) (xk x) (xg x) p1 _ h) rfl wwGood (mem3 wq_25_8 wq_25_9 wq_12_20) wq_25_10 1 ok_X0_fromNumber rfl ⟨by decide, by decide⟩ (Nat.le_of_ble_eq_true rfl) ⟨Nat.le_refl _, Nat.le_refl _⟩ ⟨rfl, rfl⟩ rfl (fun r5 _ h => ?_)
      refine x_iload_n C 10 20 rfl 2 rfl rfl ?_
      refine x_call0SI C 11 21 (c_X0_fromNumber (xl x) (xD x) (xk x) (xg x) p2 _ h) rfl wwGood (mem3 wq_25_8 wq_25_9 wq_12_20) wq_25_10 1 ok_X0_fromNumber rfl ⟨by decide, by decide⟩ (Nat.le_of_ble_eq_true rfl) ⟨Nat.le_refl _, Nat.le_refl _⟩ ⟨rfl, rfl⟩ rfl (fun r6 _ h => ?_)
      refine x_call0SI C 12 24 (c_X0_join (xl x) (xD x) (xk x) (xg x) r5 r6 _ h) rfl wwGood (mem3 wq_25_11 wq_21_7 wq_12_20) wq_21_8 2 ok_X0_join rfl ⟨by decide, by decide⟩ (Nat.le_of_ble_eq_true rfl) ⟨Nat.le_refl _, Nat.le_refl _⟩ ⟨rfl, rfl⟩ rfl (fun r7 _ h => ?_)
      refine x_call0SI C 13 27 (c_X0_toNumber (xl x) (xD x) (xk x) (xg x) r7 _ h) rfl wwGood (mem3 wq_17_3 wq_17_4 wq_12_20) wq_17_5 1 ok_X0_toNumber rfl ⟨by decide, by decide⟩ (Nat.le_of_ble_eq_true rfl) ⟨Nat.le_refl _, Nat.le_refl _⟩ ⟨rfl, rfl⟩ rfl (fun r8 _ h => ?_)
      exact x_iret C rt 14 30 rfl () rfl h
    · replace h := h.1 c4
      refine x_iconst (v := (-1 : Int32)) C 6 14 rfl (by decide) ?_
      exact x_iret C rt 7 15 rfl () rfl h
theorem c_X9_together (l : Launch) (D : va_G) (k : ClassId × ClassId) (g : Nat → Nat) (aX aT aB aD aR aK aM aJ aV aW : Nat → Nat) (sX : St) (sT : St) (sB : St) (sD : St) (sR : St) (sK : St) (sM : St) (sJ : St) (sV : St) (sW : Int64) (p1 : Int32) (p2 : Int32) (K : Int32 → Prop) (h : wp_X9_together sX sT sB sD sR sK sM sJ sV sW p1 p2 K) : ConI l yX9_together (Cond.code yX9_together cX9_together 3 (some .int) :: wsL_law) ({ frames := 2, cells := 0, slots := 0, locals := 48 } : Room) D k g [.ref (aX 0), .int p1, .int p2] (fl [wdX k aX aT aB aD aR aK aM aV aW sX, wdT k aT sT, wdB k aB sB, wdB k aD sD, wdR k aR sR, wdK k aK sK, wdM k aM aJ sM, wdK k aJ sJ, wdV k aV sV, wdW k aW sW]) (fun (u : Unit) => fl [wdX k aX aT aB aD aR aK aM aV aW sX, wdT k aT sT, wdB k aB sB, wdB k aD sD, wdR k aR sR, wdK k aK sK, wdM k aM aJ sM, wdK k aJ sJ, wdV k aV sV, wdW k aW sW]) (fun (r : Int32) (_ : Unit) => K r) := by
  refine ConI.of (tb := tb_X9_together) (cc := cX9_together) (nL := 3) (by decide) rfl tbk_X9_together (Nat.le_of_ble_eq_true rfl) ?_
  intro x hl hD hk hg C rt
  subst hl hD hk hg
  exact w_X9_together C rt h
set_option maxHeartbeats 4000000 in
set_option maxRecDepth 100000 in
theorem wj_X9_ends_50 {x : CT} {aX aT aB aD aR aK aM aJ aV aW : Nat → Nat} {sX : St} {sT : St} {sB : St} {sD : St} {sR : St} {sK : St} {sM : St} {sJ : St} {sV : St} {sW : Int64} {t0 : Int32} {K : Int32 → (St × St) → Prop} (C : Cx x cX9_ends tb_X9_ends 3 RX9 (Cond.code yX9_ends cX9_ends 3 (some .int) :: wsL_law) ({ frames := 5, cells := 0, slots := 0, locals := 119 } : Room)) (rt : RetI x 0 0 (fun (u : St × St) => fl [wdX (xk x) aX aT aB aD aR aK aM aV aW u.1, wdT (xk x) aT sT, wdB (xk x) aB sB, wdB (xk x) aD sD, wdR (xk x) aR sR, wdK (xk x) aK u.2, wdM (xk x) aM aJ sM, wdK (xk x) aJ sJ, wdV (xk x) aV sV, wdW (xk x) aW sW]) (fun (r : Int32) (u : St × St) => K r u))  (h : J_X9_ends_50 sX sK t0 K) : Wx x 3 0 0 (fl [wdX (xk x) aX aT aB aD aR aK aM aV aW sX, wdT (xk x) aT sT, wdB (xk x) aB sB, wdB (xk x) aD sD, wdR (xk x) aR sR, wdK (xk x) aK sK, wdM (xk x) aM aJ sM, wdK (xk x) aJ sJ, wdV (xk x) aV sV, wdW (xk x) aW sW]) [] 50 [.int t0] := by
  unfold J_X9_ends_50 at h
  refine x_istore_n (lv' := [(2, .int t0)]) C 27 50 rfl rfl (by decide) [0] rfl ?_
  refine x_iload_n C 28 51 rfl 0 rfl rfl ?_
  refine x_if_ne C 29 52 59 rfl rfl (fun c5 => ?_) (fun c5 => ?_)
  · replace h := h.2 c5
    refine x_iconst (v := (0 : Int32)) C 32 59 rfl (by decide) ?_
    exact x_iret C rt 33 60 rfl (sX, sK) rfl h
  · replace h := h.1 c5
    refine x_iconst (v := (1 : Int32)) C 30 55 rfl (by decide) ?_
    refine x_goto C 31 56 60 rfl rfl ?_
    exact x_iret C rt 33 60 rfl (sX, sK) rfl h
set_option maxHeartbeats 4000000 in
set_option maxRecDepth 100000 in
theorem wj_X9_ends_14 {x : CT} {aX aT aB aD aR aK aM aJ aV aW : Nat → Nat} {sX : St} {sT : St} {sB : St} {sD : St} {sR : St} {sK : St} {sM : St} {sJ : St} {sV : St} {sW : Int64} {x1 : Int32} {K : Int32 → (St × St) → Prop} (C : Cx x cX9_ends tb_X9_ends 3 RX9 (Cond.code yX9_ends cX9_ends 3 (some .int) :: wsL_law) ({ frames := 5, cells := 0, slots := 0, locals := 119 } : Room)) (rt : RetI x 0 0 (fun (u : St × St) => fl [wdX (xk x) aX aT aB aD aR aK aM aV aW u.1, wdT (xk x) aT sT, wdB (xk x) aB sB, wdB (xk x) aD sD, wdR (xk x) aR sR, wdK (xk x) aK u.2, wdM (xk x) aM aJ sM, wdK (xk x) aJ sJ, wdV (xk x) aV sV, wdW (xk x) aW sW]) (fun (r : Int32) (u : St × St) => K r u))  (h : J_X9_ends_14 sX sT sB sD sR sK sM sJ sV sW x1 K) : Wx x 3 0 0 (fl [wdX (xk x) aX aT aB aD aR aK aM aV aW sX, wdT (xk x) aT sT, wdB (xk x) aB sB, wdB (xk x) aD sD, wdR (xk x) aR sR, wdK (xk x) aK sK, wdM (xk x) aM aJ sM, wdK (xk x) aJ sJ, wdV (xk x) aV sV, wdW (xk x) aW sW]) [(0, .ref (aX 0)), (1, .int x1)] 14 [] := by
  unfold J_X9_ends_14 at h
  refine x_aload_n C 8 14 rfl 0 rfl rfl ?_
  refine x_callWVZ (ci := 7) (q0 := 0) (q := (RX9, TX9, 9)) C 9 15 (c_X9_isLarge (xl x) (xD x) (xk x) (xg x) aX aT aB aD aR aK aM aJ aV aW sX sT sB sD sR sK sM sJ sV sW _ h) rfl wwGood (mem4 wq_19_3 wq_19_4 wq_19_5 wq_1_2) wq_19_6 0 ok_X9_isLarge rfl ⟨by decide, by decide⟩ (Nat.le_of_ble_eq_true rfl) ⟨Nat.le_refl _, Nat.le_refl _⟩ ⟨rfl, rfl⟩ rfl rfl rfl (fun r2 u2 h => ?_)
  refine x_if_eq C 10 18 24 rfl rfl (fun c3 => ?_) (fun c3 => ?_)
  · replace h := h.1 c3
    refine x_iload_n C 13 24 rfl 1 rfl rfl ?_
    refine x_iconst (v := (-1 : Int32)) C 14 25 rfl (by decide) ?_
    refine x_icmp_ne C 15 26 39 rfl rfl (fun c4 => ?_) (fun c4 => ?_)
    · replace h := h.2 c4
      refine x_aload_n C 20 39 rfl 0 rfl rfl ?_
      refine x_get (v := .ref (aK 0)) C 21 40 rfl fi_X9 0 rfl rfl 4 (by decide) (mc wq_2_5) rfl ?_
      refine x_get (v := .int (u2.2 11 0)) C 22 43 rfl fi_X2 15 rfl rfl 11 (by decide) (mc wq_25_21) rfl ?_
      refine x_iconst (v := (1 : Int32)) C 23 46 rfl (by decide) ?_
      refine x_iload_n C 24 47 rfl 1 rfl rfl ?_
      refine x_ishl C 25 48 rfl ?_
      refine x_iand C 26 49 rfl ?_
      exact x_sub (lv' := []) [] rfl (wj_X9_ends_50 C rt h)
    · replace h := h.1 c4
      refine x_aload_n C 16 29 rfl 0 rfl rfl ?_
      refine x_get (v := .ref (aK 0)) C 17 30 rfl fi_X9 0 rfl rfl 4 (by decide) (mc wq_2_5) rfl ?_
      refine x_get (v := .int (u2.2 11 0)) C 18 33 rfl fi_X2 15 rfl rfl 11 (by decide) (mc wq_25_21) rfl ?_
      refine x_goto C 19 36 50 rfl rfl ?_
      exact x_sub (lv' := []) [] rfl (wj_X9_ends_50 C rt h)
  · replace h := h.2 c3
    refine x_bipush (v := (-2 : Int32)) C 11 21 rfl (by decide) ?_
    exact x_iret C rt 12 23 rfl (u2.1, u2.2) rfl h
set_option maxHeartbeats 4000000 in
set_option maxRecDepth 100000 in
theorem w_X9_ends {x : CT} {aX aT aB aD aR aK aM aJ aV aW : Nat → Nat} {sX : St} {sT : St} {sB : St} {sD : St} {sR : St} {sK : St} {sM : St} {sJ : St} {sV : St} {sW : Int64} {p1 : Int32} {K : Int32 → (St × St) → Prop} (C : Cx x cX9_ends tb_X9_ends 3 RX9 (Cond.code yX9_ends cX9_ends 3 (some .int) :: wsL_law) ({ frames := 5, cells := 0, slots := 0, locals := 119 } : Room)) (rt : RetI x 0 0 (fun (u : St × St) => fl [wdX (xk x) aX aT aB aD aR aK aM aV aW u.1, wdT (xk x) aT sT, wdB (xk x) aB sB, wdB (xk x) aD sD, wdR (xk x) aR sR, wdK (xk x) aK u.2, wdM (xk x) aM aJ sM, wdK (xk x) aJ sJ, wdV (xk x) aV sV, wdW (xk x) aW sW]) (fun (r : Int32) (u : St × St) => K r u)) (h : wp_X9_ends sX sT sB sD sR sK sM sJ sV sW p1 K) : Wx x 3 0 0 (fl [wdX (xk x) aX aT aB aD aR aK aM aV aW sX, wdT (xk x) aT sT, wdB (xk x) aB sB, wdB (xk x) aD sD, wdR (xk x) aR sR, wdK (xk x) aK sK, wdM (xk x) aM aJ sM, wdK (xk x) aJ sJ, wdV (xk x) aV sV, wdW (xk x) aW sW]) [(0, .ref (aX 0)), (1, .int p1)] 0 [] := by
  unfold wp_X9_ends at h
  refine x_iload_n C 0 0 rfl 1 rfl rfl ?_
  refine x_iconst (v := (-1 : Int32)) C 1 1 rfl (by decide) ?_
  refine x_icmp_eq C 2 2 14 rfl rfl (fun c1 => ?_) (fun c1 => ?_)
  · replace h := h.1 c1
    exact x_sub (lv' := [(0, .ref (aX 0)), (1, .int p1)]) [0, 1] rfl (wj_X9_ends_14 C rt h)
  · replace h := h.2 c1
    refine x_iload_n C 3 5 rfl 1 rfl rfl ?_
    refine x_call0SZ C 4 6 (c_X9_isAct (xl x) (xD x) (xk x) (xg x) p1 _ h) rfl wwGood (mem3 wq_16_5 wq_16_6 wq_1_2) wq_16_7 1 ok_X9_isAct rfl ⟨by decide, by decide⟩ (Nat.le_of_ble_eq_true rfl) ⟨Nat.le_refl _, Nat.le_refl _⟩ ⟨rfl, rfl⟩ rfl (fun r6 _ h => ?_)
    refine x_if_ne C 5 9 14 rfl rfl (fun c7 => ?_) (fun c7 => ?_)
    · replace h := h.2 c7
      exact x_sub (lv' := [(0, .ref (aX 0)), (1, .int p1)]) [0, 1] rfl (wj_X9_ends_14 C rt h)
    · replace h := h.1 c7
      refine x_iconst (v := (-1 : Int32)) C 6 12 rfl (by decide) ?_
      exact x_iret C rt 7 13 rfl (sX, sK) rfl h
theorem c_X9_ends (l : Launch) (D : va_G) (k : ClassId × ClassId) (g : Nat → Nat) (aX aT aB aD aR aK aM aJ aV aW : Nat → Nat) (sX : St) (sT : St) (sB : St) (sD : St) (sR : St) (sK : St) (sM : St) (sJ : St) (sV : St) (sW : Int64) (p1 : Int32) (K : Int32 → (St × St) → Prop) (h : wp_X9_ends sX sT sB sD sR sK sM sJ sV sW p1 K) : ConI l yX9_ends (Cond.code yX9_ends cX9_ends 3 (some .int) :: wsL_law) ({ frames := 5, cells := 0, slots := 0, locals := 119 } : Room) D k g [.ref (aX 0), .int p1] (fl [wdX k aX aT aB aD aR aK aM aV aW sX, wdT k aT sT, wdB k aB sB, wdB k aD sD, wdR k aR sR, wdK k aK sK, wdM k aM aJ sM, wdK k aJ sJ, wdV k aV sV, wdW k aW sW]) (fun (u : St × St) => fl [wdX k aX aT aB aD aR aK aM aV aW u.1, wdT k aT sT, wdB k aB sB, wdB k aD sD, wdR k aR sR, wdK k aK u.2, wdM k aM aJ sM, wdK k aJ sJ, wdV k aV sV, wdW k aW sW]) (fun (r : Int32) (u : St × St) => K r u) := by
  refine ConI.of (tb := tb_X9_ends) (cc := cX9_ends) (nL := 3) (by decide) rfl tbk_X9_ends (Nat.le_of_ble_eq_true rfl) ?_
  intro x hl hD hk hg C rt
  subst hl hD hk hg
  exact w_X9_ends C rt h
set_option maxHeartbeats 4000000 in
set_option maxRecDepth 100000 in
theorem w_X9_shortest {x : CT} {aX aT aB aD aR aK aM aJ aV aW : Nat → Nat} {sX : St} {sT : St} {sB : St} {sD : St} {sR : St} {sK : St} {sM : St} {sJ : St} {sV : St} {sW : Int64} {p1 : Int32} {K : Int32 → (St × St) → Prop} (C : Cx x cX9_shortest tb_X9_shortest 3 RX9 (Cond.code yX9_shortest cX9_shortest 3 (some .int) :: wsL_law) ({ frames := 5, cells := 0, slots := 0, locals := 119 } : Room)) (rt : RetI x 0 0 (fun (u : St × St) => fl [wdX (xk x) aX aT aB aD aR aK aM aV aW u.1, wdT (xk x) aT sT, wdB (xk x) aB sB, wdB (xk x) aD sD, wdR (xk x) aR sR, wdK (xk x) aK u.2, wdM (xk x) aM aJ sM, wdK (xk x) aJ sJ, wdV (xk x) aV sV, wdW (xk x) aW sW]) (fun (r : Int32) (u : St × St) => K r u)) (h : wp_X9_shortest sX sT sB sD sR sK sM sJ sV sW p1 K) : Wx x 3 0 0 (fl [wdX (xk x) aX aT aB aD aR aK aM aV aW sX, wdT (xk x) aT sT, wdB (xk x) aB sB, wdB (xk x) aD sD, wdR (xk x) aR sR, wdK (xk x) aK sK, wdM (xk x) aM aJ sM, wdK (xk x) aJ sJ, wdV (xk x) aV sV, wdW (xk x) aW sW]) [(0, .ref (aX 0)), (1, .int p1)] 0 [] := by
  unfold wp_X9_shortest at h
  refine x_iload_n C 0 0 rfl 1 rfl rfl ?_
  refine x_iconst (v := (-1 : Int32)) C 1 1 rfl (by decide) ?_
  refine x_icmp_ge C 2 2 7 rfl rfl (fun c1 => ?_) (fun c1 => ?_)
  · replace h := h.1 c1
    refine x_aload_n C 5 7 rfl 0 rfl rfl ?_
    refine x_callWVZ (ci := 7) (q0 := 0) (q := (RX9, TX9, 9)) C 6 8 (c_X9_isLarge (xl x) (xD x) (xk x) (xg x) aX aT aB aD aR aK aM aJ aV aW sX sT sB sD sR sK sM sJ sV sW _ h) rfl wwGood (mem4 wq_19_3 wq_19_4 wq_19_5 wq_1_2) wq_19_6 0 ok_X9_isLarge rfl ⟨by decide, by decide⟩ (Nat.le_of_ble_eq_true rfl) ⟨Nat.le_refl _, Nat.le_refl _⟩ ⟨rfl, rfl⟩ rfl rfl rfl (fun r2 u2 h => ?_)
    refine x_if_eq C 7 11 17 rfl rfl (fun c3 => ?_) (fun c3 => ?_)
    · replace h := h.1 c3
      refine x_aload_n C 10 17 rfl 0 rfl rfl ?_
      refine x_get (v := .ref (aK 0)) C 11 18 rfl fi_X9 0 rfl rfl 4 (by decide) (mc wq_2_5) rfl ?_
      refine x_aload_n C 12 21 rfl 0 rfl rfl ?_
      refine x_get (v := .ref (aK 0)) C 13 22 rfl fi_X9 0 rfl rfl 4 (by decide) (mc wq_2_5) rfl ?_
      refine x_get (v := .int (u2.2 10 0)) C 14 25 rfl fi_X2 15 rfl rfl 10 (by decide) (mc wq_26_11) rfl ?_
      refine x_callGVI (ci := 1) (q0 := 0) (q := (RX2, TX2, 12)) C 15 28 (c_X2_wayLength (xl x) (xD x) (xk x) (xg x) aK u2.2 (u2.2 10 0) _ h) rfl wwGood (mem4 wq_26_12 wq_26_13 wq_26_14 wq_2_4) wq_26_15 1 ok_X2_wayLength rfl ⟨by decide, by decide⟩ (Nat.le_of_ble_eq_true rfl) ⟨Nat.le_refl _, Nat.le_refl _⟩ ⟨rfl, rfl⟩ rfl rfl [wdX (xk x) aX aT aB aD aR aK aM aV aW u2.1, wdT (xk x) aT sT, wdB (xk x) aB sB, wdB (xk x) aD sD, wdR (xk x) aR sR, wdM (xk x) aM aJ sM, wdK (xk x) aJ sJ, wdV (xk x) aV sV, wdW (xk x) aW sW] (fun (u : Unit) => [wdX (xk x) aX aT aB aD aR aK aM aV aW u2.1, wdT (xk x) aT sT, wdB (xk x) aB sB, wdB (xk x) aD sD, wdR (xk x) aR sR, wdK (xk x) aK u2.2, wdM (xk x) aM aJ sM, wdK (xk x) aJ sJ, wdV (xk x) aV sV, wdW (xk x) aW sW]) [0, 1, 2, 3, 4, 6, 7, 8, 9, 5] [0, 1, 2, 3, 4, 9, 5, 6, 7, 8] (show List.Perm [0, 1, 2, 3, 4, 6, 7, 8, 9, 5] (List.range 10) by decide) rfl 10 (fun _ => rfl) (by decide) (fun _ => rfl) (fun r4 _ h => ?_)
      refine x_istore_n (lv' := [(0, .ref (aX 0)), (1, .int p1), (2, .int r4)]) C 16 31 rfl rfl (by decide) [1, 2, 0] rfl ?_
      refine x_iload_n C 17 32 rfl 2 rfl rfl ?_
      refine x_if_eq C 18 33 42 rfl rfl (fun c5 => ?_) (fun c5 => ?_)
      · replace h := h.1 c5
        refine x_bipush (v := (-9 : Int32)) C 22 42 rfl (by decide) ?_
        exact x_iret C rt 23 44 rfl (u2.1, u2.2) rfl h
      · replace h := h.2 c5
        refine x_iload_n C 19 36 rfl 2 rfl rfl ?_
        refine x_bipush (v := (8 : Int32)) C 20 37 rfl (by decide) ?_
        refine x_icmp_le C 21 39 45 rfl rfl (fun c6 => ?_) (fun c6 => ?_)
        · replace h := h.1 c6
          refine x_iload_n C 24 45 rfl 1 rfl rfl ?_
          refine x_iconst (v := (-1 : Int32)) C 25 46 rfl (by decide) ?_
          refine x_icmp_ne C 26 47 52 rfl rfl (fun c7 => ?_) (fun c7 => ?_)
          · replace h := h.2 c7
            refine x_iload_n C 29 52 rfl 1 rfl rfl ?_
            refine x_iload_n C 30 53 rfl 2 rfl rfl ?_
            refine x_icmp_ge C 31 54 75 rfl rfl (fun c8 => ?_) (fun c8 => ?_)
            · replace h := h.1 c8
              refine x_iconst (v := (-1 : Int32)) C 40 75 rfl (by decide) ?_
              exact x_iret C rt 41 76 rfl (u2.1, u2.2) rfl h
            · replace h := h.2 c8
              refine x_aload_n C 32 57 rfl 0 rfl rfl ?_
              refine x_get (v := .ref (aK 0)) C 33 58 rfl fi_X9 0 rfl rfl 4 (by decide) (mc wq_2_5) rfl ?_
              refine x_aload_n C 34 61 rfl 0 rfl rfl ?_
              refine x_get (v := .ref (aK 0)) C 35 62 rfl fi_X9 0 rfl rfl 4 (by decide) (mc wq_2_5) rfl ?_
              refine x_get (v := .int (u2.2 10 0)) C 36 65 rfl fi_X2 15 rfl rfl 10 (by decide) (mc wq_26_11) rfl ?_
              refine x_iload_n C 37 68 rfl 1 rfl rfl ?_
              refine x_callGVI (ci := 1) (q0 := 0) (q := (RX2, TX2, 12)) C 38 69 (c_X2_callOnWay (xl x) (xD x) (xk x) (xg x) aK u2.2 (u2.2 10 0) p1 _ h) rfl wwGood (mem4 wq_26_16 wq_26_17 wq_26_18 wq_2_4) wq_26_19 2 ok_X2_callOnWay rfl ⟨by decide, by decide⟩ (Nat.le_of_ble_eq_true rfl) ⟨Nat.le_refl _, Nat.le_refl _⟩ ⟨rfl, rfl⟩ rfl rfl [wdX (xk x) aX aT aB aD aR aK aM aV aW u2.1, wdT (xk x) aT sT, wdB (xk x) aB sB, wdB (xk x) aD sD, wdR (xk x) aR sR, wdM (xk x) aM aJ sM, wdK (xk x) aJ sJ, wdV (xk x) aV sV, wdW (xk x) aW sW] (fun (u : Unit) => [wdX (xk x) aX aT aB aD aR aK aM aV aW u2.1, wdT (xk x) aT sT, wdB (xk x) aB sB, wdB (xk x) aD sD, wdR (xk x) aR sR, wdK (xk x) aK u2.2, wdM (xk x) aM aJ sM, wdK (xk x) aJ sJ, wdV (xk x) aV sV, wdW (xk x) aW sW]) [0, 1, 2, 3, 4, 6, 7, 8, 9, 5] [0, 1, 2, 3, 4, 9, 5, 6, 7, 8] (show List.Perm [0, 1, 2, 3, 4, 6, 7, 8, 9, 5] (List.range 10) by decide) rfl 10 (fun _ => rfl) (by decide) (fun _ => rfl) (fun r9 _ h => ?_)
              refine x_goto C 39 72 76 rfl rfl ?_
              exact x_iret C rt 41 76 rfl (u2.1, u2.2) rfl h
          · replace h := h.1 c7
            refine x_iload_n C 27 50 rfl 2 rfl rfl ?_
            exact x_iret C rt 28 51 rfl (u2.1, u2.2) rfl h
        · replace h := h.2 c6
          refine x_bipush (v := (-9 : Int32)) C 22 42 rfl (by decide) ?_
          exact x_iret C rt 23 44 rfl (u2.1, u2.2) rfl h
    · replace h := h.2 c3
      refine x_bipush (v := (-2 : Int32)) C 8 14 rfl (by decide) ?_
      exact x_iret C rt 9 16 rfl (u2.1, u2.2) rfl h
  · replace h := h.2 c1
    refine x_iconst (v := (-1 : Int32)) C 3 5 rfl (by decide) ?_
    exact x_iret C rt 4 6 rfl (sX, sK) rfl h
theorem c_X9_shortest (l : Launch) (D : va_G) (k : ClassId × ClassId) (g : Nat → Nat) (aX aT aB aD aR aK aM aJ aV aW : Nat → Nat) (sX : St) (sT : St) (sB : St) (sD : St) (sR : St) (sK : St) (sM : St) (sJ : St) (sV : St) (sW : Int64) (p1 : Int32) (K : Int32 → (St × St) → Prop) (h : wp_X9_shortest sX sT sB sD sR sK sM sJ sV sW p1 K) : ConI l yX9_shortest (Cond.code yX9_shortest cX9_shortest 3 (some .int) :: wsL_law) ({ frames := 5, cells := 0, slots := 0, locals := 119 } : Room) D k g [.ref (aX 0), .int p1] (fl [wdX k aX aT aB aD aR aK aM aV aW sX, wdT k aT sT, wdB k aB sB, wdB k aD sD, wdR k aR sR, wdK k aK sK, wdM k aM aJ sM, wdK k aJ sJ, wdV k aV sV, wdW k aW sW]) (fun (u : St × St) => fl [wdX k aX aT aB aD aR aK aM aV aW u.1, wdT k aT sT, wdB k aB sB, wdB k aD sD, wdR k aR sR, wdK k aK u.2, wdM k aM aJ sM, wdK k aJ sJ, wdV k aV sV, wdW k aW sW]) (fun (r : Int32) (u : St × St) => K r u) := by
  refine ConI.of (tb := tb_X9_shortest) (cc := cX9_shortest) (nL := 3) (by decide) rfl tbk_X9_shortest (Nat.le_of_ble_eq_true rfl) ?_
  intro x hl hD hk hg C rt
  subst hl hD hk hg
  exact w_X9_shortest C rt h
set_option maxHeartbeats 4000000 in
set_option maxRecDepth 100000 in
theorem w_X9_go {x : CT} {aX aT aB aD aR aK aM aJ aV aW : Nat → Nat} {sX : St} {sT : St} {sB : St} {sD : St} {sR : St} {sK : St} {sM : St} {sJ : St} {sV : St} {sW : Int64} {p1 : Int32} {K : Int32 → St → Prop} (C : Cx x cX9_go tb_X9_go 2 RX9 (Cond.code yX9_go cX9_go 2 (some .int) :: wsL_law) ({ frames := 1, cells := 0, slots := 0, locals := 22 } : Room)) (rt : RetI x 0 0 (fun (u : St) => fl [wdX (xk x) aX aT aB aD aR aK aM aV aW sX, wdT (xk x) aT sT, wdB (xk x) aB sB, wdB (xk x) aD sD, wdR (xk x) aR u, wdK (xk x) aK sK, wdM (xk x) aM aJ sM, wdK (xk x) aJ sJ, wdV (xk x) aV sV, wdW (xk x) aW sW]) (fun (r : Int32) (u : St) => K r u)) (h : wp_X9_go sX sT sB sD sR sK sM sJ sV sW p1 K) : Wx x 2 0 0 (fl [wdX (xk x) aX aT aB aD aR aK aM aV aW sX, wdT (xk x) aT sT, wdB (xk x) aB sB, wdB (xk x) aD sD, wdR (xk x) aR sR, wdK (xk x) aK sK, wdM (xk x) aM aJ sM, wdK (xk x) aJ sJ, wdV (xk x) aV sV, wdW (xk x) aW sW]) [(0, .ref (aX 0)), (1, .int p1)] 0 [] := by
  unfold wp_X9_go at h
  refine x_aload_n C 0 0 rfl 0 rfl rfl ?_
  refine x_get (v := .ref (aB 0)) C 1 1 rfl fi_X9 0 rfl rfl 1 (by decide) (mc wq_1_20) rfl ?_
  refine x_iload_n C 2 4 rfl 1 rfl rfl ?_
  refine x_callGVZ (ci := 0) (q0 := 0) (q := (RX1, TX1, 5)) C 3 5 (c_X1_hasCall (xl x) (xD x) (xk x) (xg x) aB sB p1 _ h) rfl wwGood (mem4 wq_16_23 wq_17_0 wq_17_1 wq_1_19) wq_17_2 1 ok_X1_hasCall rfl ⟨by decide, by decide⟩ (Nat.le_of_ble_eq_true rfl) ⟨Nat.le_refl _, Nat.le_refl _⟩ ⟨rfl, rfl⟩ rfl rfl [wdX (xk x) aX aT aB aD aR aK aM aV aW sX, wdT (xk x) aT sT, wdB (xk x) aD sD, wdR (xk x) aR sR, wdK (xk x) aK sK, wdM (xk x) aM aJ sM, wdK (xk x) aJ sJ, wdV (xk x) aV sV, wdW (xk x) aW sW] (fun (u : Unit) => [wdX (xk x) aX aT aB aD aR aK aM aV aW sX, wdT (xk x) aT sT, wdB (xk x) aB sB, wdB (xk x) aD sD, wdR (xk x) aR sR, wdK (xk x) aK sK, wdM (xk x) aM aJ sM, wdK (xk x) aJ sJ, wdV (xk x) aV sV, wdW (xk x) aW sW]) [0, 1, 3, 4, 5, 6, 7, 8, 9, 2] [0, 1, 9, 2, 3, 4, 5, 6, 7, 8] (show List.Perm [0, 1, 3, 4, 5, 6, 7, 8, 9, 2] (List.range 10) by decide) rfl 10 (fun _ => rfl) (by decide) (fun _ => rfl) (fun r1 _ h => ?_)
  refine x_if_ne C 4 8 13 rfl rfl (fun c2 => ?_) (fun c2 => ?_)
  · replace h := h.2 c2
    refine x_aload_n C 7 13 rfl 0 rfl rfl ?_
    refine x_get (v := .ref (aR 0)) C 8 14 rfl fi_X9 0 rfl rfl 3 (by decide) (mc wq_2_1) rfl ?_
    refine x_aload_n C 9 17 rfl 0 rfl rfl ?_
    refine x_get (v := .ref (aB 0)) C 10 18 rfl fi_X9 0 rfl rfl 1 (by decide) (mc wq_1_20) rfl ?_
    refine x_iload_n C 11 21 rfl 1 rfl rfl ?_
    refine x_callGVZ (ci := 3) (q0 := 0) (q := (RX5, TX5, 2)) C 12 22 (c_X5_goesOnBy (xl x) (xD x) (xk x) (xg x) aR aB sR sB p1 _ h) rfl wwGood (mem4 wq_27_11 wq_27_12 wq_27_13 wq_2_0) wq_27_14 2 ok_X5_goesOnBy rfl ⟨by decide, by decide⟩ (Nat.le_of_ble_eq_true rfl) ⟨Nat.le_refl _, Nat.le_refl _⟩ ⟨rfl, rfl⟩ rfl rfl [wdX (xk x) aX aT aB aD aR aK aM aV aW sX, wdT (xk x) aT sT, wdB (xk x) aD sD, wdK (xk x) aK sK, wdM (xk x) aM aJ sM, wdK (xk x) aJ sJ, wdV (xk x) aV sV, wdW (xk x) aW sW] (fun (u : Unit) => [wdX (xk x) aX aT aB aD aR aK aM aV aW sX, wdT (xk x) aT sT, wdB (xk x) aB sB, wdB (xk x) aD sD, wdR (xk x) aR sR, wdK (xk x) aK sK, wdM (xk x) aM aJ sM, wdK (xk x) aJ sJ, wdV (xk x) aV sV, wdW (xk x) aW sW]) [0, 1, 3, 5, 6, 7, 8, 9, 4, 2] [0, 1, 9, 2, 8, 3, 4, 5, 6, 7] (show List.Perm [0, 1, 3, 5, 6, 7, 8, 9, 4, 2] (List.range 10) by decide) rfl 10 (fun _ => rfl) (by decide) (fun _ => rfl) (fun r3 _ h => ?_)
    refine x_if_ne C 13 25 31 rfl rfl (fun c4 => ?_) (fun c4 => ?_)
    · replace h := h.2 c4
      refine x_aload_n C 16 31 rfl 0 rfl rfl ?_
      refine x_get (v := .ref (aR 0)) C 17 32 rfl fi_X9 0 rfl rfl 3 (by decide) (mc wq_2_1) rfl ?_
      refine x_iload_n C 18 35 rfl 1 rfl rfl ?_
      refine x_callGVZ (ci := 3) (q0 := 0) (q := (RX5, TX5, 2)) C 19 36 (c_X5_take (xl x) (xD x) (xk x) (xg x) aR sR p1 _ h) rfl wwGood (mem4 wq_27_17 wq_27_18 wq_27_19 wq_2_0) wq_27_20 1 ok_X5_take rfl ⟨by decide, by decide⟩ (Nat.le_of_ble_eq_true rfl) ⟨Nat.le_refl _, Nat.le_refl _⟩ ⟨rfl, rfl⟩ rfl rfl [wdX (xk x) aX aT aB aD aR aK aM aV aW sX, wdT (xk x) aT sT, wdB (xk x) aB sB, wdB (xk x) aD sD, wdK (xk x) aK sK, wdM (xk x) aM aJ sM, wdK (xk x) aJ sJ, wdV (xk x) aV sV, wdW (xk x) aW sW] (fun (u : St) => [wdX (xk x) aX aT aB aD aR aK aM aV aW sX, wdT (xk x) aT sT, wdB (xk x) aB sB, wdB (xk x) aD sD, wdR (xk x) aR u, wdK (xk x) aK sK, wdM (xk x) aM aJ sM, wdK (xk x) aJ sJ, wdV (xk x) aV sV, wdW (xk x) aW sW]) [0, 1, 2, 3, 5, 6, 7, 8, 9, 4] [0, 1, 2, 3, 9, 4, 5, 6, 7, 8] (show List.Perm [0, 1, 2, 3, 5, 6, 7, 8, 9, 4] (List.range 10) by decide) rfl 10 (fun _ => rfl) (by decide) (fun _ => rfl) (fun r5 u5 h => ?_)
      refine x_if_eq C 20 39 52 rfl rfl (fun c6 => ?_) (fun c6 => ?_)
      · replace h := h.1 c6
        refine x_bipush (v := (-3 : Int32)) C 25 52 rfl (by decide) ?_
        exact x_iret C rt 26 54 rfl u5 rfl h
      · replace h := h.2 c6
        refine x_aload_n C 21 42 rfl 0 rfl rfl ?_
        refine x_get (v := .ref (aR 0)) C 22 43 rfl fi_X9 0 rfl rfl 3 (by decide) (mc wq_2_1) rfl ?_
        refine x_get (v := .int (u5 1 0)) C 23 46 rfl fi_X5 13 rfl rfl 1 (by decide) (mc wq_27_10) rfl ?_
        refine x_goto C 24 49 54 rfl rfl ?_
        exact x_iret C rt 26 54 rfl u5 rfl h
    · replace h := h.1 c4
      refine x_bipush (v := (-2 : Int32)) C 14 28 rfl (by decide) ?_
      exact x_iret C rt 15 30 rfl sR rfl h
  · replace h := h.1 c2
    refine x_iconst (v := (-1 : Int32)) C 5 11 rfl (by decide) ?_
    exact x_iret C rt 6 12 rfl sR rfl h
theorem c_X9_go (l : Launch) (D : va_G) (k : ClassId × ClassId) (g : Nat → Nat) (aX aT aB aD aR aK aM aJ aV aW : Nat → Nat) (sX : St) (sT : St) (sB : St) (sD : St) (sR : St) (sK : St) (sM : St) (sJ : St) (sV : St) (sW : Int64) (p1 : Int32) (K : Int32 → St → Prop) (h : wp_X9_go sX sT sB sD sR sK sM sJ sV sW p1 K) : ConI l yX9_go (Cond.code yX9_go cX9_go 2 (some .int) :: wsL_law) ({ frames := 1, cells := 0, slots := 0, locals := 22 } : Room) D k g [.ref (aX 0), .int p1] (fl [wdX k aX aT aB aD aR aK aM aV aW sX, wdT k aT sT, wdB k aB sB, wdB k aD sD, wdR k aR sR, wdK k aK sK, wdM k aM aJ sM, wdK k aJ sJ, wdV k aV sV, wdW k aW sW]) (fun (u : St) => fl [wdX k aX aT aB aD aR aK aM aV aW sX, wdT k aT sT, wdB k aB sB, wdB k aD sD, wdR k aR u, wdK k aK sK, wdM k aM aJ sM, wdK k aJ sJ, wdV k aV sV, wdW k aW sW]) (fun (r : Int32) (u : St) => K r u) := by
  refine ConI.of (tb := tb_X9_go) (cc := cX9_go) (nL := 2) (by decide) rfl tbk_X9_go (Nat.le_of_ble_eq_true rfl) ?_
  intro x hl hD hk hg C rt
  subst hl hD hk hg
  exact w_X9_go C rt h
set_option maxHeartbeats 4000000 in
set_option maxRecDepth 100000 in
theorem w_X9_anew {x : CT} {aX aT aB aD aR aK aM aJ aV aW : Nat → Nat} {sX : St} {sT : St} {sB : St} {sD : St} {sR : St} {sK : St} {sM : St} {sJ : St} {sV : St} {sW : Int64} {K : Int32 → St → Prop} (C : Cx x cX9_anew tb_X9_anew 1 RX9 (Cond.code yX9_anew cX9_anew 1 (some .int) :: wsL_law) ({ frames := 1, cells := 0, slots := 0, locals := 21 } : Room)) (rt : RetI x 0 0 (fun (u : St) => fl [wdX (xk x) aX aT aB aD aR aK aM aV aW sX, wdT (xk x) aT sT, wdB (xk x) aB sB, wdB (xk x) aD sD, wdR (xk x) aR u, wdK (xk x) aK sK, wdM (xk x) aM aJ sM, wdK (xk x) aJ sJ, wdV (xk x) aV sV, wdW (xk x) aW sW]) (fun (r : Int32) (u : St) => K r u)) (h : wp_X9_anew sX sT sB sD sR sK sM sJ sV sW K) : Wx x 1 0 0 (fl [wdX (xk x) aX aT aB aD aR aK aM aV aW sX, wdT (xk x) aT sT, wdB (xk x) aB sB, wdB (xk x) aD sD, wdR (xk x) aR sR, wdK (xk x) aK sK, wdM (xk x) aM aJ sM, wdK (xk x) aJ sJ, wdV (xk x) aV sV, wdW (xk x) aW sW]) [(0, .ref (aX 0))] 0 [] := by
  unfold wp_X9_anew at h
  refine x_aload_n C 0 0 rfl 0 rfl rfl ?_
  refine x_get (v := .ref (aR 0)) C 1 1 rfl fi_X9 0 rfl rfl 3 (by decide) (mc wq_2_1) rfl ?_
  refine x_callGVI (ci := 3) (q0 := 0) (q := (RX5, TX5, 2)) C 2 4 (c_X5_empty (xl x) (xD x) (xk x) (xg x) aR sR _ h) rfl wwGood (mem4 wq_13_9 wq_13_10 wq_13_11 wq_2_0) wq_13_12 0 ok_X5_empty rfl ⟨by decide, by decide⟩ (Nat.le_of_ble_eq_true rfl) ⟨Nat.le_refl _, Nat.le_refl _⟩ ⟨rfl, rfl⟩ rfl rfl [wdX (xk x) aX aT aB aD aR aK aM aV aW sX, wdT (xk x) aT sT, wdB (xk x) aB sB, wdB (xk x) aD sD, wdK (xk x) aK sK, wdM (xk x) aM aJ sM, wdK (xk x) aJ sJ, wdV (xk x) aV sV, wdW (xk x) aW sW] (fun (u : St) => [wdX (xk x) aX aT aB aD aR aK aM aV aW sX, wdT (xk x) aT sT, wdB (xk x) aB sB, wdB (xk x) aD sD, wdR (xk x) aR u, wdK (xk x) aK sK, wdM (xk x) aM aJ sM, wdK (xk x) aJ sJ, wdV (xk x) aV sV, wdW (xk x) aW sW]) [0, 1, 2, 3, 5, 6, 7, 8, 9, 4] [0, 1, 2, 3, 9, 4, 5, 6, 7, 8] (show List.Perm [0, 1, 2, 3, 5, 6, 7, 8, 9, 4] (List.range 10) by decide) rfl 10 (fun _ => rfl) (by decide) (fun _ => rfl) (fun r1 u1 h => ?_)
  exact x_iret C rt 3 7 rfl u1 rfl h
theorem c_X9_anew (l : Launch) (D : va_G) (k : ClassId × ClassId) (g : Nat → Nat) (aX aT aB aD aR aK aM aJ aV aW : Nat → Nat) (sX : St) (sT : St) (sB : St) (sD : St) (sR : St) (sK : St) (sM : St) (sJ : St) (sV : St) (sW : Int64) (K : Int32 → St → Prop) (h : wp_X9_anew sX sT sB sD sR sK sM sJ sV sW K) : ConI l yX9_anew (Cond.code yX9_anew cX9_anew 1 (some .int) :: wsL_law) ({ frames := 1, cells := 0, slots := 0, locals := 21 } : Room) D k g [.ref (aX 0)] (fl [wdX k aX aT aB aD aR aK aM aV aW sX, wdT k aT sT, wdB k aB sB, wdB k aD sD, wdR k aR sR, wdK k aK sK, wdM k aM aJ sM, wdK k aJ sJ, wdV k aV sV, wdW k aW sW]) (fun (u : St) => fl [wdX k aX aT aB aD aR aK aM aV aW sX, wdT k aT sT, wdB k aB sB, wdB k aD sD, wdR k aR u, wdK k aK sK, wdM k aM aJ sM, wdK k aJ sJ, wdV k aV sV, wdW k aW sW]) (fun (r : Int32) (u : St) => K r u) := by
  refine ConI.of (tb := tb_X9_anew) (cc := cX9_anew) (nL := 1) (by decide) rfl tbk_X9_anew (Nat.le_of_ble_eq_true rfl) ?_
  intro x hl hD hk hg C rt
  subst hl hD hk hg
  exact w_X9_anew C rt h
set_option maxHeartbeats 4000000 in
set_option maxRecDepth 100000 in
theorem w_X9_trip {x : CT} {aX aT aB aD aR aK aM aJ aV aW : Nat → Nat} {sX : St} {sT : St} {sB : St} {sD : St} {sR : St} {sK : St} {sM : St} {sJ : St} {sV : St} {sW : Int64} {p1 : Int32} {K : Int32 → Prop} (C : Cx x cX9_trip tb_X9_trip 3 RX9 (Cond.code yX9_trip cX9_trip 3 (some .int) :: wsL_law) ({ frames := 3, cells := 0, slots := 0, locals := 71 } : Room)) (rt : RetI x 0 0 (fun (u : Unit) => fl [wdX (xk x) aX aT aB aD aR aK aM aV aW sX, wdT (xk x) aT sT, wdB (xk x) aB sB, wdB (xk x) aD sD, wdR (xk x) aR sR, wdK (xk x) aK sK, wdM (xk x) aM aJ sM, wdK (xk x) aJ sJ, wdV (xk x) aV sV, wdW (xk x) aW sW]) (fun (r : Int32) (_ : Unit) => K r)) (h : wp_X9_trip sX sT sB sD sR sK sM sJ sV sW p1 K) : Wx x 3 0 0 (fl [wdX (xk x) aX aT aB aD aR aK aM aV aW sX, wdT (xk x) aT sT, wdB (xk x) aB sB, wdB (xk x) aD sD, wdR (xk x) aR sR, wdK (xk x) aK sK, wdM (xk x) aM aJ sM, wdK (xk x) aJ sJ, wdV (xk x) aV sV, wdW (xk x) aW sW]) [(0, .ref (aX 0)), (1, .int p1)] 0 [] := by
  unfold wp_X9_trip at h
  refine x_iload_n C 0 0 rfl 1 rfl rfl ?_
  refine x_if_lt C 1 1 9 rfl rfl (fun c1 => ?_) (fun c1 => ?_)
  · replace h := h.1 c1
    refine x_iconst (v := (-1 : Int32)) C 5 9 rfl (by decide) ?_
    exact x_iret C rt 6 10 rfl () rfl h
  · replace h := h.2 c1
    refine x_iload_n C 2 4 rfl 1 rfl rfl ?_
    refine x_iconst (v := (2 : Int32)) C 3 5 rfl (by decide) ?_
    refine x_icmp_le C 4 6 11 rfl rfl (fun c2 => ?_) (fun c2 => ?_)
    · replace h := h.1 c2
      refine x_aload_n C 7 11 rfl 0 rfl rfl ?_
      refine x_get (v := .ref (aR 0)) C 8 12 rfl fi_X9 0 rfl rfl 3 (by decide) (mc wq_2_1) rfl ?_
      refine x_aload_n C 9 15 rfl 0 rfl rfl ?_
      refine x_get (v := .ref (aB 0)) C 10 16 rfl fi_X9 0 rfl rfl 1 (by decide) (mc wq_1_20) rfl ?_
      refine x_callGVZ (ci := 3) (q0 := 0) (q := (RX5, TX5, 2)) C 11 19 (c_X5_comesBack (xl x) (xD x) (xk x) (xg x) aR aB sR sB _ h) rfl wwGood (mem4 wq_28_13 wq_28_14 wq_28_15 wq_2_0) wq_28_16 1 ok_X5_comesBack rfl ⟨by decide, by decide⟩ (Nat.le_of_ble_eq_true rfl) ⟨Nat.le_refl _, Nat.le_refl _⟩ ⟨rfl, rfl⟩ rfl rfl [wdX (xk x) aX aT aB aD aR aK aM aV aW sX, wdT (xk x) aT sT, wdB (xk x) aD sD, wdK (xk x) aK sK, wdM (xk x) aM aJ sM, wdK (xk x) aJ sJ, wdV (xk x) aV sV, wdW (xk x) aW sW] (fun (u : Unit) => [wdX (xk x) aX aT aB aD aR aK aM aV aW sX, wdT (xk x) aT sT, wdB (xk x) aB sB, wdB (xk x) aD sD, wdR (xk x) aR sR, wdK (xk x) aK sK, wdM (xk x) aM aJ sM, wdK (xk x) aJ sJ, wdV (xk x) aV sV, wdW (xk x) aW sW]) [0, 1, 3, 5, 6, 7, 8, 9, 4, 2] [0, 1, 9, 2, 8, 3, 4, 5, 6, 7] (show List.Perm [0, 1, 3, 5, 6, 7, 8, 9, 4, 2] (List.range 10) by decide) rfl 10 (fun _ => rfl) (by decide) (fun _ => rfl) (fun r3 _ h => ?_)
      refine x_if_ne C 12 22 28 rfl rfl (fun c4 => ?_) (fun c4 => ?_)
      · replace h := h.2 c4
        refine x_aload_n C 15 28 rfl 0 rfl rfl ?_
        refine x_get (v := .ref (aR 0)) C 16 29 rfl fi_X9 0 rfl rfl 3 (by decide) (mc wq_2_1) rfl ?_
        refine x_aload_n C 17 32 rfl 0 rfl rfl ?_
        refine x_get (v := .ref (aB 0)) C 18 33 rfl fi_X9 0 rfl rfl 1 (by decide) (mc wq_1_20) rfl ?_
        refine x_callGVI (ci := 3) (q0 := 0) (q := (RX5, TX5, 2)) C 19 36 (c_X5_arcsOfAll (xl x) (xD x) (xk x) (xg x) aR aB sR sB _ h) rfl wwGood (mem4 wq_28_17 wq_28_18 wq_28_19 wq_2_0) wq_28_20 1 ok_X5_arcsOfAll rfl ⟨by decide, by decide⟩ (Nat.le_of_ble_eq_true rfl) ⟨Nat.le_refl _, Nat.le_refl _⟩ ⟨rfl, rfl⟩ rfl rfl [wdX (xk x) aX aT aB aD aR aK aM aV aW sX, wdT (xk x) aT sT, wdB (xk x) aD sD, wdK (xk x) aK sK, wdM (xk x) aM aJ sM, wdK (xk x) aJ sJ, wdV (xk x) aV sV, wdW (xk x) aW sW] (fun (u : Unit) => [wdX (xk x) aX aT aB aD aR aK aM aV aW sX, wdT (xk x) aT sT, wdB (xk x) aB sB, wdB (xk x) aD sD, wdR (xk x) aR sR, wdK (xk x) aK sK, wdM (xk x) aM aJ sM, wdK (xk x) aJ sJ, wdV (xk x) aV sV, wdW (xk x) aW sW]) [0, 1, 3, 5, 6, 7, 8, 9, 4, 2] [0, 1, 9, 2, 8, 3, 4, 5, 6, 7] (show List.Perm [0, 1, 3, 5, 6, 7, 8, 9, 4, 2] (List.range 10) by decide) rfl 10 (fun _ => rfl) (by decide) (fun _ => rfl) (fun r5 _ h => ?_)
        refine x_istore_n (lv' := [(1, .int p1), (2, .int r5)]) C 20 39 rfl rfl (by decide) [2, 0] rfl ?_
        refine x_iload_n C 21 40 rfl 0 rfl rfl ?_
        by_cases c6 : p1 = (0 : Int32)
        · replace h := h.1 c6
          refine x_lookIn C 22 41 68 rfl (by decide) (by rw [c6]) rfl ?_
          refine x_iload_n C 23 68 rfl 1 rfl rfl ?_
          refine x_call0SI C 24 69 (c_X0_toNumber (xl x) (xD x) (xk x) (xg x) r5 _ h) rfl wwGood (mem3 wq_17_3 wq_17_4 wq_12_20) wq_17_5 1 ok_X0_toNumber rfl ⟨by decide, by decide⟩ (Nat.le_of_ble_eq_true rfl) ⟨Nat.le_refl _, Nat.le_refl _⟩ ⟨rfl, rfl⟩ rfl (fun r7 _ h => ?_)
          exact x_iret C rt 25 72 rfl () rfl h
        · replace h := h.2 c6
          by_cases c8 : p1 = (1 : Int32)
          · replace h := h.1 c8
            refine x_lookIn C 22 41 73 rfl (by decide) (by rw [c8]) rfl ?_
            refine x_iload_n C 26 73 rfl 1 rfl rfl ?_
            refine x_call0SI C 27 74 (c_X0_threads (xl x) (xD x) (xk x) (xg x) r5 _ h) rfl wwGood (mem3 wq_28_23 wq_29_0 wq_12_20) wq_29_1 1 ok_X0_threads rfl ⟨by decide, by decide⟩ (Nat.le_of_ble_eq_true rfl) ⟨Nat.le_refl _, Nat.le_refl _⟩ ⟨rfl, rfl⟩ rfl (fun r9 _ h => ?_)
            exact x_iret C rt 28 77 rfl () rfl h
          · replace h := h.2 c8
            have nc6 := ne_toInt c6
            have nc8 := ne_toInt c8
            refine x_lookIn (off := 37) C 22 41 78 rfl (by decide) (by have zc6 : (0 : Int32).toInt = 0 := (by decide); rw [zc6] at nc6; have zc8 : (1 : Int32).toInt = 1 := (by decide); rw [zc8] at nc8; simp [Op.lookupswitch.offset, nc6, Ne.symm nc6, nc8, Ne.symm nc8]) rfl ?_
            refine x_iload_n C 29 78 rfl 1 rfl rfl ?_
            refine x_call0SZ C 30 79 (c_X0_falls (xl x) (xD x) (xk x) (xg x) r5 _ h) rfl wwGood (mem3 wq_29_6 wq_29_7 wq_12_20) wq_29_8 1 ok_X0_falls rfl ⟨by decide, by decide⟩ (Nat.le_of_ble_eq_true rfl) ⟨Nat.le_refl _, Nat.le_refl _⟩ ⟨rfl, rfl⟩ rfl (fun r10 _ h => ?_)
            refine x_if_eq C 31 82 89 rfl rfl (fun c11 => ?_) (fun c11 => ?_)
            · replace h := h.1 c11
              refine x_iconst (v := (0 : Int32)) C 34 89 rfl (by decide) ?_
              exact x_iret C rt 35 90 rfl () rfl h
            · replace h := h.2 c11
              refine x_iconst (v := (1 : Int32)) C 32 85 rfl (by decide) ?_
              refine x_goto C 33 86 90 rfl rfl ?_
              exact x_iret C rt 35 90 rfl () rfl h
      · replace h := h.1 c4
        refine x_bipush (v := (-2 : Int32)) C 13 25 rfl (by decide) ?_
        exact x_iret C rt 14 27 rfl () rfl h
    · replace h := h.2 c2
      refine x_iconst (v := (-1 : Int32)) C 5 9 rfl (by decide) ?_
      exact x_iret C rt 6 10 rfl () rfl h
theorem c_X9_trip (l : Launch) (D : va_G) (k : ClassId × ClassId) (g : Nat → Nat) (aX aT aB aD aR aK aM aJ aV aW : Nat → Nat) (sX : St) (sT : St) (sB : St) (sD : St) (sR : St) (sK : St) (sM : St) (sJ : St) (sV : St) (sW : Int64) (p1 : Int32) (K : Int32 → Prop) (h : wp_X9_trip sX sT sB sD sR sK sM sJ sV sW p1 K) : ConI l yX9_trip (Cond.code yX9_trip cX9_trip 3 (some .int) :: wsL_law) ({ frames := 3, cells := 0, slots := 0, locals := 71 } : Room) D k g [.ref (aX 0), .int p1] (fl [wdX k aX aT aB aD aR aK aM aV aW sX, wdT k aT sT, wdB k aB sB, wdB k aD sD, wdR k aR sR, wdK k aK sK, wdM k aM aJ sM, wdK k aJ sJ, wdV k aV sV, wdW k aW sW]) (fun (u : Unit) => fl [wdX k aX aT aB aD aR aK aM aV aW sX, wdT k aT sT, wdB k aB sB, wdB k aD sD, wdR k aR sR, wdK k aK sK, wdM k aM aJ sM, wdK k aJ sJ, wdV k aV sV, wdW k aW sW]) (fun (r : Int32) (_ : Unit) => K r) := by
  refine ConI.of (tb := tb_X9_trip) (cc := cX9_trip) (nL := 3) (by decide) rfl tbk_X9_trip (Nat.le_of_ble_eq_true rfl) ?_
  intro x hl hD hk hg C rt
  subst hl hD hk hg
  exact w_X9_trip C rt h
set_option maxHeartbeats 4000000 in
set_option maxRecDepth 100000 in
theorem w_X9_isOrderOf_2 {x : CT} {x0 : Int32} {x1 : Int32} {K : Int32 → Prop} (C : Cx x cX9_isOrderOf tb_X9_isOrderOf 3 RX9 (Cond.code yX9_isOrderOf cX9_isOrderOf 3 (some .boolean) :: wsL_law) ({ frames := 0, cells := 0, slots := 0, locals := 0 } : Room)) (rt : RetZ x 0 0 (fun (u : Unit) => fl []) (fun (r : Int32) (_ : Unit) => K r))  {q1 : Int32} (h : Lp (F_X9_isOrderOf_2 x0 x1 K) q1) : Wx x 3 0 0 (fl []) [(0, .int x0), (1, .int x1), (2, .int q1)] 2 [] := by
  refine lp_walk (P := fun q1 => Wx x 3 0 0 (fl []) [(0, .int x0), (1, .int x1), (2, .int q1)] 2 []) (fun q1 R2 hR2 h => ?_) h
  refine x_iload_n C 2 2 rfl 2 rfl rfl ?_
  refine x_iconst (v := (3 : Int32)) C 3 3 rfl (by decide) ?_
  refine x_icmp_ge C 4 4 26 rfl rfl (fun c2 => ?_) (fun c2 => ?_)
  · replace h := h.1 c2
    refine x_iconst (v := (1 : Int32)) C 18 26 rfl (by decide) ?_
    exact x_zret C rt 19 27 rfl zb_1 () rfl h
  · replace h := h.2 c2
    refine x_iload_n C 5 7 rfl 0 rfl rfl ?_
    refine x_iconst (v := (2 : Int32)) C 6 8 rfl (by decide) ?_
    refine x_iload_n C 7 9 rfl 2 rfl rfl ?_
    refine x_imul C 8 10 rfl ?_
    refine x_ishr C 9 11 rfl ?_
    refine x_iconst (v := (3 : Int32)) C 10 12 rfl (by decide) ?_
    refine x_iand C 11 13 rfl ?_
    refine x_iload_n C 12 14 rfl 1 rfl rfl ?_
    refine x_icmp_le C 13 15 20 rfl rfl (fun c3 => ?_) (fun c3 => ?_)
    · replace h := h.1 c3
      obtain ⟨y4, ey4⟩ : ∃ y : Int32, y = q1 + (1 : Int32) := ⟨_, rfl⟩
      replace h := h y4 ey4
      refine x_iinc (v := y4) (lv' := [(0, .int x0), (1, .int x1), (2, .int y4)]) C 16 20 rfl 2 rfl (by rw [ey4]; rfl) (by decide) [1, 2, 0] rfl ?_
      refine x_goto C 17 23 2 rfl rfl ?_
      exact x_sub [0, 1, 2] rfl (hR2 y4 h)
    · replace h := h.2 c3
      refine x_iconst (v := (0 : Int32)) C 14 18 rfl (by decide) ?_
      exact x_zret C rt 15 19 rfl zb_0 () rfl h
set_option maxHeartbeats 4000000 in
set_option maxRecDepth 100000 in
theorem w_X9_isOrderOf {x : CT} {p1 : Int32} {p2 : Int32} {K : Int32 → Prop} (C : Cx x cX9_isOrderOf tb_X9_isOrderOf 3 RX9 (Cond.code yX9_isOrderOf cX9_isOrderOf 3 (some .boolean) :: wsL_law) ({ frames := 0, cells := 0, slots := 0, locals := 0 } : Room)) (rt : RetZ x 0 0 (fun (u : Unit) => fl []) (fun (r : Int32) (_ : Unit) => K r)) (h : wp_X9_isOrderOf p1 p2 K) : Wx x 3 0 0 (fl []) [(0, .int p1), (1, .int p2)] 0 [] := by
  unfold wp_X9_isOrderOf at h
  refine x_iconst (v := (0 : Int32)) C 0 0 rfl (by decide) ?_
  refine x_istore_n (lv' := [(0, .int p1), (1, .int p2), (2, .int (0 : Int32))]) C 1 1 rfl rfl (by decide) [1, 2, 0] rfl ?_
  refine x_sub (lv' := [(0, .int p1), (1, .int p2), (2, .int (0 : Int32))]) [0, 1, 2] rfl (w_X9_isOrderOf_2 C rt h)
theorem c_X9_isOrderOf (l : Launch) (D : va_G) (k : ClassId × ClassId) (g : Nat → Nat) (p1 : Int32) (p2 : Int32) (K : Int32 → Prop) (h : wp_X9_isOrderOf p1 p2 K) : ConZ l yX9_isOrderOf (Cond.code yX9_isOrderOf cX9_isOrderOf 3 (some .boolean) :: wsL_law) ({ frames := 0, cells := 0, slots := 0, locals := 0 } : Room) D k g [.int p1, .int p2] (fl []) (fun (u : Unit) => fl []) (fun (r : Int32) (_ : Unit) => K r) := by
  refine ConZ.of (tb := tb_X9_isOrderOf) (cc := cX9_isOrderOf) (nL := 3) (by decide) rfl tbk_X9_isOrderOf (Nat.le_of_ble_eq_true rfl) ?_
  intro x hl hD hk hg C rt
  subst hl hD hk hg
  exact w_X9_isOrderOf C rt h
set_option maxHeartbeats 4000000 in
set_option maxRecDepth 100000 in
theorem w_X9_slow_21 {x : CT} {aX aT aB aD aR aK aM aJ aV aW : Nat → Nat} {sX : St} {sT : St} {sB : St} {sD : St} {sR : St} {sK : St} {sM : St} {sJ : St} {sV : St} {sW : Int64} {x1 : Int32} {K : Int32 → (St × St) → Prop} (C : Cx x cX9_slow tb_X9_slow 3 RX9 (Cond.code yX9_slow cX9_slow 3 (some .int) :: wsL_law) ({ frames := 5, cells := 0, slots := 0, locals := 119 } : Room)) (rt : RetI x 0 0 (fun (u : St × St) => fl [wdX (xk x) aX aT aB aD aR aK aM aV aW u.1, wdT (xk x) aT sT, wdB (xk x) aB sB, wdB (xk x) aD sD, wdR (xk x) aR sR, wdK (xk x) aK u.2, wdM (xk x) aM aJ sM, wdK (xk x) aJ sJ, wdV (xk x) aV sV, wdW (xk x) aW sW]) (fun (r : Int32) (u : St × St) => K r u))  {q5 : Int32} (h : Lp (F_X9_slow_21 sX sB sK x1 K) q5) : Wx x 3 0 0 (fl [wdX (xk x) aX aT aB aD aR aK aM aV aW sX, wdT (xk x) aT sT, wdB (xk x) aB sB, wdB (xk x) aD sD, wdR (xk x) aR sR, wdK (xk x) aK sK, wdM (xk x) aM aJ sM, wdK (xk x) aJ sJ, wdV (xk x) aV sV, wdW (xk x) aW sW]) [(0, .ref (aX 0)), (1, .int x1), (2, .int q5)] 21 [] := by
  refine lp_walk (P := fun q5 => Wx x 3 0 0 (fl [wdX (xk x) aX aT aB aD aR aK aM aV aW sX, wdT (xk x) aT sT, wdB (xk x) aB sB, wdB (xk x) aD sD, wdR (xk x) aR sR, wdK (xk x) aK sK, wdM (xk x) aM aJ sM, wdK (xk x) aJ sJ, wdV (xk x) aV sV, wdW (xk x) aW sW]) [(0, .ref (aX 0)), (1, .int x1), (2, .int q5)] 21 []) (fun q5 R21 hR21 h => ?_) h
  refine x_iload_n C 12 21 rfl 2 rfl rfl ?_
  refine x_gets0 C 13 22 rfl (mc wq_30_3) ?_
  refine x_tlen0 C 14 25 rfl ?_
  refine x_icmp_ge C 15 26 77 rfl rfl (fun c6 => ?_) (fun c6 => ?_)
  · replace h := h.1 c6
    refine x_bipush (v := (-9 : Int32)) C 40 77 rfl (by decide) ?_
    exact x_iret C rt 41 79 rfl (sX, sK) rfl h
  · replace h := h.2 c6
    refine x_gets0 C 16 29 rfl (mc wq_30_3) ?_
    refine x_iload_n C 17 32 rfl 2 rfl rfl ?_
    obtain ⟨hi, h⟩ := h
    refine x_tld0 C 18 33 rfl hi ?_
    refine x_aload_n C 19 34 rfl 0 rfl rfl ?_
    refine x_get (v := .ref (aB 0)) C 20 35 rfl fi_X9 0 rfl rfl 1 (by decide) (mc wq_1_20) rfl ?_
    refine x_get (v := .ref (aB 1)) C 21 38 rfl fi_X1 3 rfl rfl 0 (by decide) (mc wq_16_4) rfl ?_
    refine x_iload_n C 22 41 rfl 1 rfl rfl ?_
    obtain ⟨hi, h⟩ := h
    refine x_iald (f := sB 0) C 23 42 rfl 4 rfl hi ?_
    refine x_call0SZ C 24 43 (c_X9_isOrderOf (xl x) (xD x) (xk x) (xg x) (ORD q5.toNatClampNeg) (sB 0 x1.toNatClampNeg) _ h) rfl wwGood (mem3 wq_30_4 wq_30_5 wq_1_2) wq_30_6 2 ok_X9_isOrderOf rfl ⟨by decide, by decide⟩ (Nat.le_of_ble_eq_true rfl) ⟨Nat.le_refl _, Nat.le_refl _⟩ ⟨rfl, rfl⟩ rfl (fun r7 _ h => ?_)
    refine x_if_eq C 25 46 71 rfl rfl (fun c8 => ?_) (fun c8 => ?_)
    · replace h := h.1 c8
      obtain ⟨y9, ey9⟩ : ∃ y : Int32, y = q5 + (1 : Int32) := ⟨_, rfl⟩
      replace h := h y9 ey9
      refine x_iinc (v := y9) (lv' := [(0, .ref (aX 0)), (1, .int x1), (2, .int y9)]) C 38 71 rfl 2 rfl (by rw [ey9]; rfl) (by decide) [1, 2, 0] rfl ?_
      refine x_goto C 39 74 21 rfl rfl ?_
      exact x_sub [0, 1, 2] rfl (hR21 y9 h)
    · replace h := h.2 c8
      refine x_aload_n C 26 49 rfl 0 rfl rfl ?_
      refine x_get (v := .ref (aK 0)) C 27 50 rfl fi_X9 0 rfl rfl 4 (by decide) (mc wq_2_5) rfl ?_
      refine x_gets0 C 28 53 rfl (mc wq_30_3) ?_
      refine x_iload_n C 29 56 rfl 2 rfl rfl ?_
      obtain ⟨hi, h⟩ := h
      refine x_tld0 C 30 57 rfl hi ?_
      refine x_iload_n C 31 58 rfl 1 rfl rfl ?_
      refine x_callGVZ (ci := 1) (q0 := 0) (q := (RX2, TX2, 12)) C 32 59 (c_X2_fallsBy (xl x) (xD x) (xk x) (xg x) aK sK (ORD q5.toNatClampNeg) x1 _ h) rfl wwGood (mem4 wq_30_7 wq_30_8 wq_30_9 wq_2_4) wq_30_10 2 ok_X2_fallsBy rfl ⟨by decide, by decide⟩ (Nat.le_of_ble_eq_true rfl) ⟨Nat.le_refl _, Nat.le_refl _⟩ ⟨rfl, rfl⟩ rfl rfl [wdX (xk x) aX aT aB aD aR aK aM aV aW sX, wdT (xk x) aT sT, wdB (xk x) aB sB, wdB (xk x) aD sD, wdR (xk x) aR sR, wdM (xk x) aM aJ sM, wdK (xk x) aJ sJ, wdV (xk x) aV sV, wdW (xk x) aW sW] (fun (u : Unit) => [wdX (xk x) aX aT aB aD aR aK aM aV aW sX, wdT (xk x) aT sT, wdB (xk x) aB sB, wdB (xk x) aD sD, wdR (xk x) aR sR, wdK (xk x) aK sK, wdM (xk x) aM aJ sM, wdK (xk x) aJ sJ, wdV (xk x) aV sV, wdW (xk x) aW sW]) [0, 1, 2, 3, 4, 6, 7, 8, 9, 5] [0, 1, 2, 3, 4, 9, 5, 6, 7, 8] (show List.Perm [0, 1, 2, 3, 4, 6, 7, 8, 9, 5] (List.range 10) by decide) rfl 10 (fun _ => rfl) (by decide) (fun _ => rfl) (fun r10 _ h => ?_)
      refine x_if_eq C 33 62 71 rfl rfl (fun c11 => ?_) (fun c11 => ?_)
      · replace h := h.1 c11
        obtain ⟨y12, ey12⟩ : ∃ y : Int32, y = q5 + (1 : Int32) := ⟨_, rfl⟩
        replace h := h y12 ey12
        refine x_iinc (v := y12) (lv' := [(0, .ref (aX 0)), (1, .int x1), (2, .int y12)]) C 38 71 rfl 2 rfl (by rw [ey12]; rfl) (by decide) [1, 2, 0] rfl ?_
        refine x_goto C 39 74 21 rfl rfl ?_
        exact x_sub [0, 1, 2] rfl (hR21 y12 h)
      · replace h := h.2 c11
        refine x_gets0 C 34 65 rfl (mc wq_30_3) ?_
        refine x_iload_n C 35 68 rfl 2 rfl rfl ?_
        obtain ⟨hi, h⟩ := h
        refine x_tld0 C 36 69 rfl hi ?_
        exact x_iret C rt 37 70 rfl (sX, sK) rfl h
set_option maxHeartbeats 4000000 in
set_option maxRecDepth 100000 in
theorem w_X9_slow {x : CT} {aX aT aB aD aR aK aM aJ aV aW : Nat → Nat} {sX : St} {sT : St} {sB : St} {sD : St} {sR : St} {sK : St} {sM : St} {sJ : St} {sV : St} {sW : Int64} {p1 : Int32} {K : Int32 → (St × St) → Prop} (C : Cx x cX9_slow tb_X9_slow 3 RX9 (Cond.code yX9_slow cX9_slow 3 (some .int) :: wsL_law) ({ frames := 5, cells := 0, slots := 0, locals := 119 } : Room)) (rt : RetI x 0 0 (fun (u : St × St) => fl [wdX (xk x) aX aT aB aD aR aK aM aV aW u.1, wdT (xk x) aT sT, wdB (xk x) aB sB, wdB (xk x) aD sD, wdR (xk x) aR sR, wdK (xk x) aK u.2, wdM (xk x) aM aJ sM, wdK (xk x) aJ sJ, wdV (xk x) aV sV, wdW (xk x) aW sW]) (fun (r : Int32) (u : St × St) => K r u)) (h : wp_X9_slow sX sT sB sD sR sK sM sJ sV sW p1 K) : Wx x 3 0 0 (fl [wdX (xk x) aX aT aB aD aR aK aM aV aW sX, wdT (xk x) aT sT, wdB (xk x) aB sB, wdB (xk x) aD sD, wdR (xk x) aR sR, wdK (xk x) aK sK, wdM (xk x) aM aJ sM, wdK (xk x) aJ sJ, wdV (xk x) aV sV, wdW (xk x) aW sW]) [(0, .ref (aX 0)), (1, .int p1)] 0 [] := by
  unfold wp_X9_slow at h
  refine x_iload_n C 0 0 rfl 1 rfl rfl ?_
  refine x_call0SZ C 1 1 (c_X9_isAct (xl x) (xD x) (xk x) (xg x) p1 _ h) rfl wwGood (mem3 wq_16_5 wq_16_6 wq_1_2) wq_16_7 1 ok_X9_isAct rfl ⟨by decide, by decide⟩ (Nat.le_of_ble_eq_true rfl) ⟨Nat.le_refl _, Nat.le_refl _⟩ ⟨rfl, rfl⟩ rfl (fun r1 _ h => ?_)
  refine x_if_ne C 2 4 9 rfl rfl (fun c2 => ?_) (fun c2 => ?_)
  · replace h := h.2 c2
    refine x_aload_n C 5 9 rfl 0 rfl rfl ?_
    refine x_callWVZ (ci := 7) (q0 := 0) (q := (RX9, TX9, 9)) C 6 10 (c_X9_isLarge (xl x) (xD x) (xk x) (xg x) aX aT aB aD aR aK aM aJ aV aW sX sT sB sD sR sK sM sJ sV sW _ h) rfl wwGood (mem4 wq_19_3 wq_19_4 wq_19_5 wq_1_2) wq_19_6 0 ok_X9_isLarge rfl ⟨by decide, by decide⟩ (Nat.le_of_ble_eq_true rfl) ⟨Nat.le_refl _, Nat.le_refl _⟩ ⟨rfl, rfl⟩ rfl rfl rfl (fun r3 u3 h => ?_)
    refine x_if_eq C 7 13 19 rfl rfl (fun c4 => ?_) (fun c4 => ?_)
    · replace h := h.1 c4
      refine x_iconst (v := (0 : Int32)) C 10 19 rfl (by decide) ?_
      refine x_istore_n (lv' := [(0, .ref (aX 0)), (1, .int p1), (2, .int (0 : Int32))]) C 11 20 rfl rfl (by decide) [1, 2, 0] rfl ?_
      refine x_sub (lv' := [(0, .ref (aX 0)), (1, .int p1), (2, .int (0 : Int32))]) [0, 1, 2] rfl (w_X9_slow_21 C rt h)
    · replace h := h.2 c4
      refine x_bipush (v := (-2 : Int32)) C 8 16 rfl (by decide) ?_
      exact x_iret C rt 9 18 rfl (u3.1, u3.2) rfl h
  · replace h := h.1 c2
    refine x_iconst (v := (-1 : Int32)) C 3 7 rfl (by decide) ?_
    exact x_iret C rt 4 8 rfl (sX, sK) rfl h
theorem c_X9_slow (l : Launch) (D : va_G) (k : ClassId × ClassId) (g : Nat → Nat) (aX aT aB aD aR aK aM aJ aV aW : Nat → Nat) (sX : St) (sT : St) (sB : St) (sD : St) (sR : St) (sK : St) (sM : St) (sJ : St) (sV : St) (sW : Int64) (p1 : Int32) (K : Int32 → (St × St) → Prop) (h : wp_X9_slow sX sT sB sD sR sK sM sJ sV sW p1 K) : ConI l yX9_slow (Cond.code yX9_slow cX9_slow 3 (some .int) :: wsL_law) ({ frames := 5, cells := 0, slots := 0, locals := 119 } : Room) D k g [.ref (aX 0), .int p1] (fl [wdX k aX aT aB aD aR aK aM aV aW sX, wdT k aT sT, wdB k aB sB, wdB k aD sD, wdR k aR sR, wdK k aK sK, wdM k aM aJ sM, wdK k aJ sJ, wdV k aV sV, wdW k aW sW]) (fun (u : St × St) => fl [wdX k aX aT aB aD aR aK aM aV aW u.1, wdT k aT sT, wdB k aB sB, wdB k aD sD, wdR k aR sR, wdK k aK u.2, wdM k aM aJ sM, wdK k aJ sJ, wdV k aV sV, wdW k aW sW]) (fun (r : Int32) (u : St × St) => K r u) := by
  refine ConI.of (tb := tb_X9_slow) (cc := cX9_slow) (nL := 3) (by decide) rfl tbk_X9_slow (Nat.le_of_ble_eq_true rfl) ?_
  intro x hl hD hk hg C rt
  subst hl hD hk hg
  exact w_X9_slow C rt h
set_option maxHeartbeats 4000000 in
set_option maxRecDepth 100000 in
theorem w_X9_mended {x : CT} {aX aT aB aD aR aK aM aJ aV aW : Nat → Nat} {sX : St} {sT : St} {sB : St} {sD : St} {sR : St} {sK : St} {sM : St} {sJ : St} {sV : St} {sW : Int64} {p1 : Int32} {K : Int32 → (St × St × St × St) → Prop} (C : Cx x cX9_mended tb_X9_mended 3 RX9 (Cond.code yX9_mended cX9_mended 3 (some .int) :: wsL_law) ({ frames := 6, cells := 0, slots := 0, locals := 146 } : Room)) (rt : RetI x 0 0 (fun (u : St × St × St × St) => fl [wdX (xk x) aX aT aB aD aR aK aM aV aW u.1, wdT (xk x) aT sT, wdB (xk x) aB sB, wdB (xk x) aD sD, wdR (xk x) aR sR, wdK (xk x) aK u.2.1, wdM (xk x) aM aJ u.2.2.1, wdK (xk x) aJ u.2.2.2, wdV (xk x) aV sV, wdW (xk x) aW sW]) (fun (r : Int32) (u : St × St × St × St) => K r u)) (h : wp_X9_mended sX sT sB sD sR sK sM sJ sV sW p1 K) : Wx x 3 0 0 (fl [wdX (xk x) aX aT aB aD aR aK aM aV aW sX, wdT (xk x) aT sT, wdB (xk x) aB sB, wdB (xk x) aD sD, wdR (xk x) aR sR, wdK (xk x) aK sK, wdM (xk x) aM aJ sM, wdK (xk x) aJ sJ, wdV (xk x) aV sV, wdW (xk x) aW sW]) [(0, .ref (aX 0)), (1, .int p1)] 0 [] := by
  unfold wp_X9_mended at h
  refine x_iload_n C 0 0 rfl 1 rfl rfl ?_
  refine x_if_lt C 1 1 9 rfl rfl (fun c1 => ?_) (fun c1 => ?_)
  · replace h := h.1 c1
    refine x_iconst (v := (-1 : Int32)) C 5 9 rfl (by decide) ?_
    exact x_iret C rt 6 10 rfl (sX, sK, sM, sJ) rfl h
  · replace h := h.2 c1
    refine x_iload_n C 2 4 rfl 1 rfl rfl ?_
    refine x_iconst (v := (1 : Int32)) C 3 5 rfl (by decide) ?_
    refine x_icmp_le C 4 6 11 rfl rfl (fun c2 => ?_) (fun c2 => ?_)
    · replace h := h.1 c2
      refine x_aload_n C 7 11 rfl 0 rfl rfl ?_
      refine x_callWVZ (ci := 7) (q0 := 0) (q := (RX9, TX9, 9)) C 8 12 (c_X9_isLarge (xl x) (xD x) (xk x) (xg x) aX aT aB aD aR aK aM aJ aV aW sX sT sB sD sR sK sM sJ sV sW _ h) rfl wwGood (mem4 wq_19_3 wq_19_4 wq_19_5 wq_1_2) wq_19_6 0 ok_X9_isLarge rfl ⟨by decide, by decide⟩ (Nat.le_of_ble_eq_true rfl) ⟨Nat.le_refl _, Nat.le_refl _⟩ ⟨rfl, rfl⟩ rfl rfl rfl (fun r3 u3 h => ?_)
      refine x_if_eq C 9 15 21 rfl rfl (fun c4 => ?_) (fun c4 => ?_)
      · replace h := h.1 c4
        refine x_aload_n C 12 21 rfl 0 rfl rfl ?_
        refine x_get (v := .ref (aM 0)) C 13 22 rfl fi_X9 0 rfl rfl 5 (by decide) (mc wq_2_9) rfl ?_
        refine x_aload_n C 14 25 rfl 0 rfl rfl ?_
        refine x_get (v := .ref (aB 0)) C 15 26 rfl fi_X9 0 rfl rfl 1 (by decide) (mc wq_1_20) rfl ?_
        refine x_callGVI (ci := 2) (q0 := 0) (q := (RX4, TX4, 8)) C 16 29 (c_X4_leastSet (xl x) (xD x) (xk x) (xg x) aM aJ aB sM sJ sB _ h) rfl wwGood (mem4 wq_31_8 wq_31_9 wq_31_10 wq_2_8) wq_31_11 1 ok_X4_leastSet rfl ⟨by decide, by decide⟩ (Nat.le_of_ble_eq_true rfl) ⟨Nat.le_refl _, Nat.le_refl _⟩ ⟨rfl, rfl⟩ rfl rfl [wdX (xk x) aX aT aB aD aR aK aM aV aW u3.1, wdT (xk x) aT sT, wdB (xk x) aD sD, wdR (xk x) aR sR, wdK (xk x) aK u3.2, wdV (xk x) aV sV, wdW (xk x) aW sW] (fun (u : St × St) => [wdX (xk x) aX aT aB aD aR aK aM aV aW u3.1, wdT (xk x) aT sT, wdB (xk x) aB sB, wdB (xk x) aD sD, wdR (xk x) aR sR, wdK (xk x) aK u3.2, wdM (xk x) aM aJ u.1, wdK (xk x) aJ u.2, wdV (xk x) aV sV, wdW (xk x) aW sW]) [0, 1, 3, 4, 5, 8, 9, 6, 7, 2] [0, 1, 9, 2, 3, 4, 7, 8, 5, 6] (show List.Perm [0, 1, 3, 4, 5, 8, 9, 6, 7, 2] (List.range 10) by decide) rfl 10 (fun _ => rfl) (by decide) (fun _ => rfl) (fun r5 u5 h => ?_)
        refine x_istore_n (lv' := [(1, .int p1), (2, .int r5)]) C 17 32 rfl rfl (by decide) [2, 0] rfl ?_
        refine x_iload_n C 18 33 rfl 0 rfl rfl ?_
        refine x_if_ne C 19 34 44 rfl rfl (fun c6 => ?_) (fun c6 => ?_)
        · replace h := h.2 c6
          refine x_iload_n C 23 44 rfl 1 rfl rfl ?_
          exact x_iret C rt 24 45 rfl (u3.1, u3.2, u5.1, u5.2) rfl h
        · replace h := h.1 c6
          refine x_iload_n C 20 37 rfl 1 rfl rfl ?_
          refine x_call0SI C 21 38 (c_J6_bitCount_0f7a4 (xl x) (xD x) (xk x) (xg x) r5 _ h) rfl wwGood (mem3 wq_32_7 wq_31_15 wq_31_16) wq_31_17 1 ok_J6_bitCount_0f7a4 rfl ⟨by decide, by decide⟩ (Nat.le_of_ble_eq_true rfl) ⟨Nat.le_refl _, Nat.le_refl _⟩ ⟨rfl, rfl⟩ rfl (fun r7 _ h => ?_)
          refine x_goto C 22 41 45 rfl rfl ?_
          exact x_iret C rt 24 45 rfl (u3.1, u3.2, u5.1, u5.2) rfl h
      · replace h := h.2 c4
        refine x_bipush (v := (-2 : Int32)) C 10 18 rfl (by decide) ?_
        exact x_iret C rt 11 20 rfl (u3.1, u3.2, sM, sJ) rfl h
    · replace h := h.2 c2
      refine x_iconst (v := (-1 : Int32)) C 5 9 rfl (by decide) ?_
      exact x_iret C rt 6 10 rfl (sX, sK, sM, sJ) rfl h
theorem c_X9_mended (l : Launch) (D : va_G) (k : ClassId × ClassId) (g : Nat → Nat) (aX aT aB aD aR aK aM aJ aV aW : Nat → Nat) (sX : St) (sT : St) (sB : St) (sD : St) (sR : St) (sK : St) (sM : St) (sJ : St) (sV : St) (sW : Int64) (p1 : Int32) (K : Int32 → (St × St × St × St) → Prop) (h : wp_X9_mended sX sT sB sD sR sK sM sJ sV sW p1 K) : ConI l yX9_mended (Cond.code yX9_mended cX9_mended 3 (some .int) :: wsL_law) ({ frames := 6, cells := 0, slots := 0, locals := 146 } : Room) D k g [.ref (aX 0), .int p1] (fl [wdX k aX aT aB aD aR aK aM aV aW sX, wdT k aT sT, wdB k aB sB, wdB k aD sD, wdR k aR sR, wdK k aK sK, wdM k aM aJ sM, wdK k aJ sJ, wdV k aV sV, wdW k aW sW]) (fun (u : St × St × St × St) => fl [wdX k aX aT aB aD aR aK aM aV aW u.1, wdT k aT sT, wdB k aB sB, wdB k aD sD, wdR k aR sR, wdK k aK u.2.1, wdM k aM aJ u.2.2.1, wdK k aJ u.2.2.2, wdV k aV sV, wdW k aW sW]) (fun (r : Int32) (u : St × St × St × St) => K r u) := by
  refine ConI.of (tb := tb_X9_mended) (cc := cX9_mended) (nL := 3) (by decide) rfl tbk_X9_mended (Nat.le_of_ble_eq_true rfl) ?_
  intro x hl hD hk hg C rt
  subst hl hD hk hg
  exact w_X9_mended C rt h
set_option maxHeartbeats 4000000 in
set_option maxRecDepth 100000 in
theorem w_X9_needed {x : CT} {aX aT aB aD aR aK aM aJ aV aW : Nat → Nat} {sX : St} {sT : St} {sB : St} {sD : St} {sR : St} {sK : St} {sM : St} {sJ : St} {sV : St} {sW : Int64} {p1 : Int32} {K : Int32 → (St × St × St × St × St) → Prop} (C : Cx x cX9_needed tb_X9_needed 2 RX9 (Cond.code yX9_needed cX9_needed 2 (some .int) :: wsL_law) ({ frames := 6, cells := 0, slots := 0, locals := 147 } : Room)) (rt : RetI x 0 0 (fun (u : St × St × St × St × St) => fl [wdX (xk x) aX aT aB aD aR aK aM aV aW u.1, wdT (xk x) aT sT, wdB (xk x) aB u.2.1, wdB (xk x) aD sD, wdR (xk x) aR sR, wdK (xk x) aK u.2.2.1, wdM (xk x) aM aJ u.2.2.2.1, wdK (xk x) aJ u.2.2.2.2, wdV (xk x) aV sV, wdW (xk x) aW sW]) (fun (r : Int32) (u : St × St × St × St × St) => K r u)) (h : wp_X9_needed sX sT sB sD sR sK sM sJ sV sW p1 K) : Wx x 2 0 0 (fl [wdX (xk x) aX aT aB aD aR aK aM aV aW sX, wdT (xk x) aT sT, wdB (xk x) aB sB, wdB (xk x) aD sD, wdR (xk x) aR sR, wdK (xk x) aK sK, wdM (xk x) aM aJ sM, wdK (xk x) aJ sJ, wdV (xk x) aV sV, wdW (xk x) aW sW]) [(0, .ref (aX 0)), (1, .int p1)] 0 [] := by
  unfold wp_X9_needed at h
  refine x_iload_n C 0 0 rfl 1 rfl rfl ?_
  refine x_iconst (v := (-1 : Int32)) C 1 1 rfl (by decide) ?_
  refine x_icmp_ge C 2 2 7 rfl rfl (fun c1 => ?_) (fun c1 => ?_)
  · replace h := h.1 c1
    refine x_aload_n C 5 7 rfl 0 rfl rfl ?_
    refine x_callWVZ (ci := 7) (q0 := 0) (q := (RX9, TX9, 9)) C 6 8 (c_X9_isLarge (xl x) (xD x) (xk x) (xg x) aX aT aB aD aR aK aM aJ aV aW sX sT sB sD sR sK sM sJ sV sW _ h) rfl wwGood (mem4 wq_19_3 wq_19_4 wq_19_5 wq_1_2) wq_19_6 0 ok_X9_isLarge rfl ⟨by decide, by decide⟩ (Nat.le_of_ble_eq_true rfl) ⟨Nat.le_refl _, Nat.le_refl _⟩ ⟨rfl, rfl⟩ rfl rfl rfl (fun r2 u2 h => ?_)
    refine x_if_ne C 7 11 38 rfl rfl (fun c3 => ?_) (fun c3 => ?_)
    · replace h := h.2 c3
      refine x_bipush (v := (-2 : Int32)) C 18 38 rfl (by decide) ?_
      exact x_iret C rt 19 40 rfl (u2.1, sB, u2.2, sM, sJ) rfl h
    · replace h := h.1 c3
      refine x_aload_n C 8 14 rfl 0 rfl rfl ?_
      refine x_get (v := .ref (aK 0)) C 9 15 rfl fi_X9 0 rfl rfl 4 (by decide) (mc wq_2_5) rfl ?_
      refine x_get (v := .int (u2.2 11 0)) C 10 18 rfl fi_X2 15 rfl rfl 11 (by decide) (mc wq_25_21) rfl ?_
      refine x_if_ne C 11 21 38 rfl rfl (fun c4 => ?_) (fun c4 => ?_)
      · replace h := h.2 c4
        refine x_bipush (v := (-2 : Int32)) C 18 38 rfl (by decide) ?_
        exact x_iret C rt 19 40 rfl (u2.1, sB, u2.2, sM, sJ) rfl h
      · replace h := h.1 c4
        refine x_aload_n C 12 24 rfl 0 rfl rfl ?_
        refine x_get (v := .ref (aM 0)) C 13 25 rfl fi_X9 0 rfl rfl 5 (by decide) (mc wq_2_9) rfl ?_
        refine x_aload_n C 14 28 rfl 0 rfl rfl ?_
        refine x_get (v := .ref (aB 0)) C 15 29 rfl fi_X9 0 rfl rfl 1 (by decide) (mc wq_1_20) rfl ?_
        refine x_callGVZ (ci := 2) (q0 := 0) (q := (RX4, TX4, 8)) C 16 32 (c_X4_findsNeeded (xl x) (xD x) (xk x) (xg x) aM aJ aB sM sJ sB _ h) rfl wwGood (mem4 wq_32_20 wq_32_21 wq_32_22 wq_2_8) wq_32_23 1 ok_X4_findsNeeded rfl ⟨by decide, by decide⟩ (Nat.le_of_ble_eq_true rfl) ⟨Nat.le_refl _, Nat.le_refl _⟩ ⟨rfl, rfl⟩ rfl rfl [wdX (xk x) aX aT aB aD aR aK aM aV aW u2.1, wdT (xk x) aT sT, wdB (xk x) aD sD, wdR (xk x) aR sR, wdK (xk x) aK u2.2, wdV (xk x) aV sV, wdW (xk x) aW sW] (fun (u : St × St × St) => [wdX (xk x) aX aT aB aD aR aK aM aV aW u2.1, wdT (xk x) aT sT, wdB (xk x) aB u.2.2, wdB (xk x) aD sD, wdR (xk x) aR sR, wdK (xk x) aK u2.2, wdM (xk x) aM aJ u.1, wdK (xk x) aJ u.2.1, wdV (xk x) aV sV, wdW (xk x) aW sW]) [0, 1, 3, 4, 5, 8, 9, 6, 7, 2] [0, 1, 9, 2, 3, 4, 7, 8, 5, 6] (show List.Perm [0, 1, 3, 4, 5, 8, 9, 6, 7, 2] (List.range 10) by decide) rfl 10 (fun _ => rfl) (by decide) (fun _ => rfl) (fun r5 u5 h => ?_)
        refine x_if_ne C 17 35 41 rfl rfl (fun c6 => ?_) (fun c6 => ?_)
        · replace h := h.2 c6
          refine x_iload_n C 20 41 rfl 1 rfl rfl ?_
          refine x_iconst (v := (-1 : Int32)) C 21 42 rfl (by decide) ?_
          refine x_icmp_ne C 22 43 56 rfl rfl (fun c7 => ?_) (fun c7 => ?_)
          · replace h := h.2 c7
            refine x_aload_n C 27 56 rfl 0 rfl rfl ?_
            refine x_get (v := .ref (aM 0)) C 28 57 rfl fi_X9 0 rfl rfl 5 (by decide) (mc wq_2_9) rfl ?_
            refine x_iload_n C 29 60 rfl 1 rfl rfl ?_
            refine x_callGVI (ci := 2) (q0 := 0) (q := (RX4, TX4, 8)) C 30 61 (c_X4_neededAt (xl x) (xD x) (xk x) (xg x) aM aJ u5.1 u5.2.1 p1 _ h) rfl wwGood (mem4 wq_33_11 wq_33_12 wq_33_13 wq_2_8) wq_33_14 1 ok_X4_neededAt rfl ⟨by decide, by decide⟩ (Nat.le_of_ble_eq_true rfl) ⟨Nat.le_refl _, Nat.le_refl _⟩ ⟨rfl, rfl⟩ rfl rfl [wdX (xk x) aX aT aB aD aR aK aM aV aW u2.1, wdT (xk x) aT sT, wdB (xk x) aB u5.2.2, wdB (xk x) aD sD, wdR (xk x) aR sR, wdK (xk x) aK u2.2, wdV (xk x) aV sV, wdW (xk x) aW sW] (fun (u : Unit) => [wdX (xk x) aX aT aB aD aR aK aM aV aW u2.1, wdT (xk x) aT sT, wdB (xk x) aB u5.2.2, wdB (xk x) aD sD, wdR (xk x) aR sR, wdK (xk x) aK u2.2, wdM (xk x) aM aJ u5.1, wdK (xk x) aJ u5.2.1, wdV (xk x) aV sV, wdW (xk x) aW sW]) [0, 1, 2, 3, 4, 5, 8, 9, 6, 7] [0, 1, 2, 3, 4, 5, 8, 9, 6, 7] (show List.Perm [0, 1, 2, 3, 4, 5, 8, 9, 6, 7] (List.range 10) by decide) rfl 10 (fun _ => rfl) (by decide) (fun _ => rfl) (fun r8 _ h => ?_)
            exact x_iret C rt 31 64 rfl (u2.1, u5.2.2, u2.2, u5.1, u5.2.1) rfl h
          · replace h := h.1 c7
            refine x_aload_n C 23 46 rfl 0 rfl rfl ?_
            refine x_get (v := .ref (aM 0)) C 24 47 rfl fi_X9 0 rfl rfl 5 (by decide) (mc wq_2_9) rfl ?_
            refine x_get (v := .int (u5.1 5 0)) C 25 50 rfl fi_X4 23 rfl rfl 5 (by decide) (mc wq_32_19) rfl ?_
            refine x_goto C 26 53 64 rfl rfl ?_
            exact x_iret C rt 31 64 rfl (u2.1, u5.2.2, u2.2, u5.1, u5.2.1) rfl h
        · replace h := h.1 c6
          refine x_bipush (v := (-2 : Int32)) C 18 38 rfl (by decide) ?_
          exact x_iret C rt 19 40 rfl (u2.1, u5.2.2, u2.2, u5.1, u5.2.1) rfl h
  · replace h := h.2 c1
    refine x_iconst (v := (-1 : Int32)) C 3 5 rfl (by decide) ?_
    exact x_iret C rt 4 6 rfl (sX, sB, sK, sM, sJ) rfl h
theorem c_X9_needed (l : Launch) (D : va_G) (k : ClassId × ClassId) (g : Nat → Nat) (aX aT aB aD aR aK aM aJ aV aW : Nat → Nat) (sX : St) (sT : St) (sB : St) (sD : St) (sR : St) (sK : St) (sM : St) (sJ : St) (sV : St) (sW : Int64) (p1 : Int32) (K : Int32 → (St × St × St × St × St) → Prop) (h : wp_X9_needed sX sT sB sD sR sK sM sJ sV sW p1 K) : ConI l yX9_needed (Cond.code yX9_needed cX9_needed 2 (some .int) :: wsL_law) ({ frames := 6, cells := 0, slots := 0, locals := 147 } : Room) D k g [.ref (aX 0), .int p1] (fl [wdX k aX aT aB aD aR aK aM aV aW sX, wdT k aT sT, wdB k aB sB, wdB k aD sD, wdR k aR sR, wdK k aK sK, wdM k aM aJ sM, wdK k aJ sJ, wdV k aV sV, wdW k aW sW]) (fun (u : St × St × St × St × St) => fl [wdX k aX aT aB aD aR aK aM aV aW u.1, wdT k aT sT, wdB k aB u.2.1, wdB k aD sD, wdR k aR sR, wdK k aK u.2.2.1, wdM k aM aJ u.2.2.2.1, wdK k aJ u.2.2.2.2, wdV k aV sV, wdW k aW sW]) (fun (r : Int32) (u : St × St × St × St × St) => K r u) := by
  refine ConI.of (tb := tb_X9_needed) (cc := cX9_needed) (nL := 2) (by decide) rfl tbk_X9_needed (Nat.le_of_ble_eq_true rfl) ?_
  intro x hl hD hk hg C rt
  subst hl hD hk hg
  exact w_X9_needed C rt h
set_option maxHeartbeats 4000000 in
set_option maxRecDepth 100000 in
theorem w_X9_most {x : CT} {aX aT aB aD aR aK aM aJ aV aW : Nat → Nat} {sX : St} {sT : St} {sB : St} {sD : St} {sR : St} {sK : St} {sM : St} {sJ : St} {sV : St} {sW : Int64} {p1 : Int32} {K : Int32 → St → Prop} (C : Cx x cX9_most tb_X9_most 3 RX9 (Cond.code yX9_most cX9_most 3 (some .int) :: wsL_law) ({ frames := 0, cells := 0, slots := 0, locals := 0 } : Room)) (rt : RetI x 0 0 (fun (u : St) => fl [wdX (xk x) aX aT aB aD aR aK aM aV aW sX, wdT (xk x) aT sT, wdB (xk x) aB sB, wdB (xk x) aD sD, wdR (xk x) aR sR, wdK (xk x) aK sK, wdM (xk x) aM aJ sM, wdK (xk x) aJ sJ, wdV (xk x) aV u, wdW (xk x) aW sW]) (fun (r : Int32) (u : St) => K r u)) (h : wp_X9_most sX sT sB sD sR sK sM sJ sV sW p1 K) : Wx x 3 0 0 (fl [wdX (xk x) aX aT aB aD aR aK aM aV aW sX, wdT (xk x) aT sT, wdB (xk x) aB sB, wdB (xk x) aD sD, wdR (xk x) aR sR, wdK (xk x) aK sK, wdM (xk x) aM aJ sM, wdK (xk x) aJ sJ, wdV (xk x) aV sV, wdW (xk x) aW sW]) [(0, .ref (aX 0)), (1, .int p1)] 0 [] := by
  unfold wp_X9_most at h
  refine x_iload_n C 0 0 rfl 1 rfl rfl ?_
  refine x_if_lt C 1 1 9 rfl rfl (fun c1 => ?_) (fun c1 => ?_)
  · replace h := h.1 c1
    refine x_iconst (v := (-1 : Int32)) C 5 9 rfl (by decide) ?_
    exact x_iret C rt 6 10 rfl sV rfl h
  · replace h := h.2 c1
    refine x_iload_n C 2 4 rfl 1 rfl rfl ?_
    refine x_iconst (v := (3 : Int32)) C 3 5 rfl (by decide) ?_
    refine x_icmp_le C 4 6 11 rfl rfl (fun c2 => ?_) (fun c2 => ?_)
    · replace h := h.1 c2
      refine x_aload_n C 7 11 rfl 0 rfl rfl ?_
      refine x_get (v := .ref (aV 0)) C 8 12 rfl fi_X9 0 rfl rfl 6 (by decide) (mc wq_2_13) rfl ?_
      refine x_get (v := .int (sV 0 0)) C 9 15 rfl fi_X6 34 rfl rfl 0 (by decide) (mc wq_33_23) rfl ?_
      refine x_topi (fun y3 ey3 => ?_)
      replace h := h y3 ey3
      refine x_istore_n (lv' := [(0, .ref (aX 0)), (1, .int p1), (2, .int y3)]) C 10 18 rfl rfl (by decide) [1, 2, 0] rfl ?_
      refine x_aload_n C 11 19 rfl 0 rfl rfl ?_
      refine x_get (v := .ref (aV 0)) C 12 20 rfl fi_X9 0 rfl rfl 6 (by decide) (mc wq_2_13) rfl ?_
      refine x_iload_n C 13 23 rfl 1 rfl rfl ?_
      obtain ⟨z4, ez4⟩ : ∃ z : St, z = us sV 0 p1 := ⟨_, rfl⟩
      replace h := h z4 ez4
      refine x_put (ws' := fl [wdX (xk x) aX aT aB aD aR aK aM aV aW sX, wdT (xk x) aT sT, wdB (xk x) aB sB, wdB (xk x) aD sD, wdR (xk x) aR sR, wdK (xk x) aK sK, wdM (xk x) aM aJ sM, wdK (xk x) aJ sJ, wdV (xk x) aV z4, wdW (xk x) aW sW]) C 14 24 rfl fi_X6 tyX6 tyX6_ok nmX6 34 rfl rfl 0 (by decide) (mc wq_33_23) rfl rfl rfl (Nat.le_of_ble_eq_true rfl) (by rw [ez4]; rfl) ?_
      refine x_iload_n C 15 27 rfl 2 rfl rfl ?_
      exact x_iret C rt 16 28 rfl z4 rfl h
    · replace h := h.2 c2
      refine x_iconst (v := (-1 : Int32)) C 5 9 rfl (by decide) ?_
      exact x_iret C rt 6 10 rfl sV rfl h
theorem c_X9_most (l : Launch) (D : va_G) (k : ClassId × ClassId) (g : Nat → Nat) (aX aT aB aD aR aK aM aJ aV aW : Nat → Nat) (sX : St) (sT : St) (sB : St) (sD : St) (sR : St) (sK : St) (sM : St) (sJ : St) (sV : St) (sW : Int64) (p1 : Int32) (K : Int32 → St → Prop) (h : wp_X9_most sX sT sB sD sR sK sM sJ sV sW p1 K) : ConI l yX9_most (Cond.code yX9_most cX9_most 3 (some .int) :: wsL_law) ({ frames := 0, cells := 0, slots := 0, locals := 0 } : Room) D k g [.ref (aX 0), .int p1] (fl [wdX k aX aT aB aD aR aK aM aV aW sX, wdT k aT sT, wdB k aB sB, wdB k aD sD, wdR k aR sR, wdK k aK sK, wdM k aM aJ sM, wdK k aJ sJ, wdV k aV sV, wdW k aW sW]) (fun (u : St) => fl [wdX k aX aT aB aD aR aK aM aV aW sX, wdT k aT sT, wdB k aB sB, wdB k aD sD, wdR k aR sR, wdK k aK sK, wdM k aM aJ sM, wdK k aJ sJ, wdV k aV u, wdW k aW sW]) (fun (r : Int32) (u : St) => K r u) := by
  refine ConI.of (tb := tb_X9_most) (cc := cX9_most) (nL := 3) (by decide) rfl tbk_X9_most (Nat.le_of_ble_eq_true rfl) ?_
  intro x hl hD hk hg C rt
  subst hl hD hk hg
  exact w_X9_most C rt h
set_option maxHeartbeats 4000000 in
set_option maxRecDepth 100000 in
theorem w_X9_longest {x : CT} {aX aT aB aD aR aK aM aJ aV aW : Nat → Nat} {sX : St} {sT : St} {sB : St} {sD : St} {sR : St} {sK : St} {sM : St} {sJ : St} {sV : St} {sW : Int64} {p1 : Int32} {p2 : Int32} {p3 : Int32} {p4 : Int32} {K : Int32 → St → Prop} (C : Cx x cX9_longest tb_X9_longest 6 RX9 (Cond.code yX9_longest cX9_longest 6 (some .int) :: wsL_law) ({ frames := 5, cells := 0, slots := 0, locals := 125 } : Room)) (rt : RetI x 0 0 (fun (u : St) => fl [wdX (xk x) aX aT aB aD aR aK aM aV aW sX, wdT (xk x) aT sT, wdB (xk x) aB sB, wdB (xk x) aD sD, wdR (xk x) aR sR, wdK (xk x) aK sK, wdM (xk x) aM aJ sM, wdK (xk x) aJ sJ, wdV (xk x) aV u, wdW (xk x) aW sW]) (fun (r : Int32) (u : St) => K r u)) (h : wp_X9_longest sX sT sB sD sR sK sM sJ sV sW p1 p2 p3 p4 K) : Wx x 6 0 0 (fl [wdX (xk x) aX aT aB aD aR aK aM aV aW sX, wdT (xk x) aT sT, wdB (xk x) aB sB, wdB (xk x) aD sD, wdR (xk x) aR sR, wdK (xk x) aK sK, wdM (xk x) aM aJ sM, wdK (xk x) aJ sJ, wdV (xk x) aV sV, wdW (xk x) aW sW]) [(0, .ref (aX 0)), (1, .int p1), (2, .int p2), (3, .int p3), (4, .int p4)] 0 [] := by
  unfold wp_X9_longest at h
  refine x_iload_n C 0 0 rfl 1 rfl rfl ?_
  refine x_call0SZ C 1 1 (c_X9_isAct (xl x) (xD x) (xk x) (xg x) p1 _ h) rfl wwGood (mem3 wq_16_5 wq_16_6 wq_1_2) wq_16_7 1 ok_X9_isAct rfl ⟨by decide, by decide⟩ (Nat.le_of_ble_eq_true rfl) ⟨Nat.le_refl _, Nat.le_refl _⟩ ⟨rfl, rfl⟩ rfl (fun r1 _ h => ?_)
  refine x_if_ne C 2 4 9 rfl rfl (fun c2 => ?_) (fun c2 => ?_)
  · replace h := h.2 c2
    refine x_aload_n C 5 9 rfl 0 rfl rfl ?_
    refine x_get (v := .ref (aV 0)) C 6 10 rfl fi_X9 0 rfl rfl 6 (by decide) (mc wq_2_13) rfl ?_
    refine x_aload_n C 7 13 rfl 0 rfl rfl ?_
    refine x_get (v := .ref (aB 0)) C 8 14 rfl fi_X9 0 rfl rfl 1 (by decide) (mc wq_1_20) rfl ?_
    refine x_iload_n C 9 17 rfl 1 rfl rfl ?_
    refine x_iload_n C 10 18 rfl 2 rfl rfl ?_
    refine x_iload_n C 11 19 rfl 3 rfl rfl ?_
    refine x_iload C 12 20 rfl 4 rfl ?_
    refine x_callGVI (ci := 4) (q0 := 0) (q := (RX6, TX6, 6)) C 13 22 (c_X6_stateOf (xl x) (xD x) (xk x) (xg x) aV aB sV sB p1 p2 p3 p4 _ h) rfl wwGood (mem4 wq_34_8 wq_34_9 wq_34_10 wq_2_12) wq_34_11 5 ok_X6_stateOf rfl ⟨by decide, by decide⟩ (Nat.le_of_ble_eq_true rfl) ⟨Nat.le_refl _, Nat.le_refl _⟩ ⟨rfl, rfl⟩ rfl rfl [wdX (xk x) aX aT aB aD aR aK aM aV aW sX, wdT (xk x) aT sT, wdB (xk x) aD sD, wdR (xk x) aR sR, wdK (xk x) aK sK, wdM (xk x) aM aJ sM, wdK (xk x) aJ sJ, wdW (xk x) aW sW] (fun (u : Unit) => [wdX (xk x) aX aT aB aD aR aK aM aV aW sX, wdT (xk x) aT sT, wdB (xk x) aB sB, wdB (xk x) aD sD, wdR (xk x) aR sR, wdK (xk x) aK sK, wdM (xk x) aM aJ sM, wdK (xk x) aJ sJ, wdV (xk x) aV sV, wdW (xk x) aW sW]) [0, 1, 3, 4, 5, 6, 7, 9, 8, 2] [0, 1, 9, 2, 3, 4, 5, 6, 8, 7] (show List.Perm [0, 1, 3, 4, 5, 6, 7, 9, 8, 2] (List.range 10) by decide) rfl 10 (fun _ => rfl) (by decide) (fun _ => rfl) (fun r3 _ h => ?_)
    refine x_istore (lv' := [(0, .ref (aX 0)), (5, .int r3)]) C 14 25 rfl (by decide) [1, 0] rfl ?_
    refine x_iload C 15 27 rfl 1 rfl ?_
    refine x_if_ge C 16 29 36 rfl rfl (fun c4 => ?_) (fun c4 => ?_)
    · replace h := h.1 c4
      refine x_aload_n C 19 36 rfl 0 rfl rfl ?_
      refine x_get (v := .ref (aV 0)) C 20 37 rfl fi_X9 0 rfl rfl 6 (by decide) (mc wq_2_13) rfl ?_
      refine x_aload_n C 21 40 rfl 0 rfl rfl ?_
      refine x_get (v := .ref (aB 0)) C 22 41 rfl fi_X9 0 rfl rfl 1 (by decide) (mc wq_1_20) rfl ?_
      refine x_iload C 23 44 rfl 1 rfl ?_
      refine x_callGVI (ci := 4) (q0 := 0) (q := (RX6, TX6, 6)) C 24 46 (c_X6_longestFrom (xl x) (xD x) (xk x) (xg x) aV aB sV sB r3 _ h) rfl wwGood (mem4 wq_34_17 wq_34_18 wq_34_19 wq_2_12) wq_34_20 2 ok_X6_longestFrom rfl ⟨by decide, by decide⟩ (Nat.le_of_ble_eq_true rfl) ⟨Nat.le_refl _, Nat.le_refl _⟩ ⟨rfl, rfl⟩ rfl rfl [wdX (xk x) aX aT aB aD aR aK aM aV aW sX, wdT (xk x) aT sT, wdB (xk x) aD sD, wdR (xk x) aR sR, wdK (xk x) aK sK, wdM (xk x) aM aJ sM, wdK (xk x) aJ sJ, wdW (xk x) aW sW] (fun (u : St) => [wdX (xk x) aX aT aB aD aR aK aM aV aW sX, wdT (xk x) aT sT, wdB (xk x) aB sB, wdB (xk x) aD sD, wdR (xk x) aR sR, wdK (xk x) aK sK, wdM (xk x) aM aJ sM, wdK (xk x) aJ sJ, wdV (xk x) aV u, wdW (xk x) aW sW]) [0, 1, 3, 4, 5, 6, 7, 9, 8, 2] [0, 1, 9, 2, 3, 4, 5, 6, 8, 7] (show List.Perm [0, 1, 3, 4, 5, 6, 7, 9, 8, 2] (List.range 10) by decide) rfl 10 (fun _ => rfl) (by decide) (fun _ => rfl) (fun r5 u5 h => ?_)
      exact x_iret C rt 25 49 rfl u5 rfl h
    · replace h := h.2 c4
      refine x_iconst (v := (-1 : Int32)) C 17 32 rfl (by decide) ?_
      refine x_goto C 18 33 49 rfl rfl ?_
      exact x_iret C rt 25 49 rfl sV rfl h
  · replace h := h.1 c2
    refine x_iconst (v := (-1 : Int32)) C 3 7 rfl (by decide) ?_
    exact x_iret C rt 4 8 rfl sV rfl h
theorem c_X9_longest (l : Launch) (D : va_G) (k : ClassId × ClassId) (g : Nat → Nat) (aX aT aB aD aR aK aM aJ aV aW : Nat → Nat) (sX : St) (sT : St) (sB : St) (sD : St) (sR : St) (sK : St) (sM : St) (sJ : St) (sV : St) (sW : Int64) (p1 : Int32) (p2 : Int32) (p3 : Int32) (p4 : Int32) (K : Int32 → St → Prop) (h : wp_X9_longest sX sT sB sD sR sK sM sJ sV sW p1 p2 p3 p4 K) : ConI l yX9_longest (Cond.code yX9_longest cX9_longest 6 (some .int) :: wsL_law) ({ frames := 5, cells := 0, slots := 0, locals := 125 } : Room) D k g [.ref (aX 0), .int p1, .int p2, .int p3, .int p4] (fl [wdX k aX aT aB aD aR aK aM aV aW sX, wdT k aT sT, wdB k aB sB, wdB k aD sD, wdR k aR sR, wdK k aK sK, wdM k aM aJ sM, wdK k aJ sJ, wdV k aV sV, wdW k aW sW]) (fun (u : St) => fl [wdX k aX aT aB aD aR aK aM aV aW sX, wdT k aT sT, wdB k aB sB, wdB k aD sD, wdR k aR sR, wdK k aK sK, wdM k aM aJ sM, wdK k aJ sJ, wdV k aV u, wdW k aW sW]) (fun (r : Int32) (u : St) => K r u) := by
  refine ConI.of (tb := tb_X9_longest) (cc := cX9_longest) (nL := 6) (by decide) rfl tbk_X9_longest (Nat.le_of_ble_eq_true rfl) ?_
  intro x hl hD hk hg C rt
  subst hl hD hk hg
  exact w_X9_longest C rt h
set_option maxHeartbeats 4000000 in
set_option maxRecDepth 100000 in
theorem w_X9_next {x : CT} {aX aT aB aD aR aK aM aJ aV aW : Nat → Nat} {sX : St} {sT : St} {sB : St} {sD : St} {sR : St} {sK : St} {sM : St} {sJ : St} {sV : St} {sW : Int64} {p1 : Int32} {p2 : Int32} {p3 : Int32} {p4 : Int32} {K : Int32 → St → Prop} (C : Cx x cX9_next tb_X9_next 6 RX9 (Cond.code yX9_next cX9_next 6 (some .int) :: wsL_law) ({ frames := 4, cells := 0, slots := 0, locals := 100 } : Room)) (rt : RetI x 0 0 (fun (u : St) => fl [wdX (xk x) aX aT aB aD aR aK aM aV aW sX, wdT (xk x) aT sT, wdB (xk x) aB sB, wdB (xk x) aD sD, wdR (xk x) aR sR, wdK (xk x) aK sK, wdM (xk x) aM aJ sM, wdK (xk x) aJ sJ, wdV (xk x) aV u, wdW (xk x) aW sW]) (fun (r : Int32) (u : St) => K r u)) (h : wp_X9_next sX sT sB sD sR sK sM sJ sV sW p1 p2 p3 p4 K) : Wx x 6 0 0 (fl [wdX (xk x) aX aT aB aD aR aK aM aV aW sX, wdT (xk x) aT sT, wdB (xk x) aB sB, wdB (xk x) aD sD, wdR (xk x) aR sR, wdK (xk x) aK sK, wdM (xk x) aM aJ sM, wdK (xk x) aJ sJ, wdV (xk x) aV sV, wdW (xk x) aW sW]) [(0, .ref (aX 0)), (1, .int p1), (2, .int p2), (3, .int p3), (4, .int p4)] 0 [] := by
  unfold wp_X9_next at h
  refine x_iload_n C 0 0 rfl 1 rfl rfl ?_
  refine x_call0SZ C 1 1 (c_X9_isAct (xl x) (xD x) (xk x) (xg x) p1 _ h) rfl wwGood (mem3 wq_16_5 wq_16_6 wq_1_2) wq_16_7 1 ok_X9_isAct rfl ⟨by decide, by decide⟩ (Nat.le_of_ble_eq_true rfl) ⟨Nat.le_refl _, Nat.le_refl _⟩ ⟨rfl, rfl⟩ rfl (fun r1 _ h => ?_)
  refine x_if_ne C 2 4 9 rfl rfl (fun c2 => ?_) (fun c2 => ?_)
  · replace h := h.2 c2
    refine x_aload_n C 5 9 rfl 0 rfl rfl ?_
    refine x_get (v := .ref (aV 0)) C 6 10 rfl fi_X9 0 rfl rfl 6 (by decide) (mc wq_2_13) rfl ?_
    refine x_aload_n C 7 13 rfl 0 rfl rfl ?_
    refine x_get (v := .ref (aB 0)) C 8 14 rfl fi_X9 0 rfl rfl 1 (by decide) (mc wq_1_20) rfl ?_
    refine x_iload_n C 9 17 rfl 1 rfl rfl ?_
    refine x_iload_n C 10 18 rfl 2 rfl rfl ?_
    refine x_iload_n C 11 19 rfl 3 rfl rfl ?_
    refine x_iload C 12 20 rfl 4 rfl ?_
    refine x_callGVI (ci := 4) (q0 := 0) (q := (RX6, TX6, 6)) C 13 22 (c_X6_stateOf (xl x) (xD x) (xk x) (xg x) aV aB sV sB p1 p2 p3 p4 _ h) rfl wwGood (mem4 wq_34_8 wq_34_9 wq_34_10 wq_2_12) wq_34_11 5 ok_X6_stateOf rfl ⟨by decide, by decide⟩ (Nat.le_of_ble_eq_true rfl) ⟨Nat.le_refl _, Nat.le_refl _⟩ ⟨rfl, rfl⟩ rfl rfl [wdX (xk x) aX aT aB aD aR aK aM aV aW sX, wdT (xk x) aT sT, wdB (xk x) aD sD, wdR (xk x) aR sR, wdK (xk x) aK sK, wdM (xk x) aM aJ sM, wdK (xk x) aJ sJ, wdW (xk x) aW sW] (fun (u : Unit) => [wdX (xk x) aX aT aB aD aR aK aM aV aW sX, wdT (xk x) aT sT, wdB (xk x) aB sB, wdB (xk x) aD sD, wdR (xk x) aR sR, wdK (xk x) aK sK, wdM (xk x) aM aJ sM, wdK (xk x) aJ sJ, wdV (xk x) aV sV, wdW (xk x) aW sW]) [0, 1, 3, 4, 5, 6, 7, 9, 8, 2] [0, 1, 9, 2, 3, 4, 5, 6, 8, 7] (show List.Perm [0, 1, 3, 4, 5, 6, 7, 9, 8, 2] (List.range 10) by decide) rfl 10 (fun _ => rfl) (by decide) (fun _ => rfl) (fun r3 _ h => ?_)
    refine x_istore (lv' := [(0, .ref (aX 0)), (5, .int r3)]) C 14 25 rfl (by decide) [1, 0] rfl ?_
    refine x_iload C 15 27 rfl 1 rfl ?_
    refine x_if_ge C 16 29 36 rfl rfl (fun c4 => ?_) (fun c4 => ?_)
    · replace h := h.1 c4
      refine x_aload_n C 19 36 rfl 0 rfl rfl ?_
      refine x_get (v := .ref (aV 0)) C 20 37 rfl fi_X9 0 rfl rfl 6 (by decide) (mc wq_2_13) rfl ?_
      refine x_aload_n C 21 40 rfl 0 rfl rfl ?_
      refine x_get (v := .ref (aB 0)) C 22 41 rfl fi_X9 0 rfl rfl 1 (by decide) (mc wq_1_20) rfl ?_
      refine x_iload C 23 44 rfl 1 rfl ?_
      refine x_callGVI (ci := 4) (q0 := 0) (q := (RX6, TX6, 6)) C 24 46 (c_X6_statesAfter (xl x) (xD x) (xk x) (xg x) aV aB sV sB r3 _ h) rfl wwGood (mem4 wq_37_11 wq_37_12 wq_37_13 wq_2_12) wq_37_14 2 ok_X6_statesAfter rfl ⟨by decide, by decide⟩ (Nat.le_of_ble_eq_true rfl) ⟨Nat.le_refl _, Nat.le_refl _⟩ ⟨rfl, rfl⟩ rfl rfl [wdX (xk x) aX aT aB aD aR aK aM aV aW sX, wdT (xk x) aT sT, wdB (xk x) aD sD, wdR (xk x) aR sR, wdK (xk x) aK sK, wdM (xk x) aM aJ sM, wdK (xk x) aJ sJ, wdW (xk x) aW sW] (fun (u : St) => [wdX (xk x) aX aT aB aD aR aK aM aV aW sX, wdT (xk x) aT sT, wdB (xk x) aB sB, wdB (xk x) aD sD, wdR (xk x) aR sR, wdK (xk x) aK sK, wdM (xk x) aM aJ sM, wdK (xk x) aJ sJ, wdV (xk x) aV u, wdW (xk x) aW sW]) [0, 1, 3, 4, 5, 6, 7, 9, 8, 2] [0, 1, 9, 2, 3, 4, 5, 6, 8, 7] (show List.Perm [0, 1, 3, 4, 5, 6, 7, 9, 8, 2] (List.range 10) by decide) rfl 10 (fun _ => rfl) (by decide) (fun _ => rfl) (fun r5 u5 h => ?_)
      exact x_iret C rt 25 49 rfl u5 rfl h
    · replace h := h.2 c4
      refine x_iconst (v := (-1 : Int32)) C 17 32 rfl (by decide) ?_
      refine x_goto C 18 33 49 rfl rfl ?_
      exact x_iret C rt 25 49 rfl sV rfl h
  · replace h := h.1 c2
    refine x_iconst (v := (-1 : Int32)) C 3 7 rfl (by decide) ?_
    exact x_iret C rt 4 8 rfl sV rfl h
theorem c_X9_next (l : Launch) (D : va_G) (k : ClassId × ClassId) (g : Nat → Nat) (aX aT aB aD aR aK aM aJ aV aW : Nat → Nat) (sX : St) (sT : St) (sB : St) (sD : St) (sR : St) (sK : St) (sM : St) (sJ : St) (sV : St) (sW : Int64) (p1 : Int32) (p2 : Int32) (p3 : Int32) (p4 : Int32) (K : Int32 → St → Prop) (h : wp_X9_next sX sT sB sD sR sK sM sJ sV sW p1 p2 p3 p4 K) : ConI l yX9_next (Cond.code yX9_next cX9_next 6 (some .int) :: wsL_law) ({ frames := 4, cells := 0, slots := 0, locals := 100 } : Room) D k g [.ref (aX 0), .int p1, .int p2, .int p3, .int p4] (fl [wdX k aX aT aB aD aR aK aM aV aW sX, wdT k aT sT, wdB k aB sB, wdB k aD sD, wdR k aR sR, wdK k aK sK, wdM k aM aJ sM, wdK k aJ sJ, wdV k aV sV, wdW k aW sW]) (fun (u : St) => fl [wdX k aX aT aB aD aR aK aM aV aW sX, wdT k aT sT, wdB k aB sB, wdB k aD sD, wdR k aR sR, wdK k aK sK, wdM k aM aJ sM, wdK k aJ sJ, wdV k aV u, wdW k aW sW]) (fun (r : Int32) (u : St) => K r u) := by
  refine ConI.of (tb := tb_X9_next) (cc := cX9_next) (nL := 6) (by decide) rfl tbk_X9_next (Nat.le_of_ble_eq_true rfl) ?_
  intro x hl hD hk hg C rt
  subst hl hD hk hg
  exact w_X9_next C rt h
set_option maxHeartbeats 4000000 in
set_option maxRecDepth 100000 in
theorem w_X9_weight {x : CT} {aX aT aB aD aR aK aM aJ aV aW : Nat → Nat} {sX : St} {sT : St} {sB : St} {sD : St} {sR : St} {sK : St} {sM : St} {sJ : St} {sV : St} {sW : Int64} {p1 : Int32} {p2 : Int32} {K : Int32 → Int64 → Prop} (C : Cx x cX9_weight tb_X9_weight 3 RX9 (Cond.code yX9_weight cX9_weight 3 (some .int) :: wsL_law) ({ frames := 4, cells := 0, slots := 0, locals := 89 } : Room)) (rt : RetI x 0 0 (fun (u : Int64) => fl [wdX (xk x) aX aT aB aD aR aK aM aV aW sX, wdT (xk x) aT sT, wdB (xk x) aB sB, wdB (xk x) aD sD, wdR (xk x) aR sR, wdK (xk x) aK sK, wdM (xk x) aM aJ sM, wdK (xk x) aJ sJ, wdV (xk x) aV sV, wdW (xk x) aW u]) (fun (r : Int32) (u : Int64) => K r u)) (h : wp_X9_weight sX sT sB sD sR sK sM sJ sV sW p1 p2 K) : Wx x 3 0 0 (fl [wdX (xk x) aX aT aB aD aR aK aM aV aW sX, wdT (xk x) aT sT, wdB (xk x) aB sB, wdB (xk x) aD sD, wdR (xk x) aR sR, wdK (xk x) aK sK, wdM (xk x) aM aJ sM, wdK (xk x) aJ sJ, wdV (xk x) aV sV, wdW (xk x) aW sW]) [(0, .ref (aX 0)), (1, .int p1), (2, .int p2)] 0 [] := by
  unfold wp_X9_weight at h
  refine x_aload_n C 0 0 rfl 0 rfl rfl ?_
  refine x_get (v := .ref (aB 0)) C 1 1 rfl fi_X9 0 rfl rfl 1 (by decide) (mc wq_1_20) rfl ?_
  refine x_iload_n C 2 4 rfl 2 rfl rfl ?_
  refine x_callGVZ (ci := 0) (q0 := 0) (q := (RX1, TX1, 5)) C 3 5 (c_X1_hasCall (xl x) (xD x) (xk x) (xg x) aB sB p2 _ h) rfl wwGood (mem4 wq_16_23 wq_17_0 wq_17_1 wq_1_19) wq_17_2 1 ok_X1_hasCall rfl ⟨by decide, by decide⟩ (Nat.le_of_ble_eq_true rfl) ⟨Nat.le_refl _, Nat.le_refl _⟩ ⟨rfl, rfl⟩ rfl rfl [wdX (xk x) aX aT aB aD aR aK aM aV aW sX, wdT (xk x) aT sT, wdB (xk x) aD sD, wdR (xk x) aR sR, wdK (xk x) aK sK, wdM (xk x) aM aJ sM, wdK (xk x) aJ sJ, wdV (xk x) aV sV, wdW (xk x) aW sW] (fun (u : Unit) => [wdX (xk x) aX aT aB aD aR aK aM aV aW sX, wdT (xk x) aT sT, wdB (xk x) aB sB, wdB (xk x) aD sD, wdR (xk x) aR sR, wdK (xk x) aK sK, wdM (xk x) aM aJ sM, wdK (xk x) aJ sJ, wdV (xk x) aV sV, wdW (xk x) aW sW]) [0, 1, 3, 4, 5, 6, 7, 8, 9, 2] [0, 1, 9, 2, 3, 4, 5, 6, 7, 8] (show List.Perm [0, 1, 3, 4, 5, 6, 7, 8, 9, 2] (List.range 10) by decide) rfl 10 (fun _ => rfl) (by decide) (fun _ => rfl) (fun r1 _ h => ?_)
  refine x_if_ne C 4 8 13 rfl rfl (fun c2 => ?_) (fun c2 => ?_)
  · replace h := h.2 c2
    refine x_iload_n C 7 13 rfl 1 rfl rfl ?_
    by_cases c3 : p1 = (0 : Int32)
    · replace h := h.1 c3
      refine x_tabIn C 8 14 48 0 rfl (0 : Int32) c3 (by decide) (by decide) rfl rfl ?_
      refine x_aload_n C 9 48 rfl 0 rfl rfl ?_
      refine x_get (v := .ref (aW 0)) C 10 49 rfl fi_X9 0 rfl rfl 7 (by decide) (mc wq_2_17) rfl ?_
      refine x_aload_n C 11 52 rfl 0 rfl rfl ?_
      refine x_get (v := .ref (aB 0)) C 12 53 rfl fi_X9 0 rfl rfl 1 (by decide) (mc wq_1_20) rfl ?_
      refine x_iload_n C 13 56 rfl 2 rfl rfl ?_
      refine x_callGVI (ci := 6) (q0 := 0) (q := (RX8, TX8, 1)) C 14 57 (c_X8_ofCall (xl x) (xD x) (xk x) (xg x) aW aB sW sB p2 _ h) rfl wwGood (mem4 wq_38_7 wq_38_8 wq_38_9 wq_2_16) wq_38_10 2 ok_X8_ofCall rfl ⟨by decide, by decide⟩ (Nat.le_of_ble_eq_true rfl) ⟨Nat.le_refl _, Nat.le_refl _⟩ ⟨rfl, rfl⟩ rfl rfl [wdX (xk x) aX aT aB aD aR aK aM aV aW sX, wdT (xk x) aT sT, wdB (xk x) aD sD, wdR (xk x) aR sR, wdK (xk x) aK sK, wdM (xk x) aM aJ sM, wdK (xk x) aJ sJ, wdV (xk x) aV sV] (fun (u : Int64) => [wdX (xk x) aX aT aB aD aR aK aM aV aW sX, wdT (xk x) aT sT, wdB (xk x) aB sB, wdB (xk x) aD sD, wdR (xk x) aR sR, wdK (xk x) aK sK, wdM (xk x) aM aJ sM, wdK (xk x) aJ sJ, wdV (xk x) aV sV, wdW (xk x) aW u]) [0, 1, 3, 4, 5, 6, 7, 8, 9, 2] [0, 1, 9, 2, 3, 4, 5, 6, 7, 8] (show List.Perm [0, 1, 3, 4, 5, 6, 7, 8, 9, 2] (List.range 10) by decide) rfl 10 (fun _ => rfl) (by decide) (fun _ => rfl) (fun r4 u4 h => ?_)
      exact x_iret C rt 15 60 rfl u4 rfl h
    · replace h := h.2 c3
      by_cases c5 : p1 = (1 : Int32)
      · replace h := h.1 c5
        refine x_tabIn C 8 14 61 1 rfl (1 : Int32) c5 (by decide) (by decide) rfl rfl ?_
        refine x_aload_n C 16 61 rfl 0 rfl rfl ?_
        refine x_get (v := .ref (aW 0)) C 17 62 rfl fi_X9 0 rfl rfl 7 (by decide) (mc wq_2_17) rfl ?_
        refine x_aload_n C 18 65 rfl 0 rfl rfl ?_
        refine x_get (v := .ref (aB 0)) C 19 66 rfl fi_X9 0 rfl rfl 1 (by decide) (mc wq_1_20) rfl ?_
        refine x_iload_n C 20 69 rfl 2 rfl rfl ?_
        refine x_callGVI (ci := 6) (q0 := 0) (q := (RX8, TX8, 1)) C 21 70 (c_X8_ofSelf (xl x) (xD x) (xk x) (xg x) aW aB sW sB p2 _ h) rfl wwGood (mem4 wq_38_16 wq_38_17 wq_38_18 wq_2_16) wq_38_19 2 ok_X8_ofSelf rfl ⟨by decide, by decide⟩ (Nat.le_of_ble_eq_true rfl) ⟨Nat.le_refl _, Nat.le_refl _⟩ ⟨rfl, rfl⟩ rfl rfl [wdX (xk x) aX aT aB aD aR aK aM aV aW sX, wdT (xk x) aT sT, wdB (xk x) aD sD, wdR (xk x) aR sR, wdK (xk x) aK sK, wdM (xk x) aM aJ sM, wdK (xk x) aJ sJ, wdV (xk x) aV sV] (fun (u : Int64) => [wdX (xk x) aX aT aB aD aR aK aM aV aW sX, wdT (xk x) aT sT, wdB (xk x) aB sB, wdB (xk x) aD sD, wdR (xk x) aR sR, wdK (xk x) aK sK, wdM (xk x) aM aJ sM, wdK (xk x) aJ sJ, wdV (xk x) aV sV, wdW (xk x) aW u]) [0, 1, 3, 4, 5, 6, 7, 8, 9, 2] [0, 1, 9, 2, 3, 4, 5, 6, 7, 8] (show List.Perm [0, 1, 3, 4, 5, 6, 7, 8, 9, 2] (List.range 10) by decide) rfl 10 (fun _ => rfl) (by decide) (fun _ => rfl) (fun r6 u6 h => ?_)
        exact x_iret C rt 22 73 rfl u6 rfl h
      · replace h := h.2 c5
        by_cases c7 : p1 = (2 : Int32)
        · replace h := h.1 c7
          refine x_tabIn C 8 14 74 2 rfl (2 : Int32) c7 (by decide) (by decide) rfl rfl ?_
          refine x_aload_n C 23 74 rfl 0 rfl rfl ?_
          refine x_get (v := .ref (aW 0)) C 24 75 rfl fi_X9 0 rfl rfl 7 (by decide) (mc wq_2_17) rfl ?_
          refine x_aload_n C 25 78 rfl 0 rfl rfl ?_
          refine x_get (v := .ref (aB 0)) C 26 79 rfl fi_X9 0 rfl rfl 1 (by decide) (mc wq_1_20) rfl ?_
          refine x_iload_n C 27 82 rfl 2 rfl rfl ?_
          refine x_callGVI (ci := 6) (q0 := 0) (q := (RX8, TX8, 1)) C 28 83 (c_X8_ofOther (xl x) (xD x) (xk x) (xg x) aW aB sW sB p2 _ h) rfl wwGood (mem4 wq_38_22 wq_38_23 wq_39_0 wq_2_16) wq_39_1 2 ok_X8_ofOther rfl ⟨by decide, by decide⟩ (Nat.le_of_ble_eq_true rfl) ⟨Nat.le_refl _, Nat.le_refl _⟩ ⟨rfl, rfl⟩ rfl rfl [wdX (xk x) aX aT aB aD aR aK aM aV aW sX, wdT (xk x) aT sT, wdB (xk x) aD sD, wdR (xk x) aR sR, wdK (xk x) aK sK, wdM (xk x) aM aJ sM, wdK (xk x) aJ sJ, wdV (xk x) aV sV] (fun (u : Int64) => [wdX (xk x) aX aT aB aD aR aK aM aV aW sX, wdT (xk x) aT sT, wdB (xk x) aB sB, wdB (xk x) aD sD, wdR (xk x) aR sR, wdK (xk x) aK sK, wdM (xk x) aM aJ sM, wdK (xk x) aJ sJ, wdV (xk x) aV sV, wdW (xk x) aW u]) [0, 1, 3, 4, 5, 6, 7, 8, 9, 2] [0, 1, 9, 2, 3, 4, 5, 6, 7, 8] (show List.Perm [0, 1, 3, 4, 5, 6, 7, 8, 9, 2] (List.range 10) by decide) rfl 10 (fun _ => rfl) (by decide) (fun _ => rfl) (fun r8 u8 h => ?_)
          exact x_iret C rt 29 86 rfl u8 rfl h
        · replace h := h.2 c7
          by_cases c9 : p1 = (3 : Int32)
          · replace h := h.1 c9
            refine x_tabIn C 8 14 87 3 rfl (3 : Int32) c9 (by decide) (by decide) rfl rfl ?_
            refine x_aload_n C 30 87 rfl 0 rfl rfl ?_
            refine x_get (v := .ref (aW 0)) C 31 88 rfl fi_X9 0 rfl rfl 7 (by decide) (mc wq_2_17) rfl ?_
            refine x_aload_n C 32 91 rfl 0 rfl rfl ?_
            refine x_get (v := .ref (aB 0)) C 33 92 rfl fi_X9 0 rfl rfl 1 (by decide) (mc wq_1_20) rfl ?_
            refine x_iload_n C 34 95 rfl 2 rfl rfl ?_
            refine x_callGVI (ci := 6) (q0 := 0) (q := (RX8, TX8, 1)) C 35 96 (c_X8_ofPlain (xl x) (xD x) (xk x) (xg x) aW aB sW sB p2 _ h) rfl wwGood (mem4 wq_39_3 wq_39_4 wq_39_5 wq_2_16) wq_39_6 2 ok_X8_ofPlain rfl ⟨by decide, by decide⟩ (Nat.le_of_ble_eq_true rfl) ⟨Nat.le_refl _, Nat.le_refl _⟩ ⟨rfl, rfl⟩ rfl rfl [wdX (xk x) aX aT aB aD aR aK aM aV aW sX, wdT (xk x) aT sT, wdB (xk x) aD sD, wdR (xk x) aR sR, wdK (xk x) aK sK, wdM (xk x) aM aJ sM, wdK (xk x) aJ sJ, wdV (xk x) aV sV] (fun (u : Int64) => [wdX (xk x) aX aT aB aD aR aK aM aV aW sX, wdT (xk x) aT sT, wdB (xk x) aB sB, wdB (xk x) aD sD, wdR (xk x) aR sR, wdK (xk x) aK sK, wdM (xk x) aM aJ sM, wdK (xk x) aJ sJ, wdV (xk x) aV sV, wdW (xk x) aW u]) [0, 1, 3, 4, 5, 6, 7, 8, 9, 2] [0, 1, 9, 2, 3, 4, 5, 6, 7, 8] (show List.Perm [0, 1, 3, 4, 5, 6, 7, 8, 9, 2] (List.range 10) by decide) rfl 10 (fun _ => rfl) (by decide) (fun _ => rfl) (fun r10 u10 h => ?_)
            exact x_iret C rt 36 99 rfl u10 rfl h
          · replace h := h.2 c9
            by_cases c11 : p1 = (4 : Int32)
            · replace h := h.1 c11
              refine x_tabIn C 8 14 100 4 rfl (4 : Int32) c11 (by decide) (by decide) rfl rfl ?_
              refine x_aload_n C 37 100 rfl 0 rfl rfl ?_
              refine x_get (v := .ref (aW 0)) C 38 101 rfl fi_X9 0 rfl rfl 7 (by decide) (mc wq_2_17) rfl ?_
              refine x_aload_n C 39 104 rfl 0 rfl rfl ?_
              refine x_get (v := .ref (aB 0)) C 40 105 rfl fi_X9 0 rfl rfl 1 (by decide) (mc wq_1_20) rfl ?_
              refine x_iload_n C 41 108 rfl 2 rfl rfl ?_
              refine x_callGVI (ci := 6) (q0 := 0) (q := (RX8, TX8, 1)) C 42 109 (c_X8_ofFar (xl x) (xD x) (xk x) (xg x) aW aB sW sB p2 _ h) rfl wwGood (mem4 wq_39_12 wq_39_13 wq_39_14 wq_2_16) wq_39_15 2 ok_X8_ofFar rfl ⟨by decide, by decide⟩ (Nat.le_of_ble_eq_true rfl) ⟨Nat.le_refl _, Nat.le_refl _⟩ ⟨rfl, rfl⟩ rfl rfl [wdX (xk x) aX aT aB aD aR aK aM aV aW sX, wdT (xk x) aT sT, wdB (xk x) aD sD, wdR (xk x) aR sR, wdK (xk x) aK sK, wdM (xk x) aM aJ sM, wdK (xk x) aJ sJ, wdV (xk x) aV sV] (fun (u : Int64) => [wdX (xk x) aX aT aB aD aR aK aM aV aW sX, wdT (xk x) aT sT, wdB (xk x) aB sB, wdB (xk x) aD sD, wdR (xk x) aR sR, wdK (xk x) aK sK, wdM (xk x) aM aJ sM, wdK (xk x) aJ sJ, wdV (xk x) aV sV, wdW (xk x) aW u]) [0, 1, 3, 4, 5, 6, 7, 8, 9, 2] [0, 1, 9, 2, 3, 4, 5, 6, 7, 8] (show List.Perm [0, 1, 3, 4, 5, 6, 7, 8, 9, 2] (List.range 10) by decide) rfl 10 (fun _ => rfl) (by decide) (fun _ => rfl) (fun r12 u12 h => ?_)
              exact x_iret C rt 43 112 rfl u12 rfl h
            · replace h := h.2 c11
              have nc3 := ne_toInt c3
              have nc5 := ne_toInt c5
              have nc7 := ne_toInt c7
              have nc9 := ne_toInt c9
              have nc11 := ne_toInt c11
              refine x_tabOut C 8 14 113 rfl (by have zc3 : (0 : Int32).toInt = 0 := (by decide); rw [zc3] at nc3; have zc5 : (1 : Int32).toInt = 1 := (by decide); rw [zc5] at nc5; have zc7 : (2 : Int32).toInt = 2 := (by decide); rw [zc7] at nc7; have zc9 : (3 : Int32).toInt = 3 := (by decide); rw [zc9] at nc9; have zc11 : (4 : Int32).toInt = 4 := (by decide); rw [zc11] at nc11; omega) rfl ?_
              refine x_iconst (v := (-1 : Int32)) C 44 113 rfl (by decide) ?_
              exact x_iret C rt 45 114 rfl sW rfl h
  · replace h := h.1 c2
    refine x_iconst (v := (-1 : Int32)) C 5 11 rfl (by decide) ?_
    exact x_iret C rt 6 12 rfl sW rfl h
theorem c_X9_weight (l : Launch) (D : va_G) (k : ClassId × ClassId) (g : Nat → Nat) (aX aT aB aD aR aK aM aJ aV aW : Nat → Nat) (sX : St) (sT : St) (sB : St) (sD : St) (sR : St) (sK : St) (sM : St) (sJ : St) (sV : St) (sW : Int64) (p1 : Int32) (p2 : Int32) (K : Int32 → Int64 → Prop) (h : wp_X9_weight sX sT sB sD sR sK sM sJ sV sW p1 p2 K) : ConI l yX9_weight (Cond.code yX9_weight cX9_weight 3 (some .int) :: wsL_law) ({ frames := 4, cells := 0, slots := 0, locals := 89 } : Room) D k g [.ref (aX 0), .int p1, .int p2] (fl [wdX k aX aT aB aD aR aK aM aV aW sX, wdT k aT sT, wdB k aB sB, wdB k aD sD, wdR k aR sR, wdK k aK sK, wdM k aM aJ sM, wdK k aJ sJ, wdV k aV sV, wdW k aW sW]) (fun (u : Int64) => fl [wdX k aX aT aB aD aR aK aM aV aW sX, wdT k aT sT, wdB k aB sB, wdB k aD sD, wdR k aR sR, wdK k aK sK, wdM k aM aJ sM, wdK k aJ sJ, wdV k aV sV, wdW k aW u]) (fun (r : Int32) (u : Int64) => K r u) := by
  refine ConI.of (tb := tb_X9_weight) (cc := cX9_weight) (nL := 3) (by decide) rfl tbk_X9_weight (Nat.le_of_ble_eq_true rfl) ?_
  intro x hl hD hk hg C rt
  subst hl hD hk hg
  exact w_X9_weight C rt h
set_option maxHeartbeats 4000000 in
set_option maxRecDepth 100000 in
theorem w_X9_count {x : CT} {aX aT aB aD aR aK aM aJ aV aW : Nat → Nat} {sX : St} {sT : St} {sB : St} {sD : St} {sR : St} {sK : St} {sM : St} {sJ : St} {sV : St} {sW : Int64} {p1 : Int32} {K : Int32 → Prop} (C : Cx x cX9_count tb_X9_count 2 RX9 (Cond.code yX9_count cX9_count 2 (some .int) :: wsL_law) ({ frames := 2, cells := 0, slots := 0, locals := 45 } : Room)) (rt : RetI x 0 0 (fun (u : Unit) => fl [wdX (xk x) aX aT aB aD aR aK aM aV aW sX, wdT (xk x) aT sT, wdB (xk x) aB sB, wdB (xk x) aD sD, wdR (xk x) aR sR, wdK (xk x) aK sK, wdM (xk x) aM aJ sM, wdK (xk x) aJ sJ, wdV (xk x) aV sV, wdW (xk x) aW sW]) (fun (r : Int32) (_ : Unit) => K r)) (h : wp_X9_count sX sT sB sD sR sK sM sJ sV sW p1 K) : Wx x 2 0 0 (fl [wdX (xk x) aX aT aB aD aR aK aM aV aW sX, wdT (xk x) aT sT, wdB (xk x) aB sB, wdB (xk x) aD sD, wdR (xk x) aR sR, wdK (xk x) aK sK, wdM (xk x) aM aJ sM, wdK (xk x) aJ sJ, wdV (xk x) aV sV, wdW (xk x) aW sW]) [(0, .ref (aX 0)), (1, .int p1)] 0 [] := by
  unfold wp_X9_count at h
  refine x_iload_n C 0 0 rfl 1 rfl rfl ?_
  by_cases c1 : p1 = (0 : Int32)
  · replace h := h.1 c1
    refine x_tabIn C 1 1 40 0 rfl (0 : Int32) c1 (by decide) (by decide) rfl rfl ?_
    refine x_aload_n C 2 40 rfl 0 rfl rfl ?_
    refine x_get (v := .ref (aB 0)) C 3 41 rfl fi_X9 0 rfl rfl 1 (by decide) (mc wq_1_20) rfl ?_
    refine x_get (v := .int (sB 4 0)) C 4 44 rfl fi_X1 3 rfl rfl 4 (by decide) (mc wq_41_1) rfl ?_
    exact x_iret C rt 5 47 rfl () rfl h
  · replace h := h.2 c1
    by_cases c2 : p1 = (1 : Int32)
    · replace h := h.1 c2
      refine x_tabIn C 1 1 48 1 rfl (1 : Int32) c2 (by decide) (by decide) rfl rfl ?_
      refine x_aload_n C 6 48 rfl 0 rfl rfl ?_
      refine x_get (v := .ref (aB 0)) C 7 49 rfl fi_X9 0 rfl rfl 1 (by decide) (mc wq_1_20) rfl ?_
      refine x_callGVI (ci := 0) (q0 := 0) (q := (RX1, TX1, 5)) C 8 52 (c_X1_placesOfAll (xl x) (xD x) (xk x) (xg x) aB sB _ h) rfl wwGood (mem4 wq_41_2 wq_41_3 wq_41_4 wq_1_19) wq_41_5 0 ok_X1_placesOfAll rfl ⟨by decide, by decide⟩ (Nat.le_of_ble_eq_true rfl) ⟨Nat.le_refl _, Nat.le_refl _⟩ ⟨rfl, rfl⟩ rfl rfl [wdX (xk x) aX aT aB aD aR aK aM aV aW sX, wdT (xk x) aT sT, wdB (xk x) aD sD, wdR (xk x) aR sR, wdK (xk x) aK sK, wdM (xk x) aM aJ sM, wdK (xk x) aJ sJ, wdV (xk x) aV sV, wdW (xk x) aW sW] (fun (u : Unit) => [wdX (xk x) aX aT aB aD aR aK aM aV aW sX, wdT (xk x) aT sT, wdB (xk x) aB sB, wdB (xk x) aD sD, wdR (xk x) aR sR, wdK (xk x) aK sK, wdM (xk x) aM aJ sM, wdK (xk x) aJ sJ, wdV (xk x) aV sV, wdW (xk x) aW sW]) [0, 1, 3, 4, 5, 6, 7, 8, 9, 2] [0, 1, 9, 2, 3, 4, 5, 6, 7, 8] (show List.Perm [0, 1, 3, 4, 5, 6, 7, 8, 9, 2] (List.range 10) by decide) rfl 10 (fun _ => rfl) (by decide) (fun _ => rfl) (fun r3 _ h => ?_)
      exact x_iret C rt 9 55 rfl () rfl h
    · replace h := h.2 c2
      by_cases c4 : p1 = (2 : Int32)
      · replace h := h.1 c4
        refine x_tabIn C 1 1 56 2 rfl (2 : Int32) c4 (by decide) (by decide) rfl rfl ?_
        refine x_aload_n C 10 56 rfl 0 rfl rfl ?_
        refine x_get (v := .ref (aR 0)) C 11 57 rfl fi_X9 0 rfl rfl 3 (by decide) (mc wq_2_1) rfl ?_
        refine x_get (v := .int (sR 1 0)) C 12 60 rfl fi_X5 13 rfl rfl 1 (by decide) (mc wq_27_10) rfl ?_
        exact x_iret C rt 13 63 rfl () rfl h
      · replace h := h.2 c4
        by_cases c5 : p1 = (3 : Int32)
        · replace h := h.1 c5
          refine x_tabIn C 1 1 64 3 rfl (3 : Int32) c5 (by decide) (by decide) rfl rfl ?_
          refine x_aload_n C 14 64 rfl 0 rfl rfl ?_
          refine x_get (v := .ref (aB 0)) C 15 65 rfl fi_X9 0 rfl rfl 1 (by decide) (mc wq_1_20) rfl ?_
          refine x_callGVI (ci := 0) (q0 := 0) (q := (RX1, TX1, 5)) C 16 68 (c_X1_arcsOfAll (xl x) (xD x) (xk x) (xg x) aB sB _ h) rfl wwGood (mem4 wq_41_6 wq_41_7 wq_41_8 wq_1_19) wq_41_9 0 ok_X1_arcsOfAll rfl ⟨by decide, by decide⟩ (Nat.le_of_ble_eq_true rfl) ⟨Nat.le_refl _, Nat.le_refl _⟩ ⟨rfl, rfl⟩ rfl rfl [wdX (xk x) aX aT aB aD aR aK aM aV aW sX, wdT (xk x) aT sT, wdB (xk x) aD sD, wdR (xk x) aR sR, wdK (xk x) aK sK, wdM (xk x) aM aJ sM, wdK (xk x) aJ sJ, wdV (xk x) aV sV, wdW (xk x) aW sW] (fun (u : Unit) => [wdX (xk x) aX aT aB aD aR aK aM aV aW sX, wdT (xk x) aT sT, wdB (xk x) aB sB, wdB (xk x) aD sD, wdR (xk x) aR sR, wdK (xk x) aK sK, wdM (xk x) aM aJ sM, wdK (xk x) aJ sJ, wdV (xk x) aV sV, wdW (xk x) aW sW]) [0, 1, 3, 4, 5, 6, 7, 8, 9, 2] [0, 1, 9, 2, 3, 4, 5, 6, 7, 8] (show List.Perm [0, 1, 3, 4, 5, 6, 7, 8, 9, 2] (List.range 10) by decide) rfl 10 (fun _ => rfl) (by decide) (fun _ => rfl) (fun r6 _ h => ?_)
          exact x_iret C rt 17 71 rfl () rfl h
        · replace h := h.2 c5
          by_cases c7 : p1 = (4 : Int32)
          · replace h := h.1 c7
            refine x_tabIn C 1 1 72 4 rfl (4 : Int32) c7 (by decide) (by decide) rfl rfl ?_
            refine x_aload_n C 18 72 rfl 0 rfl rfl ?_
            refine x_get (v := .ref (aT 0)) C 19 73 rfl fi_X9 0 rfl rfl 0 (by decide) (mc wq_1_16) rfl ?_
            refine x_get (v := .int (sT 1 0)) C 20 76 rfl fi_X7 1 rfl rfl 1 (by decide) (mc wq_6_7) rfl ?_
            exact x_iret C rt 21 79 rfl () rfl h
          · replace h := h.2 c7
            by_cases c8 : p1 = (5 : Int32)
            · replace h := h.1 c8
              refine x_tabIn C 1 1 80 5 rfl (5 : Int32) c8 (by decide) (by decide) rfl rfl ?_
              refine x_aload_n C 22 80 rfl 0 rfl rfl ?_
              refine x_get (v := .ref (aV 0)) C 23 81 rfl fi_X9 0 rfl rfl 6 (by decide) (mc wq_2_13) rfl ?_
              refine x_get (v := .int (sV 0 0)) C 24 84 rfl fi_X6 34 rfl rfl 0 (by decide) (mc wq_33_23) rfl ?_
              exact x_iret C rt 25 87 rfl () rfl h
            · replace h := h.2 c8
              have nc1 := ne_toInt c1
              have nc2 := ne_toInt c2
              have nc4 := ne_toInt c4
              have nc5 := ne_toInt c5
              have nc7 := ne_toInt c7
              have nc8 := ne_toInt c8
              refine x_tabOut C 1 1 88 rfl (by have zc1 : (0 : Int32).toInt = 0 := (by decide); rw [zc1] at nc1; have zc2 : (1 : Int32).toInt = 1 := (by decide); rw [zc2] at nc2; have zc4 : (2 : Int32).toInt = 2 := (by decide); rw [zc4] at nc4; have zc5 : (3 : Int32).toInt = 3 := (by decide); rw [zc5] at nc5; have zc7 : (4 : Int32).toInt = 4 := (by decide); rw [zc7] at nc7; have zc8 : (5 : Int32).toInt = 5 := (by decide); rw [zc8] at nc8; omega) rfl ?_
              refine x_iconst (v := (-1 : Int32)) C 26 88 rfl (by decide) ?_
              exact x_iret C rt 27 89 rfl () rfl h
theorem c_X9_count (l : Launch) (D : va_G) (k : ClassId × ClassId) (g : Nat → Nat) (aX aT aB aD aR aK aM aJ aV aW : Nat → Nat) (sX : St) (sT : St) (sB : St) (sD : St) (sR : St) (sK : St) (sM : St) (sJ : St) (sV : St) (sW : Int64) (p1 : Int32) (K : Int32 → Prop) (h : wp_X9_count sX sT sB sD sR sK sM sJ sV sW p1 K) : ConI l yX9_count (Cond.code yX9_count cX9_count 2 (some .int) :: wsL_law) ({ frames := 2, cells := 0, slots := 0, locals := 45 } : Room) D k g [.ref (aX 0), .int p1] (fl [wdX k aX aT aB aD aR aK aM aV aW sX, wdT k aT sT, wdB k aB sB, wdB k aD sD, wdR k aR sR, wdK k aK sK, wdM k aM aJ sM, wdK k aJ sJ, wdV k aV sV, wdW k aW sW]) (fun (u : Unit) => fl [wdX k aX aT aB aD aR aK aM aV aW sX, wdT k aT sT, wdB k aB sB, wdB k aD sD, wdR k aR sR, wdK k aK sK, wdM k aM aJ sM, wdK k aJ sJ, wdV k aV sV, wdW k aW sW]) (fun (r : Int32) (_ : Unit) => K r) := by
  refine ConI.of (tb := tb_X9_count) (cc := cX9_count) (nL := 2) (by decide) rfl tbk_X9_count (Nat.le_of_ble_eq_true rfl) ?_
  intro x hl hD hk hg C rt
  subst hl hD hk hg
  exact w_X9_count C rt h
set_option maxHeartbeats 4000000 in
set_option maxRecDepth 100000 in
theorem w_X9_trace {x : CT} {aX aT aB aD aR aK aM aJ aV aW : Nat → Nat} {sX : St} {sT : St} {sB : St} {sD : St} {sR : St} {sK : St} {sM : St} {sJ : St} {sV : St} {sW : Int64} {K : Int64 → Prop} (C : Cx x cX9_trace tb_X9_trace 1 RX9 (Cond.code yX9_trace cX9_trace 1 (some .long) :: wsL_law) ({ frames := 0, cells := 0, slots := 0, locals := 0 } : Room)) (rt : RetL x 0 0 (fun (u : Unit) => fl [wdX (xk x) aX aT aB aD aR aK aM aV aW sX, wdT (xk x) aT sT, wdB (xk x) aB sB, wdB (xk x) aD sD, wdR (xk x) aR sR, wdK (xk x) aK sK, wdM (xk x) aM aJ sM, wdK (xk x) aJ sJ, wdV (xk x) aV sV, wdW (xk x) aW sW]) (fun (r : Int64) (_ : Unit) => K r)) (h : wp_X9_trace sX sT sB sD sR sK sM sJ sV sW K) : Wx x 1 0 0 (fl [wdX (xk x) aX aT aB aD aR aK aM aV aW sX, wdT (xk x) aT sT, wdB (xk x) aB sB, wdB (xk x) aD sD, wdR (xk x) aR sR, wdK (xk x) aK sK, wdM (xk x) aM aJ sM, wdK (xk x) aJ sJ, wdV (xk x) aV sV, wdW (xk x) aW sW]) [(0, .ref (aX 0))] 0 [] := by
  unfold wp_X9_trace at h
  refine x_aload_n C 0 0 rfl 0 rfl rfl ?_
  refine x_get (v := .ref (aW 0)) C 1 1 rfl fi_X9 0 rfl rfl 7 (by decide) (mc wq_2_17) rfl ?_
  refine x_get (v := .long sW) C 2 4 rfl fi_X8 39 rfl rfl 0 (by decide) (mc wq_41_19) rfl ?_
  exact x_lret C rt 3 7 rfl () rfl h
theorem c_X9_trace (l : Launch) (D : va_G) (k : ClassId × ClassId) (g : Nat → Nat) (aX aT aB aD aR aK aM aJ aV aW : Nat → Nat) (sX : St) (sT : St) (sB : St) (sD : St) (sR : St) (sK : St) (sM : St) (sJ : St) (sV : St) (sW : Int64) (K : Int64 → Prop) (h : wp_X9_trace sX sT sB sD sR sK sM sJ sV sW K) : ConL l yX9_trace (Cond.code yX9_trace cX9_trace 1 (some .long) :: wsL_law) ({ frames := 0, cells := 0, slots := 0, locals := 0 } : Room) D k g [.ref (aX 0)] (fl [wdX k aX aT aB aD aR aK aM aV aW sX, wdT k aT sT, wdB k aB sB, wdB k aD sD, wdR k aR sR, wdK k aK sK, wdM k aM aJ sM, wdK k aJ sJ, wdV k aV sV, wdW k aW sW]) (fun (u : Unit) => fl [wdX k aX aT aB aD aR aK aM aV aW sX, wdT k aT sT, wdB k aB sB, wdB k aD sD, wdR k aR sR, wdK k aK sK, wdM k aM aJ sM, wdK k aJ sJ, wdV k aV sV, wdW k aW sW]) (fun (r : Int64) (_ : Unit) => K r) := by
  refine ConL.of (tb := tb_X9_trace) (cc := cX9_trace) (nL := 1) (by decide) rfl tbk_X9_trace (Nat.le_of_ble_eq_true rfl) ?_
  intro x hl hD hk hg C rt
  subst hl hD hk hg
  exact w_X9_trace C rt h
